section
variable {p : Program} {l : Launch} {e : Env} {s : State} {m : MethodId} {args : Array Value} {below : List Frame} {meth : Method} {c : Code} {g : xG}
set_option maxHeartbeats 4000000 in
set_option maxRecDepth 100000 in
theorem s_X10_through_L35 {Qf : Int32 → xM → Prop} (C : x_C p s m args meth c g RX10 cX10_through 6 (some .int)) (hX : xpX g) : ∀ (nn : Nat) {v1 : Int32} {v2 : Int32} {v4 : Int32} {v5 : Int32} {u : xM} {H : Heap} {locs : List Loc} {ls : Array Slot} (hw : x_W g s.heap H locs u) (hl : lv_has ls 6 [(0, .ref (xad g 0)), (1, .int v1), (2, .int v2), (3, .ref (xad g 110)), (4, .int v4), (5, .int v5)]) (h : p_X10_through_L35 Qf nn v1 v2 v4 v5 u), W p l e (x_rm 4 142) s m args below meth c H locs 0 0 (MQ below (x_Qi g Qf) args s 0 0 (x_A g)) (F0 m 35 ls []) := by
  intro nn
  induction nn with
  | zero => intro v1 v2 v4 v5 u H locs ls hw hl h; exact h.elim
  | succ nn ih =>
    intro v1 v2 v4 v5 u H locs ls hw hl h
    unfold p_X10_through_L35 at h
    have hx := C.1
    have hb := C.2.1
    refine lv_iload hx hb dX10_through_35 (lv_at hl 5 rfl) ?_
    refine lv_iload_n hx hb dX10_through_37 rfl (lv_at hl 2 rfl) ?_
    refine lv_icmp_ge (tgt := 62) hx hb dX10_through_38 (by decide) (fun c1 => ?_) (fun c1 => ?_)
    · have h := h.1 c1
      refine lv_aload_n hx hb dX10_through_62 rfl (lv_at hl 0 rfl) ?_
      refine lv_iload hx hb dX10_through_63 (lv_at hl 4 rfl) ?_
      refine x_calli hw (x_runV (ci := 10) C hw (m_X10_fine l C.2.2.2.2.2.2.2.2.1 hX h) (xoX_0 hX) rfl (x_gV xw_622 xw_623 xw_624 xw_2 xw_625) rfl rfl qX10_fine ⟨(Nat.le_of_ble_eq_true rfl), (Nat.le_of_ble_eq_true rfl)⟩ rfl hl.1 rfl (Nat.le_of_ble_eq_true rfl) dX10_through_65) (fun r3 u2 H locs hw h => ?_)
      exact x_iret C hw h dX10_through_68
    · have h := h.2 c1
      refine lv_aload_n hx hb dX10_through_41 rfl (lv_at hl 3 rfl) ?_
      refine x_callv hw (x_runV (ci := 1) C hw (m_X1_goOneHour l C.2.2.2.2.2.2.2.2.1 (xpL_110 hX) h) (xoL_0 (xpL_110 hX)) rfl (x_gV xw_1368 xw_1165 xw_1166 xw_15 xw_1167) rfl rfl qX1_goOneHour ⟨(Nat.le_of_ble_eq_true rfl), (Nat.le_of_ble_eq_true rfl)⟩ rfl hl.1 rfl (Nat.le_of_ble_eq_true rfl) dX10_through_42) (fun u4 H locs hw h => ?_)
      refine lv_iload hx hb dX10_through_45 (lv_at hl 4 rfl) ?_
      refine lv_aload_n hx hb dX10_through_47 rfl (lv_at hl 3 rfl) ?_
      refine x_getr (ci := 1) C hw 14 (xoL_0 (xpL_110 hX)) rfl inlX1 (by decide) rfl rfl (xrL_0_14 (xpL_110 hX)) xw_1431 dX10_through_48 ?_
      refine lv_iload_n hx hb dX10_through_51 rfl (lv_at hl 1 rfl) ?_
      have c5 := h.1
      have h := h.2
      refine x_iald C hw (xoL_26 (xpL_110 hX)) c5 dX10_through_52 ?_
      refine lv_iadd hx hb dX10_through_53 ?_
      refine lv_topi (fun x6 ex6 => ?_)
      have h := h x6 ex6
      refine lv_istore (lv' := [(4, .int x6), (0, .ref (xad g 0)), (1, .int v1), (2, .int v2), (3, .ref (xad g 110)), (5, .int v5)]) hx hb dX10_through_54 hl (by decide) rfl (fun ls hl => ?_)
      obtain ⟨x7, ex7⟩ : ∃ y : Int32, y = v5 + 1 := ⟨_, rfl⟩
      have h := h x7 ex7
      refine lv_iinc (v := x7) (lv' := [(5, .int x7), (4, .int x6), (0, .ref (xad g 0)), (1, .int v1), (2, .int v2), (3, .ref (xad g 110))]) hx hb dX10_through_56 hl (k := 5) rfl (by rw [ex7]; rfl) (by decide) rfl (fun ls hl => ?_)
      refine lv_goto (tgt := 35) hx hb dX10_through_59 (by decide) ?_
      exact ih hw (lv_sub hl [2, 3, 4, 5, 1, 0] rfl) h
set_option maxHeartbeats 4000000 in
set_option maxRecDepth 100000 in
theorem s_X10_through {Qf : Int32 → xM → Prop} {a1 : Int32} {a2 : Int32} (C : x_C p s m args meth c g RX10 cX10_through 6 (some .int)) (hX : xpX g) {u : xM} {H : Heap} {locs : List Loc} {ls : Array Slot} (hw : x_W g s.heap H locs u) (hl : lv_has ls 6 [(0, .ref (xad g 0)), (1, .int a1), (2, .int a2)]) (h : p_X10_through a1 a2 u Qf) : W p l e (x_rm 4 142) s m args below meth c H locs 0 0 (MQ below (x_Qi g Qf) args s 0 0 (x_A g)) (F0 m 0 ls []) := by
  unfold p_X10_through at h
  have hx := C.1
  have hb := C.2.1
  refine lv_aload_n hx hb dX10_through_0 rfl (lv_at hl 0 rfl) ?_
  refine lv_iload_n hx hb dX10_through_1 rfl (lv_at hl 1 rfl) ?_
  refine x_callz hw (x_runV (ci := 10) C hw (m_X10_isDoor l C.2.2.2.2.2.2.2.2.1 hX h) (xoX_0 hX) rfl (x_gV xw_962 xw_963 xw_964 xw_2 xw_965) rfl rfl qX10_isDoor ⟨(Nat.le_of_ble_eq_true rfl), (Nat.le_of_ble_eq_true rfl)⟩ rfl hl.1 rfl (Nat.le_of_ble_eq_true rfl) dX10_through_2) (fun r2 u1 H locs hw h => ?_)
  refine lv_if_eq (tgt := 18) hx hb dX10_through_5 (by decide) (fun c3 => ?_) (fun c3 => ?_)
  · have h := h.1 (xb_f c3)
    refine lv_aload_n hx hb dX10_through_18 rfl (lv_at hl 0 rfl) ?_
    refine lv_iconst (v := 1) hx hb dX10_through_19 (by decide) ?_
    refine x_calli hw (x_runV (ci := 10) C hw (m_X10_none l C.2.2.2.2.2.2.2.2.1 hX h) (xoX_0 hX) rfl (x_gV xw_343 xw_344 xw_345 xw_2 xw_346) rfl rfl qX10_none ⟨(Nat.le_of_ble_eq_true rfl), (Nat.le_of_ble_eq_true rfl)⟩ rfl hl.1 rfl (Nat.le_of_ble_eq_true rfl) dX10_through_20) (fun r5 u4 H locs hw h => ?_)
    exact x_iret C hw h dX10_through_23
  · have h := h.2 (xb_t c3)
    refine lv_iload_n hx hb dX10_through_8 rfl (lv_at hl 2 rfl) ?_
    refine lv_iconst (v := 0) hx hb dX10_through_9 (by decide) ?_
    refine lv_bipush (v := 99) hx hb dX10_through_10 (by decide) ?_
    refine x_callz hw (x_runS C hw (m_X10_isWithin l C.2.2.2.2.2.2.2.2.1  h) (x_gS xw_280 xw_281 xw_2 xw_282) rfl rfl qX10_isWithin ⟨(Nat.le_of_ble_eq_true rfl), (Nat.le_of_ble_eq_true rfl)⟩ rfl hl.1 rfl (Nat.le_of_ble_eq_true rfl) dX10_through_12) (fun r7 u6 H locs hw h => ?_)
    refine lv_if_ne (tgt := 24) hx hb dX10_through_15 (by decide) (fun c8 => ?_) (fun c8 => ?_)
    · have h := h.1 (xb_t c8)
      refine lv_aload_n hx hb dX10_through_24 rfl (lv_at hl 0 rfl) ?_
      refine x_callr hw (x_runV (ci := 10) C hw (m_X10_asItIs l C.2.2.2.2.2.2.2.2.1 hX h) (xoX_0 hX) rfl (x_gV xw_1327 xw_1328 xw_1329 xw_2 xw_1330) rfl rfl qX10_asItIs ⟨(Nat.le_of_ble_eq_true rfl), (Nat.le_of_ble_eq_true rfl)⟩ rfl hl.1 rfl (Nat.le_of_ble_eq_true rfl) dX10_through_25) (fun u9 H locs hw h => ?_)
      refine lv_astore_n (lv' := [(3, .ref (xad g 110)), (0, .ref (xad g 0)), (1, .int a1), (2, .int a2)]) hx hb dX10_through_28 rfl hl (by decide) rfl (fun ls hl => ?_)
      refine lv_iconst (v := 0) hx hb dX10_through_29 (by decide) ?_
      refine lv_istore (lv' := [(4, .int 0), (3, .ref (xad g 110)), (0, .ref (xad g 0)), (1, .int a1), (2, .int a2)]) hx hb dX10_through_30 hl (by decide) rfl (fun ls hl => ?_)
      refine lv_iconst (v := 0) hx hb dX10_through_32 (by decide) ?_
      refine lv_istore (lv' := [(5, .int 0), (4, .int 0), (3, .ref (xad g 110)), (0, .ref (xad g 0)), (1, .int a1), (2, .int a2)]) hx hb dX10_through_33 hl (by decide) rfl (fun ls hl => ?_)
      obtain ⟨n9, h⟩ := h
      exact s_X10_through_L35 C hX n9 hw (lv_sub hl [3, 4, 5, 2, 1, 0] rfl) h
    · have h := h.2 (xb_f c8)
      refine lv_aload_n hx hb dX10_through_18 rfl (lv_at hl 0 rfl) ?_
      refine lv_iconst (v := 1) hx hb dX10_through_19 (by decide) ?_
      refine x_calli hw (x_runV (ci := 10) C hw (m_X10_none l C.2.2.2.2.2.2.2.2.1 hX h) (xoX_0 hX) rfl (x_gV xw_343 xw_344 xw_345 xw_2 xw_346) rfl rfl qX10_none ⟨(Nat.le_of_ble_eq_true rfl), (Nat.le_of_ble_eq_true rfl)⟩ rfl hl.1 rfl (Nat.le_of_ble_eq_true rfl) dX10_through_20) (fun r11 u10 H locs hw h => ?_)
      exact x_iret C hw h dX10_through_23
set_option maxHeartbeats 4000000 in
set_option maxRecDepth 100000 in
theorem m_X10_through (l : Launch) {g : xG} (hD : x_D g) (hX : xpX g) {a1 : Int32} {a2 : Int32} {u : xM} {Qf : Int32 → xM → Prop} (h : p_X10_through a1 a2 u Qf) : Met l yX10_through (Cond.code yX10_through cX10_through 6 (some .int) :: wsL_law) (x_rm 4 142) (va_Pc [.ref (xad g 0), .int a1, .int a2] (x_B g u)) (x_Qi g Qf) 0 0 (x_A g) := by
  refine Met.ofW (cc := cX10_through) (maxL := 6) (ret := (some .int)) (by decide) rfl ?_
  intro p e s m args below meth c s₁ B hml hv
  obtain ⟨rfl, hB⟩ := hv
  obtain ⟨C, hw⟩ := x_start B hml hD hB
  have hl := lv_entry [.ref (xad g 0), .int a1, .int a2] (n := 6) (Nat.le_of_ble_eq_true rfl)
  rw [lg_entry_eq]
  exact s_X10_through C hX hw hl h
set_option maxHeartbeats 4000000 in
set_option maxRecDepth 100000 in
theorem s_X10_greatest_L42 {Qf : Int32 → xM → Prop} (C : x_C p s m args meth c g RX10 cX10_greatest 6 (some .int)) (hX : xpX g) : ∀ (nn : Nat) {v1 : Int32} {v2 : Int32} {v4 : Int32} {v5 : Int32} {u : xM} {H : Heap} {locs : List Loc} {ls : Array Slot} (hw : x_W g s.heap H locs u) (hl : lv_has ls 6 [(0, .ref (xad g 0)), (1, .int v1), (2, .int v2), (3, .ref (xad g 110)), (4, .int v4), (5, .int v5)]) (h : p_X10_greatest_L42 Qf nn v1 v2 v4 v5 u), W p l e (x_rm 4 142) s m args below meth c H locs 0 0 (MQ below (x_Qi g Qf) args s 0 0 (x_A g)) (F0 m 42 ls []) := by
  intro nn
  induction nn with
  | zero => intro v1 v2 v4 v5 u H locs ls hw hl h; exact h.elim
  | succ nn ih =>
    intro v1 v2 v4 v5 u H locs ls hw hl h
    unfold p_X10_greatest_L42 at h
    have hx := C.1
    have hb := C.2.1
    refine lv_iload hx hb dX10_greatest_42 (lv_at hl 5 rfl) ?_
    refine lv_iload_n hx hb dX10_greatest_44 rfl (lv_at hl 2 rfl) ?_
    refine lv_icmp_ge (tgt := 73) hx hb dX10_greatest_45 (by decide) (fun c1 => ?_) (fun c1 => ?_)
    · have h := h.1 c1
      refine lv_aload_n hx hb dX10_greatest_73 rfl (lv_at hl 0 rfl) ?_
      refine lv_iload hx hb dX10_greatest_74 (lv_at hl 4 rfl) ?_
      refine x_calli hw (x_runV (ci := 10) C hw (m_X10_fine l C.2.2.2.2.2.2.2.2.1 hX h) (xoX_0 hX) rfl (x_gV xw_622 xw_623 xw_624 xw_2 xw_625) rfl rfl qX10_fine ⟨(Nat.le_of_ble_eq_true rfl), (Nat.le_of_ble_eq_true rfl)⟩ rfl hl.1 rfl (Nat.le_of_ble_eq_true rfl) dX10_greatest_76) (fun r3 u2 H locs hw h => ?_)
      exact x_iret C hw h dX10_greatest_79
    · have h := h.2 c1
      refine lv_aload_n hx hb dX10_greatest_48 rfl (lv_at hl 3 rfl) ?_
      refine x_callv hw (x_runV (ci := 1) C hw (m_X1_goOneHour l C.2.2.2.2.2.2.2.2.1 (xpL_110 hX) h) (xoL_0 (xpL_110 hX)) rfl (x_gV xw_1368 xw_1165 xw_1166 xw_15 xw_1167) rfl rfl qX1_goOneHour ⟨(Nat.le_of_ble_eq_true rfl), (Nat.le_of_ble_eq_true rfl)⟩ rfl hl.1 rfl (Nat.le_of_ble_eq_true rfl) dX10_greatest_49) (fun u4 H locs hw h => ?_)
      refine lv_iload hx hb dX10_greatest_52 (lv_at hl 4 rfl) ?_
      refine lv_aload_n hx hb dX10_greatest_54 rfl (lv_at hl 3 rfl) ?_
      refine x_getr (ci := 1) C hw 0 (xoL_0 (xpL_110 hX)) rfl inlX1 (by decide) rfl rfl (xrL_0_0 (xpL_110 hX)) xw_858 dX10_greatest_55 ?_
      refine lv_iload_n hx hb dX10_greatest_58 rfl (lv_at hl 1 rfl) ?_
      refine x_calli hw (x_runV (ci := 7) C hw (m_X7_depth l C.2.2.2.2.2.2.2.2.1 (xpL_110 hX) h) (xoL_1 (xpL_110 hX)) rfl (x_gV xw_940 xw_874 xw_875 xw_57 xw_876) rfl rfl qX7_depth ⟨(Nat.le_of_ble_eq_true rfl), (Nat.le_of_ble_eq_true rfl)⟩ rfl hl.1 rfl (Nat.le_of_ble_eq_true rfl) dX10_greatest_59) (fun r6 u5 H locs hw h => ?_)
      refine x_mmax C hl.1 xw_1111 (Nat.le_of_ble_eq_true rfl) (Nat.le_of_ble_eq_true rfl) dX10_greatest_62 ?_
      refine lv_topi (fun x7 ex7 => ?_)
      have h := h x7 ex7
      refine lv_istore (lv' := [(4, .int x7), (0, .ref (xad g 0)), (1, .int v1), (2, .int v2), (3, .ref (xad g 110)), (5, .int v5)]) hx hb dX10_greatest_65 hl (by decide) rfl (fun ls hl => ?_)
      obtain ⟨x8, ex8⟩ : ∃ y : Int32, y = v5 + 1 := ⟨_, rfl⟩
      have h := h x8 ex8
      refine lv_iinc (v := x8) (lv' := [(5, .int x8), (4, .int x7), (0, .ref (xad g 0)), (1, .int v1), (2, .int v2), (3, .ref (xad g 110))]) hx hb dX10_greatest_67 hl (k := 5) rfl (by rw [ex8]; rfl) (by decide) rfl (fun ls hl => ?_)
      refine lv_goto (tgt := 42) hx hb dX10_greatest_70 (by decide) ?_
      exact ih hw (lv_sub hl [2, 3, 4, 5, 1, 0] rfl) h
set_option maxHeartbeats 4000000 in
set_option maxRecDepth 100000 in
theorem s_X10_greatest {Qf : Int32 → xM → Prop} {a1 : Int32} {a2 : Int32} (C : x_C p s m args meth c g RX10 cX10_greatest 6 (some .int)) (hX : xpX g) {u : xM} {H : Heap} {locs : List Loc} {ls : Array Slot} (hw : x_W g s.heap H locs u) (hl : lv_has ls 6 [(0, .ref (xad g 0)), (1, .int a1), (2, .int a2)]) (h : p_X10_greatest a1 a2 u Qf) : W p l e (x_rm 4 142) s m args below meth c H locs 0 0 (MQ below (x_Qi g Qf) args s 0 0 (x_A g)) (F0 m 0 ls []) := by
  unfold p_X10_greatest at h
  have hx := C.1
  have hb := C.2.1
  refine lv_aload_n hx hb dX10_greatest_0 rfl (lv_at hl 0 rfl) ?_
  refine lv_iload_n hx hb dX10_greatest_1 rfl (lv_at hl 1 rfl) ?_
  refine x_callz hw (x_runV (ci := 10) C hw (m_X10_isRoom l C.2.2.2.2.2.2.2.2.1 hX h) (xoX_0 hX) rfl (x_gV xw_936 xw_937 xw_938 xw_2 xw_939) rfl rfl qX10_isRoom ⟨(Nat.le_of_ble_eq_true rfl), (Nat.le_of_ble_eq_true rfl)⟩ rfl hl.1 rfl (Nat.le_of_ble_eq_true rfl) dX10_greatest_2) (fun r2 u1 H locs hw h => ?_)
  refine lv_if_eq (tgt := 18) hx hb dX10_greatest_5 (by decide) (fun c3 => ?_) (fun c3 => ?_)
  · have h := h.1 (xb_f c3)
    refine lv_aload_n hx hb dX10_greatest_18 rfl (lv_at hl 0 rfl) ?_
    refine lv_iconst (v := 1) hx hb dX10_greatest_19 (by decide) ?_
    refine x_calli hw (x_runV (ci := 10) C hw (m_X10_none l C.2.2.2.2.2.2.2.2.1 hX h) (xoX_0 hX) rfl (x_gV xw_343 xw_344 xw_345 xw_2 xw_346) rfl rfl qX10_none ⟨(Nat.le_of_ble_eq_true rfl), (Nat.le_of_ble_eq_true rfl)⟩ rfl hl.1 rfl (Nat.le_of_ble_eq_true rfl) dX10_greatest_20) (fun r5 u4 H locs hw h => ?_)
    exact x_iret C hw h dX10_greatest_23
  · have h := h.2 (xb_t c3)
    refine lv_iload_n hx hb dX10_greatest_8 rfl (lv_at hl 2 rfl) ?_
    refine lv_iconst (v := 0) hx hb dX10_greatest_9 (by decide) ?_
    refine lv_bipush (v := 99) hx hb dX10_greatest_10 (by decide) ?_
    refine x_callz hw (x_runS C hw (m_X10_isWithin l C.2.2.2.2.2.2.2.2.1  h) (x_gS xw_280 xw_281 xw_2 xw_282) rfl rfl qX10_isWithin ⟨(Nat.le_of_ble_eq_true rfl), (Nat.le_of_ble_eq_true rfl)⟩ rfl hl.1 rfl (Nat.le_of_ble_eq_true rfl) dX10_greatest_12) (fun r7 u6 H locs hw h => ?_)
    refine lv_if_ne (tgt := 24) hx hb dX10_greatest_15 (by decide) (fun c8 => ?_) (fun c8 => ?_)
    · have h := h.1 (xb_t c8)
      refine lv_aload_n hx hb dX10_greatest_24 rfl (lv_at hl 0 rfl) ?_
      refine x_callr hw (x_runV (ci := 10) C hw (m_X10_asItIs l C.2.2.2.2.2.2.2.2.1 hX h) (xoX_0 hX) rfl (x_gV xw_1327 xw_1328 xw_1329 xw_2 xw_1330) rfl rfl qX10_asItIs ⟨(Nat.le_of_ble_eq_true rfl), (Nat.le_of_ble_eq_true rfl)⟩ rfl hl.1 rfl (Nat.le_of_ble_eq_true rfl) dX10_greatest_25) (fun u9 H locs hw h => ?_)
      refine lv_astore_n (lv' := [(3, .ref (xad g 110)), (0, .ref (xad g 0)), (1, .int a1), (2, .int a2)]) hx hb dX10_greatest_28 rfl hl (by decide) rfl (fun ls hl => ?_)
      refine lv_aload_n hx hb dX10_greatest_29 rfl (lv_at hl 0 rfl) ?_
      refine x_getr (ci := 1) C hw 0 (xoL_0 (xpL_110 hX)) rfl inlX1 (by decide) rfl rfl (xrL_0_0 (xpL_110 hX)) xw_858 dX10_greatest_30 ?_
      refine lv_iload_n hx hb dX10_greatest_33 rfl (lv_at hl 2 rfl) ?_
      refine x_calli hw (x_runV (ci := 7) C hw (m_X7_depth l C.2.2.2.2.2.2.2.2.1 (xpL_110 hX) h) (xoL_1 (xpL_110 hX)) rfl (x_gV xw_940 xw_874 xw_875 xw_57 xw_876) rfl rfl qX7_depth ⟨(Nat.le_of_ble_eq_true rfl), (Nat.le_of_ble_eq_true rfl)⟩ rfl hl.1 rfl (Nat.le_of_ble_eq_true rfl) dX10_greatest_34) (fun r11 u10 H locs hw h => ?_)
      refine lv_istore (lv' := [(4, .int r11), (3, .ref (xad g 110)), (0, .ref (xad g 0)), (1, .int a1), (2, .int a2)]) hx hb dX10_greatest_37 hl (by decide) rfl (fun ls hl => ?_)
      refine lv_iconst (v := 0) hx hb dX10_greatest_39 (by decide) ?_
      refine lv_istore (lv' := [(5, .int 0), (4, .int r11), (3, .ref (xad g 110)), (0, .ref (xad g 0)), (1, .int a1), (2, .int a2)]) hx hb dX10_greatest_40 hl (by decide) rfl (fun ls hl => ?_)
      obtain ⟨n9, h⟩ := h
      exact s_X10_greatest_L42 C hX n9 hw (lv_sub hl [3, 4, 5, 2, 1, 0] rfl) h
    · have h := h.2 (xb_f c8)
      refine lv_aload_n hx hb dX10_greatest_18 rfl (lv_at hl 0 rfl) ?_
      refine lv_iconst (v := 1) hx hb dX10_greatest_19 (by decide) ?_
      refine x_calli hw (x_runV (ci := 10) C hw (m_X10_none l C.2.2.2.2.2.2.2.2.1 hX h) (xoX_0 hX) rfl (x_gV xw_343 xw_344 xw_345 xw_2 xw_346) rfl rfl qX10_none ⟨(Nat.le_of_ble_eq_true rfl), (Nat.le_of_ble_eq_true rfl)⟩ rfl hl.1 rfl (Nat.le_of_ble_eq_true rfl) dX10_greatest_20) (fun r13 u12 H locs hw h => ?_)
      exact x_iret C hw h dX10_greatest_23
set_option maxHeartbeats 4000000 in
set_option maxRecDepth 100000 in
theorem m_X10_greatest (l : Launch) {g : xG} (hD : x_D g) (hX : xpX g) {a1 : Int32} {a2 : Int32} {u : xM} {Qf : Int32 → xM → Prop} (h : p_X10_greatest a1 a2 u Qf) : Met l yX10_greatest (Cond.code yX10_greatest cX10_greatest 6 (some .int) :: wsL_law) (x_rm 4 142) (va_Pc [.ref (xad g 0), .int a1, .int a2] (x_B g u)) (x_Qi g Qf) 0 0 (x_A g) := by
  refine Met.ofW (cc := cX10_greatest) (maxL := 6) (ret := (some .int)) (by decide) rfl ?_
  intro p e s m args below meth c s₁ B hml hv
  obtain ⟨rfl, hB⟩ := hv
  obtain ⟨C, hw⟩ := x_start B hml hD hB
  have hl := lv_entry [.ref (xad g 0), .int a1, .int a2] (n := 6) (Nat.le_of_ble_eq_true rfl)
  rw [lg_entry_eq]
  exact s_X10_greatest C hX hw hl h
set_option maxHeartbeats 4000000 in
set_option maxRecDepth 100000 in
theorem s_J6_numberOfTrailingZeros_0f7a4_L62 {Qf : Int32 → xM → Prop} (C : x_C p s m args meth c g RJ6 cJ6_numberOfTrailingZeros_0f7a4 2 (some .int)) {v0 : Int32} {v1 : Int32} {u : xM} {H : Heap} {locs : List Loc} {ls : Array Slot} (hw : x_W g s.heap H locs u) (hl : lv_has ls 2 [(0, .int v0), (1, .int v1)]) (h : p_J6_numberOfTrailingZeros_0f7a4_L62 Qf v0 v1 u) : W p l e (x_rm 0 0) s m args below meth c H locs 0 0 (MQ below (x_Qi g Qf) args s 0 0 (x_A g)) (F0 m 62 ls []) := by
  unfold p_J6_numberOfTrailingZeros_0f7a4_L62 at h
  have hx := C.1
  have hb := C.2.1
  refine lv_iload_n hx hb dJ6_numberOfTrailingZeros_0f7a4_62 rfl (lv_at hl 0 rfl) ?_
  refine lv_iconst (v := 4) hx hb dJ6_numberOfTrailingZeros_0f7a4_63 (by decide) ?_
  refine lv_icmp_le (tgt := 74) hx hb dJ6_numberOfTrailingZeros_0f7a4_64 (by decide) (fun c1 => ?_) (fun c1 => ?_)
  · have h := h.1 c1
    refine lv_iload_n hx hb dJ6_numberOfTrailingZeros_0f7a4_74 rfl (lv_at hl 1 rfl) ?_
    refine lv_iload_n hx hb dJ6_numberOfTrailingZeros_0f7a4_75 rfl (lv_at hl 0 rfl) ?_
    refine lv_iconst (v := 1) hx hb dJ6_numberOfTrailingZeros_0f7a4_76 (by decide) ?_
    refine lv_iushr hx hb dJ6_numberOfTrailingZeros_0f7a4_77 rfl ?_
    refine lv_iadd hx hb dJ6_numberOfTrailingZeros_0f7a4_78 ?_
    exact x_iret C hw h dJ6_numberOfTrailingZeros_0f7a4_79
  · have h := h.2 c1
    obtain ⟨x2, ex2⟩ : ∃ y : Int32, y = v1 + 2 := ⟨_, rfl⟩
    have h := h x2 ex2
    refine lv_iinc (v := x2) (lv' := [(1, .int x2), (0, .int v0)]) hx hb dJ6_numberOfTrailingZeros_0f7a4_67 hl (k := 1) rfl (by rw [ex2]; rfl) (by decide) rfl (fun ls hl => ?_)
    refine lv_iload_n hx hb dJ6_numberOfTrailingZeros_0f7a4_70 rfl (lv_at hl 1 rfl) ?_
    refine lv_iconst (v := 2) hx hb dJ6_numberOfTrailingZeros_0f7a4_71 (by decide) ?_
    refine lv_iushr hx hb dJ6_numberOfTrailingZeros_0f7a4_72 rfl ?_
    refine lv_topi (fun x3 ex3 => ?_)
    have h := h x3 ex3
    refine lv_istore_n (lv' := [(0, .int x3), (1, .int x2)]) hx hb dJ6_numberOfTrailingZeros_0f7a4_73 rfl hl (by decide) rfl (fun ls hl => ?_)
    refine lv_iload_n hx hb dJ6_numberOfTrailingZeros_0f7a4_74 rfl (lv_at hl 1 rfl) ?_
    refine lv_iload_n hx hb dJ6_numberOfTrailingZeros_0f7a4_75 rfl (lv_at hl 0 rfl) ?_
    refine lv_iconst (v := 1) hx hb dJ6_numberOfTrailingZeros_0f7a4_76 (by decide) ?_
    refine lv_iushr hx hb dJ6_numberOfTrailingZeros_0f7a4_77 rfl ?_
    refine lv_iadd hx hb dJ6_numberOfTrailingZeros_0f7a4_78 ?_
    exact x_iret C hw h dJ6_numberOfTrailingZeros_0f7a4_79
set_option maxHeartbeats 4000000 in
set_option maxRecDepth 100000 in
theorem s_J6_numberOfTrailingZeros_0f7a4_L49 {Qf : Int32 → xM → Prop} (C : x_C p s m args meth c g RJ6 cJ6_numberOfTrailingZeros_0f7a4 2 (some .int)) {v0 : Int32} {v1 : Int32} {u : xM} {H : Heap} {locs : List Loc} {ls : Array Slot} (hw : x_W g s.heap H locs u) (hl : lv_has ls 2 [(0, .int v0), (1, .int v1)]) (h : p_J6_numberOfTrailingZeros_0f7a4_L49 Qf v0 v1 u) : W p l e (x_rm 0 0) s m args below meth c H locs 0 0 (MQ below (x_Qi g Qf) args s 0 0 (x_A g)) (F0 m 49 ls []) := by
  unfold p_J6_numberOfTrailingZeros_0f7a4_L49 at h
  have hx := C.1
  have hb := C.2.1
  refine lv_iload_n hx hb dJ6_numberOfTrailingZeros_0f7a4_49 rfl (lv_at hl 0 rfl) ?_
  refine lv_bipush (v := 16) hx hb dJ6_numberOfTrailingZeros_0f7a4_50 (by decide) ?_
  refine lv_icmp_le (tgt := 62) hx hb dJ6_numberOfTrailingZeros_0f7a4_52 (by decide) (fun c1 => ?_) (fun c1 => ?_)
  · have h := h.1 c1
    exact s_J6_numberOfTrailingZeros_0f7a4_L62 C hw (lv_sub hl [0, 1] rfl) h
  · have h := h.2 c1
    obtain ⟨x2, ex2⟩ : ∃ y : Int32, y = v1 + 4 := ⟨_, rfl⟩
    have h := h x2 ex2
    refine lv_iinc (v := x2) (lv' := [(1, .int x2), (0, .int v0)]) hx hb dJ6_numberOfTrailingZeros_0f7a4_55 hl (k := 1) rfl (by rw [ex2]; rfl) (by decide) rfl (fun ls hl => ?_)
    refine lv_iload_n hx hb dJ6_numberOfTrailingZeros_0f7a4_58 rfl (lv_at hl 1 rfl) ?_
    refine lv_iconst (v := 4) hx hb dJ6_numberOfTrailingZeros_0f7a4_59 (by decide) ?_
    refine lv_iushr hx hb dJ6_numberOfTrailingZeros_0f7a4_60 rfl ?_
    refine lv_topi (fun x3 ex3 => ?_)
    have h := h x3 ex3
    refine lv_istore_n (lv' := [(0, .int x3), (1, .int x2)]) hx hb dJ6_numberOfTrailingZeros_0f7a4_61 rfl hl (by decide) rfl (fun ls hl => ?_)
    exact s_J6_numberOfTrailingZeros_0f7a4_L62 C hw (lv_sub hl [0, 1] rfl) h
set_option maxHeartbeats 4000000 in
set_option maxRecDepth 100000 in
theorem s_J6_numberOfTrailingZeros_0f7a4_L34 {Qf : Int32 → xM → Prop} (C : x_C p s m args meth c g RJ6 cJ6_numberOfTrailingZeros_0f7a4 2 (some .int)) {v0 : Int32} {v1 : Int32} {u : xM} {H : Heap} {locs : List Loc} {ls : Array Slot} (hw : x_W g s.heap H locs u) (hl : lv_has ls 2 [(0, .int v0), (1, .int v1)]) (h : p_J6_numberOfTrailingZeros_0f7a4_L34 Qf v0 v1 u) : W p l e (x_rm 0 0) s m args below meth c H locs 0 0 (MQ below (x_Qi g Qf) args s 0 0 (x_A g)) (F0 m 34 ls []) := by
  unfold p_J6_numberOfTrailingZeros_0f7a4_L34 at h
  have hx := C.1
  have hb := C.2.1
  refine lv_iload_n hx hb dJ6_numberOfTrailingZeros_0f7a4_34 rfl (lv_at hl 0 rfl) ?_
  refine lv_sipush (v := 256) hx hb dJ6_numberOfTrailingZeros_0f7a4_35 (by decide) ?_
  refine lv_icmp_le (tgt := 49) hx hb dJ6_numberOfTrailingZeros_0f7a4_38 (by decide) (fun c1 => ?_) (fun c1 => ?_)
  · have h := h.1 c1
    exact s_J6_numberOfTrailingZeros_0f7a4_L49 C hw (lv_sub hl [0, 1] rfl) h
  · have h := h.2 c1
    obtain ⟨x2, ex2⟩ : ∃ y : Int32, y = v1 + 8 := ⟨_, rfl⟩
    have h := h x2 ex2
    refine lv_iinc (v := x2) (lv' := [(1, .int x2), (0, .int v0)]) hx hb dJ6_numberOfTrailingZeros_0f7a4_41 hl (k := 1) rfl (by rw [ex2]; rfl) (by decide) rfl (fun ls hl => ?_)
    refine lv_iload_n hx hb dJ6_numberOfTrailingZeros_0f7a4_44 rfl (lv_at hl 1 rfl) ?_
    refine lv_bipush (v := 8) hx hb dJ6_numberOfTrailingZeros_0f7a4_45 (by decide) ?_
    refine lv_iushr hx hb dJ6_numberOfTrailingZeros_0f7a4_47 rfl ?_
    refine lv_topi (fun x3 ex3 => ?_)
    have h := h x3 ex3
    refine lv_istore_n (lv' := [(0, .int x3), (1, .int x2)]) hx hb dJ6_numberOfTrailingZeros_0f7a4_48 rfl hl (by decide) rfl (fun ls hl => ?_)
    exact s_J6_numberOfTrailingZeros_0f7a4_L49 C hw (lv_sub hl [0, 1] rfl) h
set_option maxHeartbeats 4000000 in
set_option maxRecDepth 100000 in
theorem s_J6_numberOfTrailingZeros_0f7a4 {Qf : Int32 → xM → Prop} {a1 : Int32} (C : x_C p s m args meth c g RJ6 cJ6_numberOfTrailingZeros_0f7a4 2 (some .int)) {u : xM} {H : Heap} {locs : List Loc} {ls : Array Slot} (hw : x_W g s.heap H locs u) (hl : lv_has ls 2 [(0, .int a1)]) (h : p_J6_numberOfTrailingZeros_0f7a4 a1 u Qf) : W p l e (x_rm 0 0) s m args below meth c H locs 0 0 (MQ below (x_Qi g Qf) args s 0 0 (x_A g)) (F0 m 0 ls []) := by
  unfold p_J6_numberOfTrailingZeros_0f7a4 at h
  have hx := C.1
  have hb := C.2.1
  refine lv_iload_n hx hb dJ6_numberOfTrailingZeros_0f7a4_0 rfl (lv_at hl 0 rfl) ?_
  refine lv_iconst (v := -1) hx hb dJ6_numberOfTrailingZeros_0f7a4_1 (by decide) ?_
  refine lv_ixor hx hb dJ6_numberOfTrailingZeros_0f7a4_2 ?_
  refine lv_iload_n hx hb dJ6_numberOfTrailingZeros_0f7a4_3 rfl (lv_at hl 0 rfl) ?_
  refine lv_iconst (v := 1) hx hb dJ6_numberOfTrailingZeros_0f7a4_4 (by decide) ?_
  refine lv_isub hx hb dJ6_numberOfTrailingZeros_0f7a4_5 ?_
  refine lv_iand hx hb dJ6_numberOfTrailingZeros_0f7a4_6 ?_
  refine lv_topi (fun x1 ex1 => ?_)
  have h := h x1 ex1
  refine lv_istore_n (lv' := [(0, .int x1)]) hx hb dJ6_numberOfTrailingZeros_0f7a4_7 rfl hl (by decide) rfl (fun ls hl => ?_)
  refine lv_iload_n hx hb dJ6_numberOfTrailingZeros_0f7a4_8 rfl (lv_at hl 0 rfl) ?_
  refine lv_if_gt (tgt := 17) hx hb dJ6_numberOfTrailingZeros_0f7a4_9 (by decide) (fun c2 => ?_) (fun c2 => ?_)
  · have h := h.1 c2
    refine lv_iconst (v := 1) hx hb dJ6_numberOfTrailingZeros_0f7a4_17 (by decide) ?_
    refine lv_istore_n (lv' := [(1, .int 1), (0, .int x1)]) hx hb dJ6_numberOfTrailingZeros_0f7a4_18 rfl hl (by decide) rfl (fun ls hl => ?_)
    refine lv_iload_n hx hb dJ6_numberOfTrailingZeros_0f7a4_19 rfl (lv_at hl 1 rfl) ?_
    refine lv_ldcw (v := 65536) hx hb C.2.2.2.1 (C.2.2.2.2.1 _ xw_1451) dJ6_numberOfTrailingZeros_0f7a4_20 ?_
    refine lv_icmp_le (tgt := 34) hx hb dJ6_numberOfTrailingZeros_0f7a4_23 (by decide) (fun c3 => ?_) (fun c3 => ?_)
    · have h := h.1 c3
      exact s_J6_numberOfTrailingZeros_0f7a4_L34 C hw (lv_sub hl [1, 0] rfl) h
    · have h := h.2 c3
      obtain ⟨x4, ex4⟩ : ∃ y : Int32, y = (1 : Int32) + 16 := ⟨_, rfl⟩
      have h := h x4 ex4
      refine lv_iinc (v := x4) (lv' := [(1, .int x4), (0, .int x1)]) hx hb dJ6_numberOfTrailingZeros_0f7a4_26 hl (k := 0) rfl (by rw [ex4]; rfl) (by decide) rfl (fun ls hl => ?_)
      refine lv_iload_n hx hb dJ6_numberOfTrailingZeros_0f7a4_29 rfl (lv_at hl 1 rfl) ?_
      refine lv_bipush (v := 16) hx hb dJ6_numberOfTrailingZeros_0f7a4_30 (by decide) ?_
      refine lv_iushr hx hb dJ6_numberOfTrailingZeros_0f7a4_32 rfl ?_
      refine lv_topi (fun x5 ex5 => ?_)
      have h := h x5 ex5
      refine lv_istore_n (lv' := [(0, .int x5), (1, .int x4)]) hx hb dJ6_numberOfTrailingZeros_0f7a4_33 rfl hl (by decide) rfl (fun ls hl => ?_)
      exact s_J6_numberOfTrailingZeros_0f7a4_L34 C hw (lv_sub hl [0, 1] rfl) h
  · have h := h.2 c2
    refine lv_iload_n hx hb dJ6_numberOfTrailingZeros_0f7a4_12 rfl (lv_at hl 0 rfl) ?_
    refine lv_bipush (v := 32) hx hb dJ6_numberOfTrailingZeros_0f7a4_13 (by decide) ?_
    refine lv_iand hx hb dJ6_numberOfTrailingZeros_0f7a4_15 ?_
    exact x_iret C hw h dJ6_numberOfTrailingZeros_0f7a4_16
set_option maxHeartbeats 4000000 in
set_option maxRecDepth 100000 in
theorem m_J6_numberOfTrailingZeros_0f7a4 (l : Launch) {g : xG} (hD : x_D g) {a1 : Int32} {u : xM} {Qf : Int32 → xM → Prop} (h : p_J6_numberOfTrailingZeros_0f7a4 a1 u Qf) : Met l yJ6_numberOfTrailingZeros_0f7a4 (Cond.code yJ6_numberOfTrailingZeros_0f7a4 cJ6_numberOfTrailingZeros_0f7a4 2 (some .int) :: wsL_law) (x_rm 0 0) (va_Pc [.int a1] (x_B g u)) (x_Qi g Qf) 0 0 (x_A g) := by
  refine Met.ofW (cc := cJ6_numberOfTrailingZeros_0f7a4) (maxL := 2) (ret := (some .int)) (by decide) rfl ?_
  intro p e s m args below meth c s₁ B hml hv
  obtain ⟨rfl, hB⟩ := hv
  obtain ⟨C, hw⟩ := x_start B hml hD hB
  have hl := lv_entry [.int a1] (n := 2) (Nat.le_of_ble_eq_true rfl)
  rw [lg_entry_eq]
  exact s_J6_numberOfTrailingZeros_0f7a4 C hw hl h
set_option maxHeartbeats 4000000 in
set_option maxRecDepth 100000 in
theorem s_X10_firstDrowned_L7 {Qf : Int32 → xM → Prop} (C : x_C p s m args meth c g RX10 cX10_firstDrowned 4 (some .int)) (hX : xpX g) : ∀ (nn : Nat) {v2 : Int32} {u : xM} {H : Heap} {locs : List Loc} {ls : Array Slot} (hw : x_W g s.heap H locs u) (hl : lv_has ls 4 [(0, .ref (xad g 0)), (1, .ref (xad g 110)), (2, .int v2)]) (h : p_X10_firstDrowned_L7 Qf nn v2 u), W p l e (x_rm 4 142) s m args below meth c H locs 0 0 (MQ below (x_Qi g Qf) args s 0 0 (x_A g)) (F0 m 7 ls []) := by
  intro nn
  induction nn with
  | zero => intro v2 u H locs ls hw hl h; exact h.elim
  | succ nn ih =>
    intro v2 u H locs ls hw hl h
    unfold p_X10_firstDrowned_L7 at h
    have hx := C.1
    have hb := C.2.1
    refine lv_iload_n hx hb dX10_firstDrowned_7 rfl (lv_at hl 2 rfl) ?_
    refine lv_bipush (v := 99) hx hb dX10_firstDrowned_8 (by decide) ?_
    refine lv_icmp_ge (tgt := 42) hx hb dX10_firstDrowned_10 (by decide) (fun c1 => ?_) (fun c1 => ?_)
    · have h := h.1 c1
      refine lv_aload_n hx hb dX10_firstDrowned_42 rfl (lv_at hl 0 rfl) ?_
      refine lv_bipush (v := 6) hx hb dX10_firstDrowned_43 (by decide) ?_
      refine x_calli hw (x_runV (ci := 10) C hw (m_X10_none l C.2.2.2.2.2.2.2.2.1 hX h) (xoX_0 hX) rfl (x_gV xw_343 xw_344 xw_345 xw_2 xw_346) rfl rfl qX10_none ⟨(Nat.le_of_ble_eq_true rfl), (Nat.le_of_ble_eq_true rfl)⟩ rfl hl.1 rfl (Nat.le_of_ble_eq_true rfl) dX10_firstDrowned_45) (fun r3 u2 H locs hw h => ?_)
      exact x_iret C hw h dX10_firstDrowned_48
    · have h := h.2 c1
      refine lv_aload_n hx hb dX10_firstDrowned_13 rfl (lv_at hl 1 rfl) ?_
      refine x_callv hw (x_runV (ci := 1) C hw (m_X1_goOneHour l C.2.2.2.2.2.2.2.2.1 (xpL_110 hX) h) (xoL_0 (xpL_110 hX)) rfl (x_gV xw_1368 xw_1165 xw_1166 xw_15 xw_1167) rfl rfl qX1_goOneHour ⟨(Nat.le_of_ble_eq_true rfl), (Nat.le_of_ble_eq_true rfl)⟩ rfl hl.1 rfl (Nat.le_of_ble_eq_true rfl) dX10_firstDrowned_14) (fun u4 H locs hw h => ?_)
      refine lv_aload_n hx hb dX10_firstDrowned_17 rfl (lv_at hl 0 rfl) ?_
      refine lv_aload_n hx hb dX10_firstDrowned_18 rfl (lv_at hl 1 rfl) ?_
      refine x_calli hw (x_runV (ci := 10) C hw (m_X10_drownedMore l C.2.2.2.2.2.2.2.2.1 hX (xpL_110 hX) h) (xoX_0 hX) rfl (x_gV xw_1419 xw_1420 xw_1421 xw_2 xw_1422) rfl rfl qX10_drownedMore ⟨(Nat.le_of_ble_eq_true rfl), (Nat.le_of_ble_eq_true rfl)⟩ rfl hl.1 rfl (Nat.le_of_ble_eq_true rfl) dX10_firstDrowned_19) (fun r6 u5 H locs hw h => ?_)
      refine lv_istore_n (lv' := [(3, .int r6), (0, .ref (xad g 0)), (1, .ref (xad g 110)), (2, .int v2)]) hx hb dX10_firstDrowned_22 rfl hl (by decide) rfl (fun ls hl => ?_)
      refine lv_iload_n hx hb dX10_firstDrowned_23 rfl (lv_at hl 0 rfl) ?_
      refine lv_if_eq (tgt := 36) hx hb dX10_firstDrowned_24 (by decide) (fun c7 => ?_) (fun c7 => ?_)
      · have h := h.1 c7
        obtain ⟨x8, ex8⟩ : ∃ y : Int32, y = v2 + 1 := ⟨_, rfl⟩
        have h := h x8 ex8
        refine lv_iinc (v := x8) (lv' := [(2, .int x8), (3, .int r6), (0, .ref (xad g 0)), (1, .ref (xad g 110))]) hx hb dX10_firstDrowned_36 hl (k := 3) rfl (by rw [ex8]; rfl) (by decide) rfl (fun ls hl => ?_)
        refine lv_goto (tgt := 7) hx hb dX10_firstDrowned_39 (by decide) ?_
        exact ih hw (lv_sub hl [2, 3, 0] rfl) h
      · have h := h.2 c7
        refine lv_aload_n hx hb dX10_firstDrowned_27 rfl (lv_at hl 1 rfl) ?_
        refine lv_iload_n hx hb dX10_firstDrowned_28 rfl (lv_at hl 0 rfl) ?_
        refine x_calli hw (x_runS C hw (m_J6_numberOfTrailingZeros_0f7a4 l C.2.2.2.2.2.2.2.2.1  h) (x_gS xw_1448 xw_1449 xw_1311 xw_1450) rfl rfl qJ6_numberOfTrailingZeros_0f7a4 ⟨(Nat.le_of_ble_eq_true rfl), (Nat.le_of_ble_eq_true rfl)⟩ rfl hl.1 rfl (Nat.le_of_ble_eq_true rfl) dX10_firstDrowned_29) (fun r10 u9 H locs hw h => ?_)
        refine x_calli hw (x_runV (ci := 10) C hw (m_X10_fine l C.2.2.2.2.2.2.2.2.1 hX h) (xoX_0 hX) rfl (x_gV xw_622 xw_623 xw_624 xw_2 xw_625) rfl rfl qX10_fine ⟨(Nat.le_of_ble_eq_true rfl), (Nat.le_of_ble_eq_true rfl)⟩ rfl hl.1 rfl (Nat.le_of_ble_eq_true rfl) dX10_firstDrowned_32) (fun r12 u11 H locs hw h => ?_)
        exact x_iret C hw h dX10_firstDrowned_35
set_option maxHeartbeats 4000000 in
set_option maxRecDepth 100000 in
theorem s_X10_firstDrowned {Qf : Int32 → xM → Prop} (C : x_C p s m args meth c g RX10 cX10_firstDrowned 4 (some .int)) (hX : xpX g) {u : xM} {H : Heap} {locs : List Loc} {ls : Array Slot} (hw : x_W g s.heap H locs u) (hl : lv_has ls 4 [(0, .ref (xad g 0))]) (h : p_X10_firstDrowned  u Qf) : W p l e (x_rm 4 142) s m args below meth c H locs 0 0 (MQ below (x_Qi g Qf) args s 0 0 (x_A g)) (F0 m 0 ls []) := by
  unfold p_X10_firstDrowned at h
  have hx := C.1
  have hb := C.2.1
  refine lv_aload_n hx hb dX10_firstDrowned_0 rfl (lv_at hl 0 rfl) ?_
  refine x_callr hw (x_runV (ci := 10) C hw (m_X10_asItIs l C.2.2.2.2.2.2.2.2.1 hX h) (xoX_0 hX) rfl (x_gV xw_1327 xw_1328 xw_1329 xw_2 xw_1330) rfl rfl qX10_asItIs ⟨(Nat.le_of_ble_eq_true rfl), (Nat.le_of_ble_eq_true rfl)⟩ rfl hl.1 rfl (Nat.le_of_ble_eq_true rfl) dX10_firstDrowned_1) (fun u1 H locs hw h => ?_)
  refine lv_astore_n (lv' := [(1, .ref (xad g 110)), (0, .ref (xad g 0))]) hx hb dX10_firstDrowned_4 rfl hl (by decide) rfl (fun ls hl => ?_)
  refine lv_iconst (v := 0) hx hb dX10_firstDrowned_5 (by decide) ?_
  refine lv_istore_n (lv' := [(2, .int 0), (1, .ref (xad g 110)), (0, .ref (xad g 0))]) hx hb dX10_firstDrowned_6 rfl hl (by decide) rfl (fun ls hl => ?_)
  obtain ⟨n9, h⟩ := h
  exact s_X10_firstDrowned_L7 C hX n9 hw (lv_sub hl [2, 1, 0] rfl) h
set_option maxHeartbeats 4000000 in
set_option maxRecDepth 100000 in
theorem m_X10_firstDrowned (l : Launch) {g : xG} (hD : x_D g) (hX : xpX g) {u : xM} {Qf : Int32 → xM → Prop} (h : p_X10_firstDrowned  u Qf) : Met l yX10_firstDrowned (Cond.code yX10_firstDrowned cX10_firstDrowned 4 (some .int) :: wsL_law) (x_rm 4 142) (va_Pc [.ref (xad g 0)] (x_B g u)) (x_Qi g Qf) 0 0 (x_A g) := by
  refine Met.ofW (cc := cX10_firstDrowned) (maxL := 4) (ret := (some .int)) (by decide) rfl ?_
  intro p e s m args below meth c s₁ B hml hv
  obtain ⟨rfl, hB⟩ := hv
  obtain ⟨C, hw⟩ := x_start B hml hD hB
  have hl := lv_entry [.ref (xad g 0)] (n := 4) (Nat.le_of_ble_eq_true rfl)
  rw [lg_entry_eq]
  exact s_X10_firstDrowned C hX hw hl h
set_option maxHeartbeats 4000000 in
set_option maxRecDepth 100000 in
theorem s_X10_bestHour_L23 {Qf : Int32 → xM → Prop} (C : x_C p s m args meth c g RX10 cX10_bestHour 7 (some .int)) (hX : xpX g) : ∀ (nn : Nat) {v1 : Int32} {v2 : Int32} {v3 : Int32} {v4 : Int32} {u : xM} {H : Heap} {locs : List Loc} {ls : Array Slot} (hw : x_W g s.heap H locs u) (hl : lv_has ls 7 [(0, .ref (xad g 0)), (1, .int v1), (2, .int v2), (3, .int v3), (4, .int v4)]) (h : p_X10_bestHour_L23 Qf nn v1 v2 v3 v4 u), W p l e (x_rm 5 173) s m args below meth c H locs 0 0 (MQ below (x_Qi g Qf) args s 0 0 (x_A g)) (F0 m 23 ls []) := by
  intro nn
  induction nn with
  | zero => intro v1 v2 v3 v4 u H locs ls hw hl h; exact h.elim
  | succ nn ih =>
    intro v1 v2 v3 v4 u H locs ls hw hl h
    unfold p_X10_bestHour_L23 at h
    have hx := C.1
    have hb := C.2.1
    refine lv_iload hx hb dX10_bestHour_23 (lv_at hl 4 rfl) ?_
    refine lv_bipush (v := 12) hx hb dX10_bestHour_25 (by decide) ?_
    refine lv_icmp_ge (tgt := 98) hx hb dX10_bestHour_27 (by decide) (fun c1 => ?_) (fun c1 => ?_)
    · have h := h.1 c1
      refine lv_aload_n hx hb dX10_bestHour_98 rfl (lv_at hl 0 rfl) ?_
      refine lv_iload_n hx hb dX10_bestHour_99 rfl (lv_at hl 2 rfl) ?_
      refine x_calli hw (x_runV (ci := 10) C hw (m_X10_fine l C.2.2.2.2.2.2.2.2.1 hX h) (xoX_0 hX) rfl (x_gV xw_622 xw_623 xw_624 xw_2 xw_625) rfl rfl qX10_fine ⟨(Nat.le_of_ble_eq_true rfl), (Nat.le_of_ble_eq_true rfl)⟩ rfl hl.1 rfl (Nat.le_of_ble_eq_true rfl) dX10_bestHour_100) (fun r3 u2 H locs hw h => ?_)
      exact x_iret C hw h dX10_bestHour_103
    · have h := h.2 c1
      refine lv_aload_n hx hb dX10_bestHour_30 rfl (lv_at hl 0 rfl) ?_
      refine x_callr hw (x_runV (ci := 10) C hw (m_X10_asItIs l C.2.2.2.2.2.2.2.2.1 hX h) (xoX_0 hX) rfl (x_gV xw_1327 xw_1328 xw_1329 xw_2 xw_1330) rfl rfl qX10_asItIs ⟨(Nat.le_of_ble_eq_true rfl), (Nat.le_of_ble_eq_true rfl)⟩ rfl hl.1 rfl (Nat.le_of_ble_eq_true rfl) dX10_bestHour_31) (fun u4 H locs hw h => ?_)
      refine lv_astore (lv' := [(5, .ref (xad g 110)), (0, .ref (xad g 0)), (1, .int v1), (2, .int v2), (3, .int v3), (4, .int v4)]) hx hb dX10_bestHour_34 hl (by decide) rfl (fun ls hl => ?_)
      refine lv_aload hx hb dX10_bestHour_36 (lv_at hl 0 rfl) ?_
      refine x_getr (ci := 1) C hw 1 (xoL_0 (xpL_110 hX)) rfl inlX1 (by decide) rfl rfl (xrL_0_1 (xpL_110 hX)) xw_398 dX10_bestHour_38 ?_
      refine lv_dup hx hb dX10_bestHour_41 rfl ?_
      refine x_geti (ci := 0) C hw 1 (xoL_9 (xpL_110 hX)) rfl inlX0 (by decide) rfl rfl xw_863 dX10_bestHour_42 ?_
      refine lv_iconst (v := 1) hx hb dX10_bestHour_45 (by decide) ?_
      refine lv_iload_n hx hb dX10_bestHour_46 rfl (lv_at hl 2 rfl) ?_
      refine lv_ishl hx hb dX10_bestHour_47 ?_
      refine lv_iconst (v := -1) hx hb dX10_bestHour_48 (by decide) ?_
      refine lv_ixor hx hb dX10_bestHour_49 ?_
      refine lv_iand hx hb dX10_bestHour_50 ?_
      obtain ⟨u5, eu5⟩ : ∃ q : xM, q = si u4 119 1 ((gi u4 119 1) &&& (((1 : Int32) <<< (v1 &&& 31)) ^^^ (-1 : Int32))) := ⟨_, rfl⟩
      have h := h u5 eu5
      refine x_puti (ci := 0) (ty := .int) C hw 1 (xoL_9 (xpL_110 hX)) rfl inlX0 tyX0_ok nmX0 (by decide) rfl rfl xw_863 rfl (by decide +kernel) rfl rfl dX10_bestHour_51 eu5 (fun H locs hw => ?_)
      refine lv_aload hx hb dX10_bestHour_54 (lv_at hl 0 rfl) ?_
      refine x_getr (ci := 1) C hw 1 (xoL_0 (xpL_110 hX)) rfl inlX1 (by decide) rfl rfl (xrL_0_1 (xpL_110 hX)) xw_398 dX10_bestHour_56 ?_
      refine x_getr (ci := 0) C hw 9 (xoL_9 (xpL_110 hX)) rfl inlX0 (by decide) rfl rfl (xrL_9_9 (xpL_110 hX)) xw_1271 dX10_bestHour_59 ?_
      refine lv_iload hx hb dX10_bestHour_62 (lv_at hl 5 rfl) ?_
      refine lv_dup2_11 hx hb dX10_bestHour_64 rfl rfl ?_
      have c6 := h.1
      have h := h.2
      refine x_iald C hw (xoL_16 (xpL_110 hX)) c6 dX10_bestHour_65 ?_
      refine lv_iconst (v := 1) hx hb dX10_bestHour_66 (by decide) ?_
      refine lv_iload_n hx hb dX10_bestHour_67 rfl (lv_at hl 2 rfl) ?_
      refine lv_ishl hx hb dX10_bestHour_68 ?_
      refine lv_ior hx hb dX10_bestHour_69 ?_
      have c7 := h.1
      have h := h.2
      obtain ⟨u8, eu8⟩ : ∃ q : xM, q = si u5 126 v4.toNatClampNeg ((gi u5 126 v4.toNatClampNeg) ||| ((1 : Int32) <<< (v1 &&& 31))) := ⟨_, rfl⟩
      have h := h u8 eu8
      refine x_iast C hw (xoL_16 (xpL_110 hX)) c7 dX10_bestHour_70 eu8 (fun H locs hw => ?_)
      refine lv_aload hx hb dX10_bestHour_71 (lv_at hl 0 rfl) ?_
      refine lv_bipush (v := 12) hx hb dX10_bestHour_73 (by decide) ?_
      refine x_calli hw (x_runV (ci := 1) C hw (m_X1_waterIn l C.2.2.2.2.2.2.2.2.1 (xpL_110 hX) h) (xoL_0 (xpL_110 hX)) rfl (x_gV xw_1354 xw_1355 xw_1356 xw_15 xw_1357) rfl rfl qX1_waterIn ⟨(Nat.le_of_ble_eq_true rfl), (Nat.le_of_ble_eq_true rfl)⟩ rfl hl.1 rfl (Nat.le_of_ble_eq_true rfl) dX10_bestHour_75) (fun r10 u9 H locs hw h => ?_)
      refine lv_istore (lv' := [(6, .int r10), (5, .ref (xad g 110)), (0, .ref (xad g 0)), (1, .int v1), (2, .int v2), (3, .int v3), (4, .int v4)]) hx hb dX10_bestHour_78 hl (by decide) rfl (fun ls hl => ?_)
      refine lv_iload hx hb dX10_bestHour_80 (lv_at hl 0 rfl) ?_
      refine lv_iload_n hx hb dX10_bestHour_82 rfl (lv_at hl 5 rfl) ?_
      refine lv_icmp_ge (tgt := 92) hx hb dX10_bestHour_83 (by decide) (fun c11 => ?_) (fun c11 => ?_)
      · have h := h.1 c11
        obtain ⟨x12, ex12⟩ : ∃ y : Int32, y = v4 + 1 := ⟨_, rfl⟩
        have h := h x12 ex12
        refine lv_iinc (v := x12) (lv' := [(4, .int x12), (6, .int r10), (5, .ref (xad g 110)), (0, .ref (xad g 0)), (1, .int v1), (2, .int v2), (3, .int v3)]) hx hb dX10_bestHour_92 hl (k := 6) rfl (by rw [ex12]; rfl) (by decide) rfl (fun ls hl => ?_)
        refine lv_goto (tgt := 23) hx hb dX10_bestHour_95 (by decide) ?_
        exact ih hw (lv_sub hl [3, 4, 5, 6, 0] rfl) h
      · have h := h.2 c11
        refine lv_iload hx hb dX10_bestHour_86 (lv_at hl 0 rfl) ?_
        refine lv_istore_n (lv' := [(3, .int r10), (6, .int r10), (5, .ref (xad g 110)), (0, .ref (xad g 0)), (1, .int v1), (2, .int v2), (4, .int v4)]) hx hb dX10_bestHour_88 rfl hl (by decide) rfl (fun ls hl => ?_)
        refine lv_iload hx hb dX10_bestHour_89 (lv_at hl 6 rfl) ?_
        refine lv_istore_n (lv' := [(2, .int v4), (3, .int r10), (6, .int r10), (5, .ref (xad g 110)), (0, .ref (xad g 0)), (1, .int v1), (4, .int v4)]) hx hb dX10_bestHour_91 rfl hl (by decide) rfl (fun ls hl => ?_)
        obtain ⟨x13, ex13⟩ : ∃ y : Int32, y = v4 + 1 := ⟨_, rfl⟩
        have h := h x13 ex13
        refine lv_iinc (v := x13) (lv' := [(4, .int x13), (2, .int v4), (3, .int r10), (6, .int r10), (5, .ref (xad g 110)), (0, .ref (xad g 0)), (1, .int v1)]) hx hb dX10_bestHour_92 hl (k := 6) rfl (by rw [ex13]; rfl) (by decide) rfl (fun ls hl => ?_)
        refine lv_goto (tgt := 23) hx hb dX10_bestHour_95 (by decide) ?_
        exact ih hw (lv_sub hl [5, 6, 1, 2, 0] rfl) h
set_option maxHeartbeats 4000000 in
set_option maxRecDepth 100000 in
theorem s_X10_bestHour {Qf : Int32 → xM → Prop} {a1 : Int32} (C : x_C p s m args meth c g RX10 cX10_bestHour 7 (some .int)) (hX : xpX g) {u : xM} {H : Heap} {locs : List Loc} {ls : Array Slot} (hw : x_W g s.heap H locs u) (hl : lv_has ls 7 [(0, .ref (xad g 0)), (1, .int a1)]) (h : p_X10_bestHour a1 u Qf) : W p l e (x_rm 5 173) s m args below meth c H locs 0 0 (MQ below (x_Qi g Qf) args s 0 0 (x_A g)) (F0 m 0 ls []) := by
  unfold p_X10_bestHour at h
  have hx := C.1
  have hb := C.2.1
  refine lv_aload_n hx hb dX10_bestHour_0 rfl (lv_at hl 0 rfl) ?_
  refine lv_iload_n hx hb dX10_bestHour_1 rfl (lv_at hl 1 rfl) ?_
  refine x_callz hw (x_runV (ci := 10) C hw (m_X10_isDoor l C.2.2.2.2.2.2.2.2.1 hX h) (xoX_0 hX) rfl (x_gV xw_962 xw_963 xw_964 xw_2 xw_965) rfl rfl qX10_isDoor ⟨(Nat.le_of_ble_eq_true rfl), (Nat.le_of_ble_eq_true rfl)⟩ rfl hl.1 rfl (Nat.le_of_ble_eq_true rfl) dX10_bestHour_2) (fun r2 u1 H locs hw h => ?_)
  refine lv_if_ne (tgt := 14) hx hb dX10_bestHour_5 (by decide) (fun c3 => ?_) (fun c3 => ?_)
  · have h := h.1 (xb_t c3)
    refine lv_iconst (v := 0) hx hb dX10_bestHour_14 (by decide) ?_
    refine lv_istore_n (lv' := [(2, .int 0), (0, .ref (xad g 0)), (1, .int a1)]) hx hb dX10_bestHour_15 rfl hl (by decide) rfl (fun ls hl => ?_)
    refine lv_ldcw (v := 1000000) hx hb C.2.2.2.1 (C.2.2.2.2.1 _ xw_1460) dX10_bestHour_16 ?_
    refine lv_istore_n (lv' := [(3, .int 1000000), (2, .int 0), (0, .ref (xad g 0)), (1, .int a1)]) hx hb dX10_bestHour_19 rfl hl (by decide) rfl (fun ls hl => ?_)
    refine lv_iconst (v := 0) hx hb dX10_bestHour_20 (by decide) ?_
    refine lv_istore (lv' := [(4, .int 0), (3, .int 1000000), (2, .int 0), (0, .ref (xad g 0)), (1, .int a1)]) hx hb dX10_bestHour_21 hl (by decide) rfl (fun ls hl => ?_)
    obtain ⟨n9, h⟩ := h
    exact s_X10_bestHour_L23 C hX n9 hw (lv_sub hl [3, 4, 2, 1, 0] rfl) h
  · have h := h.2 (xb_f c3)
    refine lv_aload_n hx hb dX10_bestHour_8 rfl (lv_at hl 0 rfl) ?_
    refine lv_iconst (v := 1) hx hb dX10_bestHour_9 (by decide) ?_
    refine x_calli hw (x_runV (ci := 10) C hw (m_X10_none l C.2.2.2.2.2.2.2.2.1 hX h) (xoX_0 hX) rfl (x_gV xw_343 xw_344 xw_345 xw_2 xw_346) rfl rfl qX10_none ⟨(Nat.le_of_ble_eq_true rfl), (Nat.le_of_ble_eq_true rfl)⟩ rfl hl.1 rfl (Nat.le_of_ble_eq_true rfl) dX10_bestHour_10) (fun r5 u4 H locs hw h => ?_)
    exact x_iret C hw h dX10_bestHour_13
set_option maxHeartbeats 4000000 in
set_option maxRecDepth 100000 in
theorem m_X10_bestHour (l : Launch) {g : xG} (hD : x_D g) (hX : xpX g) {a1 : Int32} {u : xM} {Qf : Int32 → xM → Prop} (h : p_X10_bestHour a1 u Qf) : Met l yX10_bestHour (Cond.code yX10_bestHour cX10_bestHour 7 (some .int) :: wsL_law) (x_rm 5 173) (va_Pc [.ref (xad g 0), .int a1] (x_B g u)) (x_Qi g Qf) 0 0 (x_A g) := by
  refine Met.ofW (cc := cX10_bestHour) (maxL := 7) (ret := (some .int)) (by decide) rfl ?_
  intro p e s m args below meth c s₁ B hml hv
  obtain ⟨rfl, hB⟩ := hv
  obtain ⟨C, hw⟩ := x_start B hml hD hB
  have hl := lv_entry [.ref (xad g 0), .int a1] (n := 7) (Nat.le_of_ble_eq_true rfl)
  rw [lg_entry_eq]
  exact s_X10_bestHour C hX hw hl h
set_option maxHeartbeats 4000000 in
set_option maxRecDepth 100000 in
theorem s_X10_pumpFor_L16 {Qf : Int32 → xM → Prop} (C : x_C p s m args meth c g RX10 cX10_pumpFor 4 (some .int)) (hX : xpX g) : ∀ (nn : Nat) {v1 : Int32} {v2 : Int32} {u : xM} {H : Heap} {locs : List Loc} {ls : Array Slot} (hw : x_W g s.heap H locs u) (hl : lv_has ls 4 [(0, .ref (xad g 0)), (1, .int v1), (2, .int v2)]) (h : p_X10_pumpFor_L16 Qf nn v1 v2 u), W p l e (x_rm 4 152) s m args below meth c H locs 0 0 (MQ below (x_Qi g Qf) args s 0 0 (x_A g)) (F0 m 16 ls []) := by
  intro nn
  induction nn with
  | zero => intro v1 v2 u H locs ls hw hl h; exact h.elim
  | succ nn ih =>
    intro v1 v2 u H locs ls hw hl h
    unfold p_X10_pumpFor_L16 at h
    have hx := C.1
    have hb := C.2.1
    refine lv_iload_n hx hb dX10_pumpFor_16 rfl (lv_at hl 2 rfl) ?_
    refine lv_bipush (v := 99) hx hb dX10_pumpFor_17 (by decide) ?_
    refine lv_icmp_gt (tgt := 66) hx hb dX10_pumpFor_19 (by decide) (fun c1 => ?_) (fun c1 => ?_)
    · have h := h.1 c1
      refine lv_aload_n hx hb dX10_pumpFor_66 rfl (lv_at hl 0 rfl) ?_
      refine lv_bipush (v := 6) hx hb dX10_pumpFor_67 (by decide) ?_
      refine x_calli hw (x_runV (ci := 10) C hw (m_X10_none l C.2.2.2.2.2.2.2.2.1 hX h) (xoX_0 hX) rfl (x_gV xw_343 xw_344 xw_345 xw_2 xw_346) rfl rfl qX10_none ⟨(Nat.le_of_ble_eq_true rfl), (Nat.le_of_ble_eq_true rfl)⟩ rfl hl.1 rfl (Nat.le_of_ble_eq_true rfl) dX10_pumpFor_69) (fun r3 u2 H locs hw h => ?_)
      exact x_iret C hw h dX10_pumpFor_72
    · have h := h.2 c1
      refine lv_aload_n hx hb dX10_pumpFor_22 rfl (lv_at hl 0 rfl) ?_
      refine x_callr hw (x_runV (ci := 10) C hw (m_X10_asItIs l C.2.2.2.2.2.2.2.2.1 hX h) (xoX_0 hX) rfl (x_gV xw_1327 xw_1328 xw_1329 xw_2 xw_1330) rfl rfl qX10_asItIs ⟨(Nat.le_of_ble_eq_true rfl), (Nat.le_of_ble_eq_true rfl)⟩ rfl hl.1 rfl (Nat.le_of_ble_eq_true rfl) dX10_pumpFor_23) (fun u4 H locs hw h => ?_)
      refine lv_astore_n (lv' := [(3, .ref (xad g 110)), (0, .ref (xad g 0)), (1, .int v1), (2, .int v2)]) hx hb dX10_pumpFor_26 rfl hl (by decide) rfl (fun ls hl => ?_)
      refine lv_aload_n hx hb dX10_pumpFor_27 rfl (lv_at hl 0 rfl) ?_
      refine x_getr (ci := 1) C hw 0 (xoL_0 (xpL_110 hX)) rfl inlX1 (by decide) rfl rfl (xrL_0_0 (xpL_110 hX)) xw_858 dX10_pumpFor_28 ?_
      refine x_getr (ci := 7) C hw 6 (xoL_1 (xpL_110 hX)) rfl inlX7 (by decide) rfl rfl (xrL_1_6 (xpL_110 hX)) xw_933 dX10_pumpFor_31 ?_
      refine lv_iload_n hx hb dX10_pumpFor_34 rfl (lv_at hl 2 rfl) ?_
      refine lv_iload_n hx hb dX10_pumpFor_35 rfl (lv_at hl 3 rfl) ?_
      have c5 := h.1
      have h := h.2
      obtain ⟨u6, eu6⟩ : ∃ q : xM, q = si u4 116 v1.toNatClampNeg v2 := ⟨_, rfl⟩
      have h := h u6 eu6
      refine x_iast C hw (xoL_6 (xpL_110 hX)) c5 dX10_pumpFor_36 eu6 (fun H locs hw => ?_)
      refine lv_aload_n hx hb dX10_pumpFor_37 rfl (lv_at hl 0 rfl) ?_
      refine lv_bipush (v := 24) hx hb dX10_pumpFor_38 (by decide) ?_
      refine x_callv hw (x_runV (ci := 1) C hw (m_X1_goOn l C.2.2.2.2.2.2.2.2.1 (xpL_110 hX) h) (xoL_0 (xpL_110 hX)) rfl (x_gV xw_1160 xw_1161 xw_1162 xw_15 xw_1163) rfl rfl qX1_goOn ⟨(Nat.le_of_ble_eq_true rfl), (Nat.le_of_ble_eq_true rfl)⟩ rfl hl.1 rfl (Nat.le_of_ble_eq_true rfl) dX10_pumpFor_40) (fun u7 H locs hw h => ?_)
      refine lv_aload_n hx hb dX10_pumpFor_43 rfl (lv_at hl 0 rfl) ?_
      refine x_getr (ci := 1) C hw 0 (xoL_0 (xpL_110 hX)) rfl inlX1 (by decide) rfl rfl (xrL_0_0 (xpL_110 hX)) xw_858 dX10_pumpFor_44 ?_
      refine lv_iload_n hx hb dX10_pumpFor_47 rfl (lv_at hl 2 rfl) ?_
      refine x_callz hw (x_runV (ci := 7) C hw (m_X7_isDrowned l C.2.2.2.2.2.2.2.2.1 (xpL_110 hX) h) (xoL_1 (xpL_110 hX)) rfl (x_gV xw_1305 xw_1306 xw_1307 xw_57 xw_1308) rfl rfl qX7_isDrowned ⟨(Nat.le_of_ble_eq_true rfl), (Nat.le_of_ble_eq_true rfl)⟩ rfl hl.1 rfl (Nat.le_of_ble_eq_true rfl) dX10_pumpFor_48) (fun r9 u8 H locs hw h => ?_)
      refine lv_if_ne (tgt := 60) hx hb dX10_pumpFor_51 (by decide) (fun c10 => ?_) (fun c10 => ?_)
      · have h := h.1 (xb_t c10)
        obtain ⟨x11, ex11⟩ : ∃ y : Int32, y = v2 + 1 := ⟨_, rfl⟩
        have h := h x11 ex11
        refine lv_iinc (v := x11) (lv' := [(2, .int x11), (3, .ref (xad g 110)), (0, .ref (xad g 0)), (1, .int v1)]) hx hb dX10_pumpFor_60 hl (k := 3) rfl (by rw [ex11]; rfl) (by decide) rfl (fun ls hl => ?_)
        refine lv_goto (tgt := 16) hx hb dX10_pumpFor_63 (by decide) ?_
        exact ih hw (lv_sub hl [2, 3, 0] rfl) h
      · have h := h.2 (xb_f c10)
        refine lv_aload_n hx hb dX10_pumpFor_54 rfl (lv_at hl 1 rfl) ?_
        refine lv_iload_n hx hb dX10_pumpFor_55 rfl (lv_at hl 3 rfl) ?_
        refine x_calli hw (x_runV (ci := 10) C hw (m_X10_fine l C.2.2.2.2.2.2.2.2.1 hX h) (xoX_0 hX) rfl (x_gV xw_622 xw_623 xw_624 xw_2 xw_625) rfl rfl qX10_fine ⟨(Nat.le_of_ble_eq_true rfl), (Nat.le_of_ble_eq_true rfl)⟩ rfl hl.1 rfl (Nat.le_of_ble_eq_true rfl) dX10_pumpFor_56) (fun r13 u12 H locs hw h => ?_)
        exact x_iret C hw h dX10_pumpFor_59
set_option maxHeartbeats 4000000 in
set_option maxRecDepth 100000 in
theorem s_X10_pumpFor {Qf : Int32 → xM → Prop} {a1 : Int32} (C : x_C p s m args meth c g RX10 cX10_pumpFor 4 (some .int)) (hX : xpX g) {u : xM} {H : Heap} {locs : List Loc} {ls : Array Slot} (hw : x_W g s.heap H locs u) (hl : lv_has ls 4 [(0, .ref (xad g 0)), (1, .int a1)]) (h : p_X10_pumpFor a1 u Qf) : W p l e (x_rm 4 152) s m args below meth c H locs 0 0 (MQ below (x_Qi g Qf) args s 0 0 (x_A g)) (F0 m 0 ls []) := by
  unfold p_X10_pumpFor at h
  have hx := C.1
  have hb := C.2.1
  refine lv_aload_n hx hb dX10_pumpFor_0 rfl (lv_at hl 0 rfl) ?_
  refine lv_iload_n hx hb dX10_pumpFor_1 rfl (lv_at hl 1 rfl) ?_
  refine x_callz hw (x_runV (ci := 10) C hw (m_X10_isRoom l C.2.2.2.2.2.2.2.2.1 hX h) (xoX_0 hX) rfl (x_gV xw_936 xw_937 xw_938 xw_2 xw_939) rfl rfl qX10_isRoom ⟨(Nat.le_of_ble_eq_true rfl), (Nat.le_of_ble_eq_true rfl)⟩ rfl hl.1 rfl (Nat.le_of_ble_eq_true rfl) dX10_pumpFor_2) (fun r2 u1 H locs hw h => ?_)
  refine lv_if_ne (tgt := 14) hx hb dX10_pumpFor_5 (by decide) (fun c3 => ?_) (fun c3 => ?_)
  · have h := h.1 (xb_t c3)
    refine lv_iconst (v := 0) hx hb dX10_pumpFor_14 (by decide) ?_
    refine lv_istore_n (lv' := [(2, .int 0), (0, .ref (xad g 0)), (1, .int a1)]) hx hb dX10_pumpFor_15 rfl hl (by decide) rfl (fun ls hl => ?_)
    obtain ⟨n9, h⟩ := h
    exact s_X10_pumpFor_L16 C hX n9 hw (lv_sub hl [1, 2, 0] rfl) h
  · have h := h.2 (xb_f c3)
    refine lv_aload_n hx hb dX10_pumpFor_8 rfl (lv_at hl 0 rfl) ?_
    refine lv_iconst (v := 1) hx hb dX10_pumpFor_9 (by decide) ?_
    refine x_calli hw (x_runV (ci := 10) C hw (m_X10_none l C.2.2.2.2.2.2.2.2.1 hX h) (xoX_0 hX) rfl (x_gV xw_343 xw_344 xw_345 xw_2 xw_346) rfl rfl qX10_none ⟨(Nat.le_of_ble_eq_true rfl), (Nat.le_of_ble_eq_true rfl)⟩ rfl hl.1 rfl (Nat.le_of_ble_eq_true rfl) dX10_pumpFor_10) (fun r5 u4 H locs hw h => ?_)
    exact x_iret C hw h dX10_pumpFor_13
set_option maxHeartbeats 4000000 in
set_option maxRecDepth 100000 in
theorem m_X10_pumpFor (l : Launch) {g : xG} (hD : x_D g) (hX : xpX g) {a1 : Int32} {u : xM} {Qf : Int32 → xM → Prop} (h : p_X10_pumpFor a1 u Qf) : Met l yX10_pumpFor (Cond.code yX10_pumpFor cX10_pumpFor 4 (some .int) :: wsL_law) (x_rm 4 152) (va_Pc [.ref (xad g 0), .int a1] (x_B g u)) (x_Qi g Qf) 0 0 (x_A g) := by
  refine Met.ofW (cc := cX10_pumpFor) (maxL := 4) (ret := (some .int)) (by decide) rfl ?_
  intro p e s m args below meth c s₁ B hml hv
  obtain ⟨rfl, hB⟩ := hv
  obtain ⟨C, hw⟩ := x_start B hml hD hB
  have hl := lv_entry [.ref (xad g 0), .int a1] (n := 4) (Nat.le_of_ble_eq_true rfl)
  rw [lg_entry_eq]
  exact s_X10_pumpFor C hX hw hl h
set_option maxHeartbeats 4000000 in
set_option maxRecDepth 100000 in
theorem s_X10_pumpAt_L25 {Qf : Int32 → xM → Prop} (C : x_C p s m args meth c g RX10 cX10_pumpAt 7 (some .int)) (hX : xpX g) : ∀ (nn : Nat) {v1 : Int32} {v2 : Int32} {v3 : Int32} {v4 : Int32} {u : xM} {H : Heap} {locs : List Loc} {ls : Array Slot} (hw : x_W g s.heap H locs u) (hl : lv_has ls 7 [(0, .ref (xad g 0)), (1, .int v1), (2, .int v2), (3, .int v3), (4, .int v4)]) (h : p_X10_pumpAt_L25 Qf nn v1 v2 v3 v4 u), W p l e (x_rm 5 173) s m args below meth c H locs 0 0 (MQ below (x_Qi g Qf) args s 0 0 (x_A g)) (F0 m 25 ls []) := by
  intro nn
  induction nn with
  | zero => intro v1 v2 v3 v4 u H locs ls hw hl h; exact h.elim
  | succ nn ih =>
    intro v1 v2 v3 v4 u H locs ls hw hl h
    unfold p_X10_pumpAt_L25 at h
    have hx := C.1
    have hb := C.2.1
    refine lv_iload hx hb dX10_pumpAt_25 (lv_at hl 4 rfl) ?_
    refine lv_aload_n hx hb dX10_pumpAt_27 rfl (lv_at hl 0 rfl) ?_
    refine x_getr (ci := 10) C hw 0 (xoX_0 hX) rfl inlX10 (by decide) rfl rfl xrX_0_0 xw_16 dX10_pumpAt_28 ?_
    refine x_getr (ci := 1) C hw 0 (xoL_0 (xpL_83 hX)) rfl inlX1 (by decide) rfl rfl (xrL_0_0 (xpL_83 hX)) xw_858 dX10_pumpAt_31 ?_
    refine x_geti (ci := 7) C hw 0 (xoL_1 (xpL_83 hX)) rfl inlX7 (by decide) rfl rfl xw_859 dX10_pumpAt_34 ?_
    refine lv_icmp_ge (tgt := 102) hx hb dX10_pumpAt_37 (by decide) (fun c1 => ?_) (fun c1 => ?_)
    · have h := h.1 c1
      refine lv_iload_n hx hb dX10_pumpAt_102 rfl (lv_at hl 2 rfl) ?_
      refine lv_iconst (v := -1) hx hb dX10_pumpAt_103 (by decide) ?_
      refine lv_icmp_ne (tgt := 116) hx hb dX10_pumpAt_104 (by decide) (fun c2 => ?_) (fun c2 => ?_)
      · have h := h.1 c2
        refine lv_aload_n hx hb dX10_pumpAt_116 rfl (lv_at hl 0 rfl) ?_
        refine lv_iload_n hx hb dX10_pumpAt_117 rfl (lv_at hl 2 rfl) ?_
        refine x_calli hw (x_runV (ci := 10) C hw (m_X10_fine l C.2.2.2.2.2.2.2.2.1 hX h) (xoX_0 hX) rfl (x_gV xw_622 xw_623 xw_624 xw_2 xw_625) rfl rfl qX10_fine ⟨(Nat.le_of_ble_eq_true rfl), (Nat.le_of_ble_eq_true rfl)⟩ rfl hl.1 rfl (Nat.le_of_ble_eq_true rfl) dX10_pumpAt_118) (fun r4 u3 H locs hw h => ?_)
        exact x_iret C hw h dX10_pumpAt_121
      · have h := h.2 c2
        refine lv_aload_n hx hb dX10_pumpAt_107 rfl (lv_at hl 0 rfl) ?_
        refine lv_bipush (v := 6) hx hb dX10_pumpAt_108 (by decide) ?_
        refine x_calli hw (x_runV (ci := 10) C hw (m_X10_none l C.2.2.2.2.2.2.2.2.1 hX h) (xoX_0 hX) rfl (x_gV xw_343 xw_344 xw_345 xw_2 xw_346) rfl rfl qX10_none ⟨(Nat.le_of_ble_eq_true rfl), (Nat.le_of_ble_eq_true rfl)⟩ rfl hl.1 rfl (Nat.le_of_ble_eq_true rfl) dX10_pumpAt_110) (fun r6 u5 H locs hw h => ?_)
        refine lv_goto (tgt := 121) hx hb dX10_pumpAt_113 (by decide) ?_
        exact x_iret C hw h dX10_pumpAt_121
    · have h := h.2 c1
      refine lv_aload_n hx hb dX10_pumpAt_40 rfl (lv_at hl 0 rfl) ?_
      refine x_callr hw (x_runV (ci := 10) C hw (m_X10_asItIs l C.2.2.2.2.2.2.2.2.1 hX h) (xoX_0 hX) rfl (x_gV xw_1327 xw_1328 xw_1329 xw_2 xw_1330) rfl rfl qX10_asItIs ⟨(Nat.le_of_ble_eq_true rfl), (Nat.le_of_ble_eq_true rfl)⟩ rfl hl.1 rfl (Nat.le_of_ble_eq_true rfl) dX10_pumpAt_41) (fun u7 H locs hw h => ?_)
      refine lv_astore (lv' := [(5, .ref (xad g 110)), (0, .ref (xad g 0)), (1, .int v1), (2, .int v2), (3, .int v3), (4, .int v4)]) hx hb dX10_pumpAt_44 hl (by decide) rfl (fun ls hl => ?_)
      refine lv_aload hx hb dX10_pumpAt_46 (lv_at hl 0 rfl) ?_
      refine x_getr (ci := 1) C hw 0 (xoL_0 (xpL_110 hX)) rfl inlX1 (by decide) rfl rfl (xrL_0_0 (xpL_110 hX)) xw_858 dX10_pumpAt_48 ?_
      refine x_getr (ci := 7) C hw 6 (xoL_1 (xpL_110 hX)) rfl inlX7 (by decide) rfl rfl (xrL_1_6 (xpL_110 hX)) xw_933 dX10_pumpAt_51 ?_
      refine lv_iload hx hb dX10_pumpAt_54 (lv_at hl 5 rfl) ?_
      refine lv_bipush (v := 99) hx hb dX10_pumpAt_56 (by decide) ?_
      refine lv_aload hx hb dX10_pumpAt_58 (lv_at hl 0 rfl) ?_
      refine x_getr (ci := 1) C hw 0 (xoL_0 (xpL_110 hX)) rfl inlX1 (by decide) rfl rfl (xrL_0_0 (xpL_110 hX)) xw_858 dX10_pumpAt_60 ?_
      refine x_getr (ci := 7) C hw 6 (xoL_1 (xpL_110 hX)) rfl inlX7 (by decide) rfl rfl (xrL_1_6 (xpL_110 hX)) xw_933 dX10_pumpAt_63 ?_
      refine lv_iload hx hb dX10_pumpAt_66 (lv_at hl 5 rfl) ?_
      have c8 := h.1
      have h := h.2
      refine x_iald C hw (xoL_6 (xpL_110 hX)) c8 dX10_pumpAt_68 ?_
      refine lv_iload_n hx hb dX10_pumpAt_69 rfl (lv_at hl 2 rfl) ?_
      refine lv_iadd hx hb dX10_pumpAt_70 ?_
      refine x_mmin C hl.1 xw_1478 (Nat.le_of_ble_eq_true rfl) (Nat.le_of_ble_eq_true rfl) dX10_pumpAt_71 ?_
      refine lv_topi (fun x9 ex9 => ?_)
      have h := h x9 ex9
      have c10 := h.1
      have h := h.2
      obtain ⟨u11, eu11⟩ : ∃ q : xM, q = si u7 116 v4.toNatClampNeg x9 := ⟨_, rfl⟩
      have h := h u11 eu11
      refine x_iast C hw (xoL_6 (xpL_110 hX)) c10 dX10_pumpAt_74 eu11 (fun H locs hw => ?_)
      refine lv_aload hx hb dX10_pumpAt_75 (lv_at hl 0 rfl) ?_
      refine lv_bipush (v := 12) hx hb dX10_pumpAt_77 (by decide) ?_
      refine x_calli hw (x_runV (ci := 1) C hw (m_X1_waterIn l C.2.2.2.2.2.2.2.2.1 (xpL_110 hX) h) (xoL_0 (xpL_110 hX)) rfl (x_gV xw_1354 xw_1355 xw_1356 xw_15 xw_1357) rfl rfl qX1_waterIn ⟨(Nat.le_of_ble_eq_true rfl), (Nat.le_of_ble_eq_true rfl)⟩ rfl hl.1 rfl (Nat.le_of_ble_eq_true rfl) dX10_pumpAt_79) (fun r13 u12 H locs hw h => ?_)
      refine lv_istore (lv' := [(6, .int r13), (5, .ref (xad g 110)), (0, .ref (xad g 0)), (1, .int v1), (2, .int v2), (3, .int v3), (4, .int v4)]) hx hb dX10_pumpAt_82 hl (by decide) rfl (fun ls hl => ?_)
      refine lv_iload hx hb dX10_pumpAt_84 (lv_at hl 0 rfl) ?_
      refine lv_iload_n hx hb dX10_pumpAt_86 rfl (lv_at hl 5 rfl) ?_
      refine lv_icmp_ge (tgt := 96) hx hb dX10_pumpAt_87 (by decide) (fun c14 => ?_) (fun c14 => ?_)
      · have h := h.1 c14
        obtain ⟨x15, ex15⟩ : ∃ y : Int32, y = v4 + 1 := ⟨_, rfl⟩
        have h := h x15 ex15
        refine lv_iinc (v := x15) (lv' := [(4, .int x15), (6, .int r13), (5, .ref (xad g 110)), (0, .ref (xad g 0)), (1, .int v1), (2, .int v2), (3, .int v3)]) hx hb dX10_pumpAt_96 hl (k := 6) rfl (by rw [ex15]; rfl) (by decide) rfl (fun ls hl => ?_)
        refine lv_goto (tgt := 25) hx hb dX10_pumpAt_99 (by decide) ?_
        exact ih hw (lv_sub hl [3, 4, 5, 6, 0] rfl) h
      · have h := h.2 c14
        refine lv_iload hx hb dX10_pumpAt_90 (lv_at hl 0 rfl) ?_
        refine lv_istore_n (lv' := [(3, .int r13), (6, .int r13), (5, .ref (xad g 110)), (0, .ref (xad g 0)), (1, .int v1), (2, .int v2), (4, .int v4)]) hx hb dX10_pumpAt_92 rfl hl (by decide) rfl (fun ls hl => ?_)
        refine lv_iload hx hb dX10_pumpAt_93 (lv_at hl 6 rfl) ?_
        refine lv_istore_n (lv' := [(2, .int v4), (3, .int r13), (6, .int r13), (5, .ref (xad g 110)), (0, .ref (xad g 0)), (1, .int v1), (4, .int v4)]) hx hb dX10_pumpAt_95 rfl hl (by decide) rfl (fun ls hl => ?_)
        obtain ⟨x16, ex16⟩ : ∃ y : Int32, y = v4 + 1 := ⟨_, rfl⟩
        have h := h x16 ex16
        refine lv_iinc (v := x16) (lv' := [(4, .int x16), (2, .int v4), (3, .int r13), (6, .int r13), (5, .ref (xad g 110)), (0, .ref (xad g 0)), (1, .int v1)]) hx hb dX10_pumpAt_96 hl (k := 6) rfl (by rw [ex16]; rfl) (by decide) rfl (fun ls hl => ?_)
        refine lv_goto (tgt := 25) hx hb dX10_pumpAt_99 (by decide) ?_
        exact ih hw (lv_sub hl [5, 6, 1, 2, 0] rfl) h
set_option maxHeartbeats 4000000 in
set_option maxRecDepth 100000 in
theorem s_X10_pumpAt {Qf : Int32 → xM → Prop} {a1 : Int32} (C : x_C p s m args meth c g RX10 cX10_pumpAt 7 (some .int)) (hX : xpX g) {u : xM} {H : Heap} {locs : List Loc} {ls : Array Slot} (hw : x_W g s.heap H locs u) (hl : lv_has ls 7 [(0, .ref (xad g 0)), (1, .int a1)]) (h : p_X10_pumpAt a1 u Qf) : W p l e (x_rm 5 173) s m args below meth c H locs 0 0 (MQ below (x_Qi g Qf) args s 0 0 (x_A g)) (F0 m 0 ls []) := by
  unfold p_X10_pumpAt at h
  have hx := C.1
  have hb := C.2.1
  refine lv_iload_n hx hb dX10_pumpAt_0 rfl (lv_at hl 1 rfl) ?_
  refine lv_iconst (v := 1) hx hb dX10_pumpAt_1 (by decide) ?_
  refine lv_bipush (v := 99) hx hb dX10_pumpAt_2 (by decide) ?_
  refine x_callz hw (x_runS C hw (m_X10_isWithin l C.2.2.2.2.2.2.2.2.1  h) (x_gS xw_280 xw_281 xw_2 xw_282) rfl rfl qX10_isWithin ⟨(Nat.le_of_ble_eq_true rfl), (Nat.le_of_ble_eq_true rfl)⟩ rfl hl.1 rfl (Nat.le_of_ble_eq_true rfl) dX10_pumpAt_4) (fun r2 u1 H locs hw h => ?_)
  refine lv_if_ne (tgt := 16) hx hb dX10_pumpAt_7 (by decide) (fun c3 => ?_) (fun c3 => ?_)
  · have h := h.1 (xb_t c3)
    refine lv_iconst (v := -1) hx hb dX10_pumpAt_16 (by decide) ?_
    refine lv_istore_n (lv' := [(2, .int (-1)), (0, .ref (xad g 0)), (1, .int a1)]) hx hb dX10_pumpAt_17 rfl hl (by decide) rfl (fun ls hl => ?_)
    refine lv_ldcw (v := 1000000) hx hb C.2.2.2.1 (C.2.2.2.2.1 _ xw_1460) dX10_pumpAt_18 ?_
    refine lv_istore_n (lv' := [(3, .int 1000000), (2, .int (-1)), (0, .ref (xad g 0)), (1, .int a1)]) hx hb dX10_pumpAt_21 rfl hl (by decide) rfl (fun ls hl => ?_)
    refine lv_iconst (v := 0) hx hb dX10_pumpAt_22 (by decide) ?_
    refine lv_istore (lv' := [(4, .int 0), (3, .int 1000000), (2, .int (-1)), (0, .ref (xad g 0)), (1, .int a1)]) hx hb dX10_pumpAt_23 hl (by decide) rfl (fun ls hl => ?_)
    obtain ⟨n9, h⟩ := h
    exact s_X10_pumpAt_L25 C hX n9 hw (lv_sub hl [3, 4, 2, 1, 0] rfl) h
  · have h := h.2 (xb_f c3)
    refine lv_aload_n hx hb dX10_pumpAt_10 rfl (lv_at hl 0 rfl) ?_
    refine lv_iconst (v := 1) hx hb dX10_pumpAt_11 (by decide) ?_
    refine x_calli hw (x_runV (ci := 10) C hw (m_X10_none l C.2.2.2.2.2.2.2.2.1 hX h) (xoX_0 hX) rfl (x_gV xw_343 xw_344 xw_345 xw_2 xw_346) rfl rfl qX10_none ⟨(Nat.le_of_ble_eq_true rfl), (Nat.le_of_ble_eq_true rfl)⟩ rfl hl.1 rfl (Nat.le_of_ble_eq_true rfl) dX10_pumpAt_12) (fun r5 u4 H locs hw h => ?_)
    exact x_iret C hw h dX10_pumpAt_15
set_option maxHeartbeats 4000000 in
set_option maxRecDepth 100000 in
theorem m_X10_pumpAt (l : Launch) {g : xG} (hD : x_D g) (hX : xpX g) {a1 : Int32} {u : xM} {Qf : Int32 → xM → Prop} (h : p_X10_pumpAt a1 u Qf) : Met l yX10_pumpAt (Cond.code yX10_pumpAt cX10_pumpAt 7 (some .int) :: wsL_law) (x_rm 5 173) (va_Pc [.ref (xad g 0), .int a1] (x_B g u)) (x_Qi g Qf) 0 0 (x_A g) := by
  refine Met.ofW (cc := cX10_pumpAt) (maxL := 7) (ret := (some .int)) (by decide) rfl ?_
  intro p e s m args below meth c s₁ B hml hv
  obtain ⟨rfl, hB⟩ := hv
  obtain ⟨C, hw⟩ := x_start B hml hD hB
  have hl := lv_entry [.ref (xad g 0), .int a1] (n := 7) (Nat.le_of_ble_eq_true rfl)
  rw [lg_entry_eq]
  exact s_X10_pumpAt C hX hw hl h
set_option maxHeartbeats 4000000 in
set_option maxRecDepth 100000 in
theorem s_X10_waterWalled {Qf : Int32 → xM → Prop} {a1 : Int32} (C : x_C p s m args meth c g RX10 cX10_waterWalled 3 (some .int)) (hX : xpX g) {u : xM} {H : Heap} {locs : List Loc} {ls : Array Slot} (hw : x_W g s.heap H locs u) (hl : lv_has ls 3 [(0, .ref (xad g 0)), (1, .int a1)]) (h : p_X10_waterWalled a1 u Qf) : W p l e (x_rm 5 173) s m args below meth c H locs 0 0 (MQ below (x_Qi g Qf) args s 0 0 (x_A g)) (F0 m 0 ls []) := by
  unfold p_X10_waterWalled at h
  have hx := C.1
  have hb := C.2.1
  refine lv_aload_n hx hb dX10_waterWalled_0 rfl (lv_at hl 0 rfl) ?_
  refine x_callr hw (x_runV (ci := 10) C hw (m_X10_asItIs l C.2.2.2.2.2.2.2.2.1 hX h) (xoX_0 hX) rfl (x_gV xw_1327 xw_1328 xw_1329 xw_2 xw_1330) rfl rfl qX10_asItIs ⟨(Nat.le_of_ble_eq_true rfl), (Nat.le_of_ble_eq_true rfl)⟩ rfl hl.1 rfl (Nat.le_of_ble_eq_true rfl) dX10_waterWalled_1) (fun u1 H locs hw h => ?_)
  refine lv_astore_n (lv' := [(2, .ref (xad g 110)), (0, .ref (xad g 0)), (1, .int a1)]) hx hb dX10_waterWalled_4 rfl hl (by decide) rfl (fun ls hl => ?_)
  refine lv_aload_n hx hb dX10_waterWalled_5 rfl (lv_at hl 0 rfl) ?_
  refine x_getr (ci := 1) C hw 1 (xoL_0 (xpL_110 hX)) rfl inlX1 (by decide) rfl rfl (xrL_0_1 (xpL_110 hX)) xw_398 dX10_waterWalled_6 ?_
  refine lv_dup hx hb dX10_waterWalled_9 rfl ?_
  refine x_geti (ci := 0) C hw 2 (xoL_9 (xpL_110 hX)) rfl inlX0 (by decide) rfl rfl xw_864 dX10_waterWalled_10 ?_
  refine lv_iload_n hx hb dX10_waterWalled_13 rfl (lv_at hl 2 rfl) ?_
  refine lv_ior hx hb dX10_waterWalled_14 ?_
  obtain ⟨u2, eu2⟩ : ∃ q : xM, q = si u1 119 2 ((gi u1 119 2) ||| a1) := ⟨_, rfl⟩
  have h := h u2 eu2
  refine x_puti (ci := 0) (ty := .int) C hw 2 (xoL_9 (xpL_110 hX)) rfl inlX0 tyX0_ok nmX0 (by decide) rfl rfl xw_864 rfl (by decide +kernel) rfl rfl dX10_waterWalled_15 eu2 (fun H locs hw => ?_)
  refine lv_aload_n hx hb dX10_waterWalled_18 rfl (lv_at hl 0 rfl) ?_
  refine lv_bipush (v := 12) hx hb dX10_waterWalled_19 (by decide) ?_
  refine x_calli hw (x_runV (ci := 1) C hw (m_X1_waterIn l C.2.2.2.2.2.2.2.2.1 (xpL_110 hX) h) (xoL_0 (xpL_110 hX)) rfl (x_gV xw_1354 xw_1355 xw_1356 xw_15 xw_1357) rfl rfl qX1_waterIn ⟨(Nat.le_of_ble_eq_true rfl), (Nat.le_of_ble_eq_true rfl)⟩ rfl hl.1 rfl (Nat.le_of_ble_eq_true rfl) dX10_waterWalled_21) (fun r4 u3 H locs hw h => ?_)
  exact x_iret C hw h dX10_waterWalled_24
set_option maxHeartbeats 4000000 in
set_option maxRecDepth 100000 in
theorem m_X10_waterWalled (l : Launch) {g : xG} (hD : x_D g) (hX : xpX g) {a1 : Int32} {u : xM} {Qf : Int32 → xM → Prop} (h : p_X10_waterWalled a1 u Qf) : Met l yX10_waterWalled (Cond.code yX10_waterWalled cX10_waterWalled 3 (some .int) :: wsL_law) (x_rm 5 173) (va_Pc [.ref (xad g 0), .int a1] (x_B g u)) (x_Qi g Qf) 0 0 (x_A g) := by
  refine Met.ofW (cc := cX10_waterWalled) (maxL := 3) (ret := (some .int)) (by decide) rfl ?_
  intro p e s m args below meth c s₁ B hml hv
  obtain ⟨rfl, hB⟩ := hv
  obtain ⟨C, hw⟩ := x_start B hml hD hB
  have hl := lv_entry [.ref (xad g 0), .int a1] (n := 3) (Nat.le_of_ble_eq_true rfl)
  rw [lg_entry_eq]
  exact s_X10_waterWalled C hX hw hl h
set_option maxHeartbeats 4000000 in
set_option maxRecDepth 100000 in
theorem s_X10_twoWalls_L80 {Qf : Int32 → xM → Prop} {K8 : Int32 → Int32 → Int32 → xM → Prop} {K27 : Int32 → Int32 → Int32 → Int32 → xM → Prop} (C : x_C p s m args meth c g RX10 cX10_twoWalls 7 (some .int)) (hX : xpX g) (hK8 : ∀ {v1 : Int32} {v2 : Int32} {v3 : Int32} {u : xM} {H : Heap} {locs : List Loc} {ls : Array Slot}, x_W g s.heap H locs u → lv_has ls 7 [(0, .ref (xad g 0)), (1, .int v1), (2, .int v2), (3, .int v3)] → K8 v1 v2 v3 u → W p l e (x_rm 6 195) s m args below meth c H locs 0 0 (MQ below (x_Qi g Qf) args s 0 0 (x_A g)) (F0 m 8 ls [])) (hK27 : ∀ {v1 : Int32} {v2 : Int32} {v3 : Int32} {v4 : Int32} {u : xM} {H : Heap} {locs : List Loc} {ls : Array Slot}, x_W g s.heap H locs u → lv_has ls 7 [(0, .ref (xad g 0)), (1, .int v1), (2, .int v2), (3, .int v3), (4, .int v4)] → K27 v1 v2 v3 v4 u → W p l e (x_rm 6 195) s m args below meth c H locs 0 0 (MQ below (x_Qi g Qf) args s 0 0 (x_A g)) (F0 m 27 ls [])) {v1 : Int32} {v2 : Int32} {v3 : Int32} {v4 : Int32} {w0 : Int32} {u : xM} {H : Heap} {locs : List Loc} {ls : Array Slot} (hw : x_W g s.heap H locs u) (hl : lv_has ls 7 [(0, .ref (xad g 0)), (1, .int v1), (2, .int v2), (3, .int v3), (4, .int v4)]) (h : p_X10_twoWalls_L80 Qf K8 K27 v1 v2 v3 v4 w0 u) : W p l e (x_rm 6 195) s m args below meth c H locs 0 0 (MQ below (x_Qi g Qf) args s 0 0 (x_A g)) (F0 m 80 ls [.int w0]) := by
  unfold p_X10_twoWalls_L80 at h
  have hx := C.1
  have hb := C.2.1
  refine lv_istore (lv' := [(6, .int w0), (0, .ref (xad g 0)), (1, .int v1), (2, .int v2), (3, .int v3), (4, .int v4)]) hx hb dX10_twoWalls_80 hl (by decide) rfl (fun ls hl => ?_)
  refine lv_iload hx hb dX10_twoWalls_82 (lv_at hl 0 rfl) ?_
  refine lv_iload_n hx hb dX10_twoWalls_84 rfl (lv_at hl 3 rfl) ?_
  refine lv_icmp_ge (tgt := 99) hx hb dX10_twoWalls_85 (by decide) (fun c1 => ?_) (fun c1 => ?_)
  · have h := h.1 c1
    obtain ⟨x2, ex2⟩ : ∃ y : Int32, y = v4 + 1 := ⟨_, rfl⟩
    have h := h x2 ex2
    refine lv_iinc (v := x2) (lv' := [(4, .int x2), (6, .int w0), (0, .ref (xad g 0)), (1, .int v1), (2, .int v2), (3, .int v3)]) hx hb dX10_twoWalls_99 hl (k := 5) rfl (by rw [ex2]; rfl) (by decide) rfl (fun ls hl => ?_)
    refine lv_goto (tgt := 27) hx hb dX10_twoWalls_102 (by decide) ?_
    exact hK27 hw (lv_sub hl [2, 3, 4, 5, 0] rfl) h
  · have h := h.2 c1
    refine lv_iload hx hb dX10_twoWalls_88 (lv_at hl 0 rfl) ?_
    refine lv_istore_n (lv' := [(2, .int w0), (6, .int w0), (0, .ref (xad g 0)), (1, .int v1), (3, .int v3), (4, .int v4)]) hx hb dX10_twoWalls_90 rfl hl (by decide) rfl (fun ls hl => ?_)
    refine lv_bipush (v := 10) hx hb dX10_twoWalls_91 (by decide) ?_
    refine lv_iload_n hx hb dX10_twoWalls_93 rfl (lv_at hl 4 rfl) ?_
    refine lv_imul hx hb dX10_twoWalls_94 ?_
    refine lv_iload hx hb dX10_twoWalls_95 (lv_at hl 5 rfl) ?_
    refine lv_iadd hx hb dX10_twoWalls_97 ?_
    refine lv_topi (fun x3 ex3 => ?_)
    have h := h x3 ex3
    refine lv_istore_n (lv' := [(1, .int x3), (2, .int w0), (6, .int w0), (0, .ref (xad g 0)), (3, .int v3), (4, .int v4)]) hx hb dX10_twoWalls_98 rfl hl (by decide) rfl (fun ls hl => ?_)
    obtain ⟨x4, ex4⟩ : ∃ y : Int32, y = v4 + 1 := ⟨_, rfl⟩
    have h := h x4 ex4
    refine lv_iinc (v := x4) (lv' := [(4, .int x4), (1, .int x3), (2, .int w0), (6, .int w0), (0, .ref (xad g 0)), (3, .int v3)]) hx hb dX10_twoWalls_99 hl (k := 5) rfl (by rw [ex4]; rfl) (by decide) rfl (fun ls hl => ?_)
    refine lv_goto (tgt := 27) hx hb dX10_twoWalls_102 (by decide) ?_
    exact hK27 hw (lv_sub hl [4, 1, 2, 5, 0] rfl) h
set_option maxHeartbeats 4000000 in
set_option maxRecDepth 100000 in
theorem s_X10_twoWalls_L27 {Qf : Int32 → xM → Prop} {K8 : Int32 → Int32 → Int32 → xM → Prop} (C : x_C p s m args meth c g RX10 cX10_twoWalls 7 (some .int)) (hX : xpX g) (hK8 : ∀ {v1 : Int32} {v2 : Int32} {v3 : Int32} {u : xM} {H : Heap} {locs : List Loc} {ls : Array Slot}, x_W g s.heap H locs u → lv_has ls 7 [(0, .ref (xad g 0)), (1, .int v1), (2, .int v2), (3, .int v3)] → K8 v1 v2 v3 u → W p l e (x_rm 6 195) s m args below meth c H locs 0 0 (MQ below (x_Qi g Qf) args s 0 0 (x_A g)) (F0 m 8 ls [])) : ∀ (nn : Nat) {v1 : Int32} {v2 : Int32} {v3 : Int32} {v4 : Int32} {u : xM} {H : Heap} {locs : List Loc} {ls : Array Slot} (hw : x_W g s.heap H locs u) (hl : lv_has ls 7 [(0, .ref (xad g 0)), (1, .int v1), (2, .int v2), (3, .int v3), (4, .int v4)]) (h : p_X10_twoWalls_L27 Qf K8 nn v1 v2 v3 v4 u), W p l e (x_rm 6 195) s m args below meth c H locs 0 0 (MQ below (x_Qi g Qf) args s 0 0 (x_A g)) (F0 m 27 ls []) := by
  intro nn
  induction nn with
  | zero => intro v1 v2 v3 v4 u H locs ls hw hl h; exact h.elim
  | succ nn ih =>
    intro v1 v2 v3 v4 u H locs ls hw hl h
    unfold p_X10_twoWalls_L27 at h
    have hx := C.1
    have hb := C.2.1
    refine lv_iload hx hb dX10_twoWalls_27 (lv_at hl 4 rfl) ?_
    refine lv_aload_n hx hb dX10_twoWalls_29 rfl (lv_at hl 0 rfl) ?_
    refine x_getr (ci := 10) C hw 0 (xoX_0 hX) rfl inlX10 (by decide) rfl rfl xrX_0_0 xw_16 dX10_twoWalls_30 ?_
    refine x_getr (ci := 1) C hw 1 (xoL_0 (xpL_83 hX)) rfl inlX1 (by decide) rfl rfl (xrL_0_1 (xpL_83 hX)) xw_398 dX10_twoWalls_33 ?_
    refine x_geti (ci := 0) C hw 0 (xoL_9 (xpL_83 hX)) rfl inlX0 (by decide) rfl rfl xw_399 dX10_twoWalls_36 ?_
    refine lv_icmp_ge (tgt := 105) hx hb dX10_twoWalls_39 (by decide) (fun c1 => ?_) (fun c1 => ?_)
    · have h := h.1 c1
      obtain ⟨x2, ex2⟩ : ∃ y : Int32, y = v3 + 1 := ⟨_, rfl⟩
      have h := h x2 ex2
      refine lv_iinc (v := x2) (lv' := [(3, .int x2), (0, .ref (xad g 0)), (1, .int v1), (2, .int v2), (4, .int v4)]) hx hb dX10_twoWalls_105 hl (k := 3) rfl (by rw [ex2]; rfl) (by decide) rfl (fun ls hl => ?_)
      refine lv_goto (tgt := 8) hx hb dX10_twoWalls_108 (by decide) ?_
      exact hK8 hw (lv_sub hl [1, 2, 3, 0] rfl) h
    · have h := h.2 c1
      refine lv_iconst (v := 1) hx hb dX10_twoWalls_42 (by decide) ?_
      refine lv_iload_n hx hb dX10_twoWalls_43 rfl (lv_at hl 3 rfl) ?_
      refine lv_ishl hx hb dX10_twoWalls_44 ?_
      refine lv_iconst (v := 1) hx hb dX10_twoWalls_45 (by decide) ?_
      refine lv_iload hx hb dX10_twoWalls_46 (lv_at hl 4 rfl) ?_
      refine lv_ishl hx hb dX10_twoWalls_48 ?_
      refine lv_ior hx hb dX10_twoWalls_49 ?_
      refine lv_topi (fun x3 ex3 => ?_)
      have h := h x3 ex3
      refine lv_istore (lv' := [(5, .int x3), (0, .ref (xad g 0)), (1, .int v1), (2, .int v2), (3, .int v3), (4, .int v4)]) hx hb dX10_twoWalls_50 hl (by decide) rfl (fun ls hl => ?_)
      refine lv_aload_n hx hb dX10_twoWalls_52 rfl (lv_at hl 1 rfl) ?_
      refine x_getr (ci := 10) C hw 0 (xoX_0 hX) rfl inlX10 (by decide) rfl rfl xrX_0_0 xw_16 dX10_twoWalls_53 ?_
      refine x_getr (ci := 1) C hw 1 (xoL_0 (xpL_83 hX)) rfl inlX1 (by decide) rfl rfl (xrL_0_1 (xpL_83 hX)) xw_398 dX10_twoWalls_56 ?_
      refine x_geti (ci := 0) C hw 2 (xoL_9 (xpL_83 hX)) rfl inlX0 (by decide) rfl rfl xw_864 dX10_twoWalls_59 ?_
      refine lv_iload hx hb dX10_twoWalls_62 (lv_at hl 0 rfl) ?_
      refine lv_iand hx hb dX10_twoWalls_64 ?_
      refine lv_if_ne (tgt := 77) hx hb dX10_twoWalls_65 (by decide) (fun c4 => ?_) (fun c4 => ?_)
      · have h := h.1 c4
        refine lv_ldcw (v := 1000000) hx hb C.2.2.2.1 (C.2.2.2.2.1 _ xw_1460) dX10_twoWalls_77 ?_
        exact s_X10_twoWalls_L80 C hX hK8 (fun hw hl h => ih hw hl h) hw (lv_sub hl [1, 2, 3, 4, 5] rfl) h
      · have h := h.2 c4
        refine lv_aload_n hx hb dX10_twoWalls_68 rfl (lv_at hl 1 rfl) ?_
        refine lv_iload hx hb dX10_twoWalls_69 (lv_at hl 0 rfl) ?_
        refine x_calli hw (x_runV (ci := 10) C hw (m_X10_waterWalled l C.2.2.2.2.2.2.2.2.1 hX h) (xoX_0 hX) rfl (x_gV xw_1487 xw_1488 xw_1489 xw_2 xw_1490) rfl rfl qX10_waterWalled ⟨(Nat.le_of_ble_eq_true rfl), (Nat.le_of_ble_eq_true rfl)⟩ rfl hl.1 rfl (Nat.le_of_ble_eq_true rfl) dX10_twoWalls_71) (fun r6 u5 H locs hw h => ?_)
        refine lv_goto (tgt := 80) hx hb dX10_twoWalls_74 (by decide) ?_
        exact s_X10_twoWalls_L80 C hX hK8 (fun hw hl h => ih hw hl h) hw (lv_sub hl [1, 2, 3, 4, 5] rfl) h
set_option maxHeartbeats 4000000 in
set_option maxRecDepth 100000 in
theorem s_X10_twoWalls_L8 {Qf : Int32 → xM → Prop} (C : x_C p s m args meth c g RX10 cX10_twoWalls 7 (some .int)) (hX : xpX g) : ∀ (nn : Nat) {v1 : Int32} {v2 : Int32} {v3 : Int32} {u : xM} {H : Heap} {locs : List Loc} {ls : Array Slot} (hw : x_W g s.heap H locs u) (hl : lv_has ls 7 [(0, .ref (xad g 0)), (1, .int v1), (2, .int v2), (3, .int v3)]) (h : p_X10_twoWalls_L8 Qf nn v1 v2 v3 u), W p l e (x_rm 6 195) s m args below meth c H locs 0 0 (MQ below (x_Qi g Qf) args s 0 0 (x_A g)) (F0 m 8 ls []) := by
  intro nn
  induction nn with
  | zero => intro v1 v2 v3 u H locs ls hw hl h; exact h.elim
  | succ nn ih =>
    intro v1 v2 v3 u H locs ls hw hl h
    unfold p_X10_twoWalls_L8 at h
    have hx := C.1
    have hb := C.2.1
    refine lv_iload_n hx hb dX10_twoWalls_8 rfl (lv_at hl 3 rfl) ?_
    refine lv_aload_n hx hb dX10_twoWalls_9 rfl (lv_at hl 0 rfl) ?_
    refine x_getr (ci := 10) C hw 0 (xoX_0 hX) rfl inlX10 (by decide) rfl rfl xrX_0_0 xw_16 dX10_twoWalls_10 ?_
    refine x_getr (ci := 1) C hw 1 (xoL_0 (xpL_83 hX)) rfl inlX1 (by decide) rfl rfl (xrL_0_1 (xpL_83 hX)) xw_398 dX10_twoWalls_13 ?_
    refine x_geti (ci := 0) C hw 0 (xoL_9 (xpL_83 hX)) rfl inlX0 (by decide) rfl rfl xw_399 dX10_twoWalls_16 ?_
    refine lv_icmp_ge (tgt := 111) hx hb dX10_twoWalls_19 (by decide) (fun c1 => ?_) (fun c1 => ?_)
    · have h := h.1 c1
      refine lv_iload_n hx hb dX10_twoWalls_111 rfl (lv_at hl 1 rfl) ?_
      refine lv_iconst (v := -1) hx hb dX10_twoWalls_112 (by decide) ?_
      refine lv_icmp_ne (tgt := 125) hx hb dX10_twoWalls_113 (by decide) (fun c2 => ?_) (fun c2 => ?_)
      · have h := h.1 c2
        refine lv_aload_n hx hb dX10_twoWalls_125 rfl (lv_at hl 0 rfl) ?_
        refine lv_iload_n hx hb dX10_twoWalls_126 rfl (lv_at hl 1 rfl) ?_
        refine x_calli hw (x_runV (ci := 10) C hw (m_X10_fine l C.2.2.2.2.2.2.2.2.1 hX h) (xoX_0 hX) rfl (x_gV xw_622 xw_623 xw_624 xw_2 xw_625) rfl rfl qX10_fine ⟨(Nat.le_of_ble_eq_true rfl), (Nat.le_of_ble_eq_true rfl)⟩ rfl hl.1 rfl (Nat.le_of_ble_eq_true rfl) dX10_twoWalls_127) (fun r4 u3 H locs hw h => ?_)
        exact x_iret C hw h dX10_twoWalls_130
      · have h := h.2 c2
        refine lv_aload_n hx hb dX10_twoWalls_116 rfl (lv_at hl 0 rfl) ?_
        refine lv_bipush (v := 6) hx hb dX10_twoWalls_117 (by decide) ?_
        refine x_calli hw (x_runV (ci := 10) C hw (m_X10_none l C.2.2.2.2.2.2.2.2.1 hX h) (xoX_0 hX) rfl (x_gV xw_343 xw_344 xw_345 xw_2 xw_346) rfl rfl qX10_none ⟨(Nat.le_of_ble_eq_true rfl), (Nat.le_of_ble_eq_true rfl)⟩ rfl hl.1 rfl (Nat.le_of_ble_eq_true rfl) dX10_twoWalls_119) (fun r6 u5 H locs hw h => ?_)
        refine lv_goto (tgt := 130) hx hb dX10_twoWalls_122 (by decide) ?_
        exact x_iret C hw h dX10_twoWalls_130
    · have h := h.2 c1
      refine lv_iload_n hx hb dX10_twoWalls_22 rfl (lv_at hl 3 rfl) ?_
      refine lv_iconst (v := 1) hx hb dX10_twoWalls_23 (by decide) ?_
      refine lv_iadd hx hb dX10_twoWalls_24 ?_
      refine lv_topi (fun x7 ex7 => ?_)
      have h := h x7 ex7
      refine lv_istore (lv' := [(4, .int x7), (0, .ref (xad g 0)), (1, .int v1), (2, .int v2), (3, .int v3)]) hx hb dX10_twoWalls_25 hl (by decide) rfl (fun ls hl => ?_)
      obtain ⟨n9, h⟩ := h
      exact s_X10_twoWalls_L27 C hX (fun hw hl h => ih hw hl h) n9 hw (lv_sub hl [1, 2, 3, 4, 0] rfl) h
set_option maxHeartbeats 4000000 in
set_option maxRecDepth 100000 in
theorem s_X10_twoWalls {Qf : Int32 → xM → Prop} (C : x_C p s m args meth c g RX10 cX10_twoWalls 7 (some .int)) (hX : xpX g) {u : xM} {H : Heap} {locs : List Loc} {ls : Array Slot} (hw : x_W g s.heap H locs u) (hl : lv_has ls 7 [(0, .ref (xad g 0))]) (h : p_X10_twoWalls  u Qf) : W p l e (x_rm 6 195) s m args below meth c H locs 0 0 (MQ below (x_Qi g Qf) args s 0 0 (x_A g)) (F0 m 0 ls []) := by
  unfold p_X10_twoWalls at h
  have hx := C.1
  have hb := C.2.1
  refine lv_iconst (v := -1) hx hb dX10_twoWalls_0 (by decide) ?_
  refine lv_istore_n (lv' := [(1, .int (-1)), (0, .ref (xad g 0))]) hx hb dX10_twoWalls_1 rfl hl (by decide) rfl (fun ls hl => ?_)
  refine lv_ldcw (v := 1000000) hx hb C.2.2.2.1 (C.2.2.2.2.1 _ xw_1460) dX10_twoWalls_2 ?_
  refine lv_istore_n (lv' := [(2, .int 1000000), (1, .int (-1)), (0, .ref (xad g 0))]) hx hb dX10_twoWalls_5 rfl hl (by decide) rfl (fun ls hl => ?_)
  refine lv_iconst (v := 0) hx hb dX10_twoWalls_6 (by decide) ?_
  refine lv_istore_n (lv' := [(3, .int 0), (2, .int 1000000), (1, .int (-1)), (0, .ref (xad g 0))]) hx hb dX10_twoWalls_7 rfl hl (by decide) rfl (fun ls hl => ?_)
  obtain ⟨n9, h⟩ := h
  exact s_X10_twoWalls_L8 C hX n9 hw (lv_sub hl [3, 2, 1, 0] rfl) h
set_option maxHeartbeats 4000000 in
set_option maxRecDepth 100000 in
theorem m_X10_twoWalls (l : Launch) {g : xG} (hD : x_D g) (hX : xpX g) {u : xM} {Qf : Int32 → xM → Prop} (h : p_X10_twoWalls  u Qf) : Met l yX10_twoWalls (Cond.code yX10_twoWalls cX10_twoWalls 7 (some .int) :: wsL_law) (x_rm 6 195) (va_Pc [.ref (xad g 0)] (x_B g u)) (x_Qi g Qf) 0 0 (x_A g) := by
  refine Met.ofW (cc := cX10_twoWalls) (maxL := 7) (ret := (some .int)) (by decide) rfl ?_
  intro p e s m args below meth c s₁ B hml hv
  obtain ⟨rfl, hB⟩ := hv
  obtain ⟨C, hw⟩ := x_start B hml hD hB
  have hl := lv_entry [.ref (xad g 0)] (n := 7) (Nat.le_of_ble_eq_true rfl)
  rw [lg_entry_eq]
  exact s_X10_twoWalls C hX hw hl h
set_option maxHeartbeats 4000000 in
set_option maxRecDepth 100000 in
theorem s_X10_gain {Qf : Int32 → xM → Prop} {a1 : Int32} (C : x_C p s m args meth c g RX10 cX10_gain 2 (some .int)) (hX : xpX g) {u : xM} {H : Heap} {locs : List Loc} {ls : Array Slot} (hw : x_W g s.heap H locs u) (hl : lv_has ls 2 [(0, .ref (xad g 0)), (1, .int a1)]) (h : p_X10_gain a1 u Qf) : W p l e (x_rm 6 195) s m args below meth c H locs 0 0 (MQ below (x_Qi g Qf) args s 0 0 (x_A g)) (F0 m 0 ls []) := by
  unfold p_X10_gain at h
  have hx := C.1
  have hb := C.2.1
  refine lv_aload_n hx hb dX10_gain_0 rfl (lv_at hl 0 rfl) ?_
  refine lv_iload_n hx hb dX10_gain_1 rfl (lv_at hl 1 rfl) ?_
  refine x_callz hw (x_runV (ci := 10) C hw (m_X10_isDoor l C.2.2.2.2.2.2.2.2.1 hX h) (xoX_0 hX) rfl (x_gV xw_962 xw_963 xw_964 xw_2 xw_965) rfl rfl qX10_isDoor ⟨(Nat.le_of_ble_eq_true rfl), (Nat.le_of_ble_eq_true rfl)⟩ rfl hl.1 rfl (Nat.le_of_ble_eq_true rfl) dX10_gain_2) (fun r2 u1 H locs hw h => ?_)
  refine lv_if_ne (tgt := 14) hx hb dX10_gain_5 (by decide) (fun c3 => ?_) (fun c3 => ?_)
  · have h := h.1 (xb_t c3)
    refine lv_aload_n hx hb dX10_gain_14 rfl (lv_at hl 0 rfl) ?_
    refine lv_aload_n hx hb dX10_gain_15 rfl (lv_at hl 0 rfl) ?_
    refine lv_iconst (v := 0) hx hb dX10_gain_16 (by decide) ?_
    refine x_calli hw (x_runV (ci := 10) C hw (m_X10_waterWalled l C.2.2.2.2.2.2.2.2.1 hX h) (xoX_0 hX) rfl (x_gV xw_1487 xw_1488 xw_1489 xw_2 xw_1490) rfl rfl qX10_waterWalled ⟨(Nat.le_of_ble_eq_true rfl), (Nat.le_of_ble_eq_true rfl)⟩ rfl hl.1 rfl (Nat.le_of_ble_eq_true rfl) dX10_gain_17) (fun r5 u4 H locs hw h => ?_)
    refine lv_aload_n hx hb dX10_gain_20 rfl (lv_at hl 0 rfl) ?_
    refine lv_iconst (v := 1) hx hb dX10_gain_21 (by decide) ?_
    refine lv_iload_n hx hb dX10_gain_22 rfl (lv_at hl 1 rfl) ?_
    refine lv_ishl hx hb dX10_gain_23 ?_
    refine x_calli hw (x_runV (ci := 10) C hw (m_X10_waterWalled l C.2.2.2.2.2.2.2.2.1 hX h) (xoX_0 hX) rfl (x_gV xw_1487 xw_1488 xw_1489 xw_2 xw_1490) rfl rfl qX10_waterWalled ⟨(Nat.le_of_ble_eq_true rfl), (Nat.le_of_ble_eq_true rfl)⟩ rfl hl.1 rfl (Nat.le_of_ble_eq_true rfl) dX10_gain_24) (fun r7 u6 H locs hw h => ?_)
    refine lv_isub hx hb dX10_gain_27 ?_
    refine x_calli hw (x_runV (ci := 10) C hw (m_X10_fine l C.2.2.2.2.2.2.2.2.1 hX h) (xoX_0 hX) rfl (x_gV xw_622 xw_623 xw_624 xw_2 xw_625) rfl rfl qX10_fine ⟨(Nat.le_of_ble_eq_true rfl), (Nat.le_of_ble_eq_true rfl)⟩ rfl hl.1 rfl (Nat.le_of_ble_eq_true rfl) dX10_gain_28) (fun r9 u8 H locs hw h => ?_)
    exact x_iret C hw h dX10_gain_31
  · have h := h.2 (xb_f c3)
    refine lv_aload_n hx hb dX10_gain_8 rfl (lv_at hl 0 rfl) ?_
    refine lv_iconst (v := 1) hx hb dX10_gain_9 (by decide) ?_
    refine x_calli hw (x_runV (ci := 10) C hw (m_X10_none l C.2.2.2.2.2.2.2.2.1 hX h) (xoX_0 hX) rfl (x_gV xw_343 xw_344 xw_345 xw_2 xw_346) rfl rfl qX10_none ⟨(Nat.le_of_ble_eq_true rfl), (Nat.le_of_ble_eq_true rfl)⟩ rfl hl.1 rfl (Nat.le_of_ble_eq_true rfl) dX10_gain_10) (fun r11 u10 H locs hw h => ?_)
    exact x_iret C hw h dX10_gain_13
set_option maxHeartbeats 4000000 in
set_option maxRecDepth 100000 in
theorem m_X10_gain (l : Launch) {g : xG} (hD : x_D g) (hX : xpX g) {a1 : Int32} {u : xM} {Qf : Int32 → xM → Prop} (h : p_X10_gain a1 u Qf) : Met l yX10_gain (Cond.code yX10_gain cX10_gain 2 (some .int) :: wsL_law) (x_rm 6 195) (va_Pc [.ref (xad g 0), .int a1] (x_B g u)) (x_Qi g Qf) 0 0 (x_A g) := by
  refine Met.ofW (cc := cX10_gain) (maxL := 2) (ret := (some .int)) (by decide) rfl ?_
  intro p e s m args below meth c s₁ B hml hv
  obtain ⟨rfl, hB⟩ := hv
  obtain ⟨C, hw⟩ := x_start B hml hD hB
  have hl := lv_entry [.ref (xad g 0), .int a1] (n := 2) (Nat.le_of_ble_eq_true rfl)
  rw [lg_entry_eq]
  exact s_X10_gain C hX hw hl h
set_option maxHeartbeats 4000000 in
set_option maxRecDepth 100000 in
theorem s_X1_copyWaterFrom {o : Nat} {o1 : Nat} {Qf : xM → Prop} (C : x_C p s m args meth c g RX1 cX1_copyWaterFrom 2 none) (ho : xpL g o) (ho1 : xpL g o1) {u : xM} {H : Heap} {locs : List Loc} {ls : Array Slot} (hw : x_W g s.heap H locs u) (hl : lv_has ls 2 [(0, .ref (xad g o)), (1, .ref (xad g o1))]) (h : p_X1_copyWaterFrom o o1 u Qf) : W p l e (x_rm 1 80) s m args below meth c H locs 0 0 (MQ below (x_Qv g Qf) args s 0 0 (x_A g)) (F0 m 0 ls []) := by
  unfold p_X1_copyWaterFrom at h
  have hx := C.1
  have hb := C.2.1
  refine lv_aload_n hx hb dX1_copyWaterFrom_0 rfl (lv_at hl 0 rfl) ?_
  refine lv_aload_n hx hb dX1_copyWaterFrom_1 rfl (lv_at hl 1 rfl) ?_
  refine x_geti (ci := 1) C hw 8 (xoL_0 ho1) rfl inlX1 (by decide) rfl rfl xw_409 dX1_copyWaterFrom_2 ?_
  obtain ⟨u1, eu1⟩ : ∃ q : xM, q = si u o 8 (gi u o1 8) := ⟨_, rfl⟩
  have h := h u1 eu1
  refine x_puti (ci := 1) (ty := .int) C hw 8 (xoL_0 ho) rfl inlX1 tyX1_ok nmX1 (by decide) rfl rfl xw_409 rfl (by decide +kernel) rfl rfl dX1_copyWaterFrom_5 eu1 (fun H locs hw => ?_)
  refine lv_aload_n hx hb dX1_copyWaterFrom_8 rfl (lv_at hl 0 rfl) ?_
  refine x_getr (ci := 1) C hw 0 (xoL_0 ho) rfl inlX1 (by decide) rfl rfl (xrL_0_0 ho) xw_58 dX1_copyWaterFrom_9 ?_
  refine lv_aload_n hx hb dX1_copyWaterFrom_12 rfl (lv_at hl 1 rfl) ?_
  refine x_getr (ci := 1) C hw 0 (xoL_0 ho1) rfl inlX1 (by decide) rfl rfl (xrL_0_0 ho1) xw_58 dX1_copyWaterFrom_13 ?_
  refine x_geti (ci := 7) C hw 1 (xoL_1 ho1) rfl inlX7 (by decide) rfl rfl xw_1515 dX1_copyWaterFrom_16 ?_
  obtain ⟨u2, eu2⟩ : ∃ q : xM, q = si u1 (o + 1) 1 (gi u1 (o1 + 1) 1) := ⟨_, rfl⟩
  have h := h u2 eu2
  refine x_puti (ci := 7) (ty := .int) C hw 1 (xoL_1 ho) rfl inlX7 tyX7_ok nmX7 (by decide) rfl rfl xw_1515 rfl (by decide +kernel) rfl rfl dX1_copyWaterFrom_19 eu2 (fun H locs hw => ?_)
  refine lv_aload_n hx hb dX1_copyWaterFrom_22 rfl (lv_at hl 1 rfl) ?_
  refine x_getr (ci := 1) C hw 0 (xoL_0 ho1) rfl inlX1 (by decide) rfl rfl (xrL_0_0 ho1) xw_58 dX1_copyWaterFrom_23 ?_
  refine x_getr (ci := 7) C hw 7 (xoL_1 ho1) rfl inlX7 (by decide) rfl rfl (xrL_1_7 ho1) xw_1174 dX1_copyWaterFrom_26 ?_
  refine lv_iconst (v := 0) hx hb dX1_copyWaterFrom_29 (by decide) ?_
  refine lv_aload_n hx hb dX1_copyWaterFrom_30 rfl (lv_at hl 0 rfl) ?_
  refine x_getr (ci := 1) C hw 0 (xoL_0 ho) rfl inlX1 (by decide) rfl rfl (xrL_0_0 ho) xw_58 dX1_copyWaterFrom_31 ?_
  refine x_getr (ci := 7) C hw 7 (xoL_1 ho) rfl inlX7 (by decide) rfl rfl (xrL_1_7 ho) xw_1174 dX1_copyWaterFrom_34 ?_
  refine lv_iconst (v := 0) hx hb dX1_copyWaterFrom_37 (by decide) ?_
  refine lv_bipush (v := 7) hx hb dX1_copyWaterFrom_38 (by decide) ?_
  obtain ⟨u3, eu3⟩ : ∃ q : xM, q = cpi u2 (o1 + 7) 0 (o + 7) 0 7 := ⟨_, rfl⟩
  have h := h u3 eu3
  refine x_cpyi C hl.1 xw_604 hw (xoL_7 ho1) (xoL_7 ho) ⟨by decide, by decide, by decide, by decide, by decide⟩ (Nat.le_of_ble_eq_true rfl) (Nat.le_of_ble_eq_true rfl) dX1_copyWaterFrom_40 eu3 (fun H locs hw => ?_)
  refine lv_aload_n hx hb dX1_copyWaterFrom_43 rfl (lv_at hl 1 rfl) ?_
  refine x_getr (ci := 1) C hw 0 (xoL_0 ho1) rfl inlX1 (by decide) rfl rfl (xrL_0_0 ho1) xw_58 dX1_copyWaterFrom_44 ?_
  refine x_getr (ci := 7) C hw 8 (xoL_1 ho1) rfl inlX7 (by decide) rfl rfl (xrL_1_8 ho1) xw_1516 dX1_copyWaterFrom_47 ?_
  refine lv_iconst (v := 0) hx hb dX1_copyWaterFrom_50 (by decide) ?_
  refine lv_aload_n hx hb dX1_copyWaterFrom_51 rfl (lv_at hl 0 rfl) ?_
  refine x_getr (ci := 1) C hw 0 (xoL_0 ho) rfl inlX1 (by decide) rfl rfl (xrL_0_0 ho) xw_58 dX1_copyWaterFrom_52 ?_
  refine x_getr (ci := 7) C hw 8 (xoL_1 ho) rfl inlX7 (by decide) rfl rfl (xrL_1_8 ho) xw_1516 dX1_copyWaterFrom_55 ?_
  refine lv_iconst (v := 0) hx hb dX1_copyWaterFrom_58 (by decide) ?_
  refine lv_bipush (v := 7) hx hb dX1_copyWaterFrom_59 (by decide) ?_
  obtain ⟨u4, eu4⟩ : ∃ q : xM, q = cpi u3 (o1 + 8) 0 (o + 8) 0 7 := ⟨_, rfl⟩
  have h := h u4 eu4
  refine x_cpyi C hl.1 xw_604 hw (xoL_8 ho1) (xoL_8 ho) ⟨by decide, by decide, by decide, by decide, by decide⟩ (Nat.le_of_ble_eq_true rfl) (Nat.le_of_ble_eq_true rfl) dX1_copyWaterFrom_61 eu4 (fun H locs hw => ?_)
  exact x_vret C hw h dX1_copyWaterFrom_64
set_option maxHeartbeats 4000000 in
set_option maxRecDepth 100000 in
theorem m_X1_copyWaterFrom (l : Launch) {g : xG} (hD : x_D g) {o : Nat} {o1 : Nat} (ho : xpL g o) (ho1 : xpL g o1) {u : xM} {Qf : xM → Prop} (h : p_X1_copyWaterFrom o o1 u Qf) : Met l yX1_copyWaterFrom (Cond.code yX1_copyWaterFrom cX1_copyWaterFrom 2 none :: wsL_law) (x_rm 1 80) (va_Pc [.ref (xad g o), .ref (xad g o1)] (x_B g u)) (x_Qv g Qf) 0 0 (x_A g) := by
  refine Met.ofW (cc := cX1_copyWaterFrom) (maxL := 2) (ret := none) (by decide) rfl ?_
  intro p e s m args below meth c s₁ B hml hv
  obtain ⟨rfl, hB⟩ := hv
  obtain ⟨C, hw⟩ := x_start B hml hD hB
  have hl := lv_entry [.ref (xad g o), .ref (xad g o1)] (n := 2) (Nat.le_of_ble_eq_true rfl)
  rw [lg_entry_eq]
  exact s_X1_copyWaterFrom C ho ho1 hw hl h
set_option maxHeartbeats 4000000 in
set_option maxRecDepth 100000 in
theorem s_X10_bailFor_L32 {Qf : Int32 → xM → Prop} (C : x_C p s m args meth c g RX10 cX10_bailFor 5 (some .int)) (hX : xpX g) : ∀ (nn : Nat) {v1 : Int32} {v2 : Int32} {v4 : Int32} {u : xM} {H : Heap} {locs : List Loc} {ls : Array Slot} (hw : x_W g s.heap H locs u) (hl : lv_has ls 5 [(0, .ref (xad g 0)), (1, .int v1), (2, .int v2), (3, .ref (xad g 110)), (4, .int v4)]) (h : p_X10_bailFor_L32 Qf nn v1 v2 v4 u), W p l e (x_rm 4 152) s m args below meth c H locs 0 0 (MQ below (x_Qi g Qf) args s 0 0 (x_A g)) (F0 m 32 ls []) := by
  intro nn
  induction nn with
  | zero => intro v1 v2 v4 u H locs ls hw hl h; exact h.elim
  | succ nn ih =>
    intro v1 v2 v4 u H locs ls hw hl h
    unfold p_X10_bailFor_L32 at h
    have hx := C.1
    have hb := C.2.1
    refine lv_iload hx hb dX10_bailFor_32 (lv_at hl 4 rfl) ?_
    refine lv_aload_n hx hb dX10_bailFor_34 rfl (lv_at hl 0 rfl) ?_
    refine x_getr (ci := 10) C hw 0 (xoX_0 hX) rfl inlX10 (by decide) rfl rfl xrX_0_0 xw_16 dX10_bailFor_35 ?_
    refine x_getr (ci := 1) C hw 0 (xoL_0 (xpL_83 hX)) rfl inlX1 (by decide) rfl rfl (xrL_0_0 (xpL_83 hX)) xw_858 dX10_bailFor_38 ?_
    refine x_getr (ci := 7) C hw 7 (xoL_1 (xpL_83 hX)) rfl inlX7 (by decide) rfl rfl (xrL_1_7 (xpL_83 hX)) xw_934 dX10_bailFor_41 ?_
    refine lv_iload_n hx hb dX10_bailFor_44 rfl (lv_at hl 1 rfl) ?_
    have c1 := h.1
    have h := h.2
    refine x_iald C hw (xoL_7 (xpL_83 hX)) c1 dX10_bailFor_45 ?_
    refine lv_icmp_gt (tgt := 100) hx hb dX10_bailFor_46 (by decide) (fun c2 => ?_) (fun c2 => ?_)
    · have h := h.1 c2
      refine lv_aload_n hx hb dX10_bailFor_100 rfl (lv_at hl 0 rfl) ?_
      refine lv_bipush (v := 6) hx hb dX10_bailFor_101 (by decide) ?_
      refine x_calli hw (x_runV (ci := 10) C hw (m_X10_none l C.2.2.2.2.2.2.2.2.1 hX h) (xoX_0 hX) rfl (x_gV xw_343 xw_344 xw_345 xw_2 xw_346) rfl rfl qX10_none ⟨(Nat.le_of_ble_eq_true rfl), (Nat.le_of_ble_eq_true rfl)⟩ rfl hl.1 rfl (Nat.le_of_ble_eq_true rfl) dX10_bailFor_103) (fun r4 u3 H locs hw h => ?_)
      exact x_iret C hw h dX10_bailFor_106
    · have h := h.2 c2
      refine lv_aload_n hx hb dX10_bailFor_49 rfl (lv_at hl 3 rfl) ?_
      refine lv_aload_n hx hb dX10_bailFor_50 rfl (lv_at hl 0 rfl) ?_
      refine x_getr (ci := 10) C hw 0 (xoX_0 hX) rfl inlX10 (by decide) rfl rfl xrX_0_0 xw_16 dX10_bailFor_51 ?_
      refine x_callv hw (x_runV (ci := 1) C hw (m_X1_copyWaterFrom l C.2.2.2.2.2.2.2.2.1 (xpL_110 hX) (xpL_83 hX) h) (xoL_0 (xpL_110 hX)) rfl (x_gV xw_1511 xw_1512 xw_1513 xw_15 xw_1514) rfl rfl qX1_copyWaterFrom ⟨(Nat.le_of_ble_eq_true rfl), (Nat.le_of_ble_eq_true rfl)⟩ rfl hl.1 rfl (Nat.le_of_ble_eq_true rfl) dX10_bailFor_54) (fun u5 H locs hw h => ?_)
      refine lv_aload_n hx hb dX10_bailFor_57 rfl (lv_at hl 3 rfl) ?_
      refine x_getr (ci := 1) C hw 0 (xoL_0 (xpL_110 hX)) rfl inlX1 (by decide) rfl rfl (xrL_0_0 (xpL_110 hX)) xw_858 dX10_bailFor_58 ?_
      refine x_getr (ci := 7) C hw 7 (xoL_1 (xpL_110 hX)) rfl inlX7 (by decide) rfl rfl (xrL_1_7 (xpL_110 hX)) xw_934 dX10_bailFor_61 ?_
      refine lv_iload_n hx hb dX10_bailFor_64 rfl (lv_at hl 1 rfl) ?_
      refine lv_dup2_11 hx hb dX10_bailFor_65 rfl rfl ?_
      have c6 := h.1
      have h := h.2
      refine x_iald C hw (xoL_7 (xpL_110 hX)) c6 dX10_bailFor_66 ?_
      refine lv_iload hx hb dX10_bailFor_67 (lv_at hl 4 rfl) ?_
      refine lv_isub hx hb dX10_bailFor_69 ?_
      have c7 := h.1
      have h := h.2
      obtain ⟨u8, eu8⟩ : ∃ q : xM, q = si u5 117 v1.toNatClampNeg ((gi u5 117 v1.toNatClampNeg) - v4) := ⟨_, rfl⟩
      have h := h u8 eu8
      refine x_iast C hw (xoL_7 (xpL_110 hX)) c7 dX10_bailFor_70 eu8 (fun H locs hw => ?_)
      refine lv_aload_n hx hb dX10_bailFor_71 rfl (lv_at hl 3 rfl) ?_
      refine lv_iload_n hx hb dX10_bailFor_72 rfl (lv_at hl 2 rfl) ?_
      refine x_callv hw (x_runV (ci := 1) C hw (m_X1_goOn l C.2.2.2.2.2.2.2.2.1 (xpL_110 hX) h) (xoL_0 (xpL_110 hX)) rfl (x_gV xw_1160 xw_1161 xw_1162 xw_15 xw_1163) rfl rfl qX1_goOn ⟨(Nat.le_of_ble_eq_true rfl), (Nat.le_of_ble_eq_true rfl)⟩ rfl hl.1 rfl (Nat.le_of_ble_eq_true rfl) dX10_bailFor_73) (fun u9 H locs hw h => ?_)
      refine lv_aload_n hx hb dX10_bailFor_76 rfl (lv_at hl 3 rfl) ?_
      refine x_getr (ci := 1) C hw 0 (xoL_0 (xpL_110 hX)) rfl inlX1 (by decide) rfl rfl (xrL_0_0 (xpL_110 hX)) xw_858 dX10_bailFor_77 ?_
      refine lv_iload_n hx hb dX10_bailFor_80 rfl (lv_at hl 1 rfl) ?_
      refine x_calli hw (x_runV (ci := 7) C hw (m_X7_depth l C.2.2.2.2.2.2.2.2.1 (xpL_110 hX) h) (xoL_1 (xpL_110 hX)) rfl (x_gV xw_940 xw_874 xw_875 xw_57 xw_876) rfl rfl qX7_depth ⟨(Nat.le_of_ble_eq_true rfl), (Nat.le_of_ble_eq_true rfl)⟩ rfl hl.1 rfl (Nat.le_of_ble_eq_true rfl) dX10_bailFor_81) (fun r11 u10 H locs hw h => ?_)
      refine lv_if_ne (tgt := 94) hx hb dX10_bailFor_84 (by decide) (fun c12 => ?_) (fun c12 => ?_)
      · have h := h.1 c12
        obtain ⟨x13, ex13⟩ : ∃ y : Int32, y = v4 + 1 := ⟨_, rfl⟩
        have h := h x13 ex13
        refine lv_iinc (v := x13) (lv' := [(4, .int x13), (0, .ref (xad g 0)), (1, .int v1), (2, .int v2), (3, .ref (xad g 110))]) hx hb dX10_bailFor_94 hl (k := 4) rfl (by rw [ex13]; rfl) (by decide) rfl (fun ls hl => ?_)
        refine lv_goto (tgt := 32) hx hb dX10_bailFor_97 (by decide) ?_
        exact ih hw (lv_sub hl [1, 2, 3, 4, 0] rfl) h
      · have h := h.2 c12
        refine lv_aload_n hx hb dX10_bailFor_87 rfl (lv_at hl 0 rfl) ?_
        refine lv_iload hx hb dX10_bailFor_88 (lv_at hl 4 rfl) ?_
        refine x_calli hw (x_runV (ci := 10) C hw (m_X10_fine l C.2.2.2.2.2.2.2.2.1 hX h) (xoX_0 hX) rfl (x_gV xw_622 xw_623 xw_624 xw_2 xw_625) rfl rfl qX10_fine ⟨(Nat.le_of_ble_eq_true rfl), (Nat.le_of_ble_eq_true rfl)⟩ rfl hl.1 rfl (Nat.le_of_ble_eq_true rfl) dX10_bailFor_90) (fun r15 u14 H locs hw h => ?_)
        exact x_iret C hw h dX10_bailFor_93
set_option maxHeartbeats 4000000 in
set_option maxRecDepth 100000 in
theorem s_X10_bailFor {Qf : Int32 → xM → Prop} {a1 : Int32} {a2 : Int32} (C : x_C p s m args meth c g RX10 cX10_bailFor 5 (some .int)) (hX : xpX g) {u : xM} {H : Heap} {locs : List Loc} {ls : Array Slot} (hw : x_W g s.heap H locs u) (hl : lv_has ls 5 [(0, .ref (xad g 0)), (1, .int a1), (2, .int a2)]) (h : p_X10_bailFor a1 a2 u Qf) : W p l e (x_rm 4 152) s m args below meth c H locs 0 0 (MQ below (x_Qi g Qf) args s 0 0 (x_A g)) (F0 m 0 ls []) := by
  unfold p_X10_bailFor at h
  have hx := C.1
  have hb := C.2.1
  refine lv_aload_n hx hb dX10_bailFor_0 rfl (lv_at hl 0 rfl) ?_
  refine lv_iload_n hx hb dX10_bailFor_1 rfl (lv_at hl 1 rfl) ?_
  refine x_callz hw (x_runV (ci := 10) C hw (m_X10_isRoom l C.2.2.2.2.2.2.2.2.1 hX h) (xoX_0 hX) rfl (x_gV xw_936 xw_937 xw_938 xw_2 xw_939) rfl rfl qX10_isRoom ⟨(Nat.le_of_ble_eq_true rfl), (Nat.le_of_ble_eq_true rfl)⟩ rfl hl.1 rfl (Nat.le_of_ble_eq_true rfl) dX10_bailFor_2) (fun r2 u1 H locs hw h => ?_)
  refine lv_if_eq (tgt := 18) hx hb dX10_bailFor_5 (by decide) (fun c3 => ?_) (fun c3 => ?_)
  · have h := h.1 (xb_f c3)
    refine lv_aload_n hx hb dX10_bailFor_18 rfl (lv_at hl 0 rfl) ?_
    refine lv_iconst (v := 1) hx hb dX10_bailFor_19 (by decide) ?_
    refine x_calli hw (x_runV (ci := 10) C hw (m_X10_none l C.2.2.2.2.2.2.2.2.1 hX h) (xoX_0 hX) rfl (x_gV xw_343 xw_344 xw_345 xw_2 xw_346) rfl rfl qX10_none ⟨(Nat.le_of_ble_eq_true rfl), (Nat.le_of_ble_eq_true rfl)⟩ rfl hl.1 rfl (Nat.le_of_ble_eq_true rfl) dX10_bailFor_20) (fun r5 u4 H locs hw h => ?_)
    exact x_iret C hw h dX10_bailFor_23
  · have h := h.2 (xb_t c3)
    refine lv_iload_n hx hb dX10_bailFor_8 rfl (lv_at hl 2 rfl) ?_
    refine lv_iconst (v := 1) hx hb dX10_bailFor_9 (by decide) ?_
    refine lv_bipush (v := 24) hx hb dX10_bailFor_10 (by decide) ?_
    refine x_callz hw (x_runS C hw (m_X10_isWithin l C.2.2.2.2.2.2.2.2.1  h) (x_gS xw_280 xw_281 xw_2 xw_282) rfl rfl qX10_isWithin ⟨(Nat.le_of_ble_eq_true rfl), (Nat.le_of_ble_eq_true rfl)⟩ rfl hl.1 rfl (Nat.le_of_ble_eq_true rfl) dX10_bailFor_12) (fun r7 u6 H locs hw h => ?_)
    refine lv_if_ne (tgt := 24) hx hb dX10_bailFor_15 (by decide) (fun c8 => ?_) (fun c8 => ?_)
    · have h := h.1 (xb_t c8)
      refine lv_aload_n hx hb dX10_bailFor_24 rfl (lv_at hl 0 rfl) ?_
      refine x_callr hw (x_runV (ci := 10) C hw (m_X10_asItIs l C.2.2.2.2.2.2.2.2.1 hX h) (xoX_0 hX) rfl (x_gV xw_1327 xw_1328 xw_1329 xw_2 xw_1330) rfl rfl qX10_asItIs ⟨(Nat.le_of_ble_eq_true rfl), (Nat.le_of_ble_eq_true rfl)⟩ rfl hl.1 rfl (Nat.le_of_ble_eq_true rfl) dX10_bailFor_25) (fun u9 H locs hw h => ?_)
      refine lv_astore_n (lv' := [(3, .ref (xad g 110)), (0, .ref (xad g 0)), (1, .int a1), (2, .int a2)]) hx hb dX10_bailFor_28 rfl hl (by decide) rfl (fun ls hl => ?_)
      refine lv_iconst (v := 0) hx hb dX10_bailFor_29 (by decide) ?_
      refine lv_istore (lv' := [(4, .int 0), (3, .ref (xad g 110)), (0, .ref (xad g 0)), (1, .int a1), (2, .int a2)]) hx hb dX10_bailFor_30 hl (by decide) rfl (fun ls hl => ?_)
      obtain ⟨n9, h⟩ := h
      exact s_X10_bailFor_L32 C hX n9 hw (lv_sub hl [2, 3, 4, 1, 0] rfl) h
    · have h := h.2 (xb_f c8)
      refine lv_aload_n hx hb dX10_bailFor_18 rfl (lv_at hl 0 rfl) ?_
      refine lv_iconst (v := 1) hx hb dX10_bailFor_19 (by decide) ?_
      refine x_calli hw (x_runV (ci := 10) C hw (m_X10_none l C.2.2.2.2.2.2.2.2.1 hX h) (xoX_0 hX) rfl (x_gV xw_343 xw_344 xw_345 xw_2 xw_346) rfl rfl qX10_none ⟨(Nat.le_of_ble_eq_true rfl), (Nat.le_of_ble_eq_true rfl)⟩ rfl hl.1 rfl (Nat.le_of_ble_eq_true rfl) dX10_bailFor_20) (fun r11 u10 H locs hw h => ?_)
      exact x_iret C hw h dX10_bailFor_23
set_option maxHeartbeats 4000000 in
set_option maxRecDepth 100000 in
theorem m_X10_bailFor (l : Launch) {g : xG} (hD : x_D g) (hX : xpX g) {a1 : Int32} {a2 : Int32} {u : xM} {Qf : Int32 → xM → Prop} (h : p_X10_bailFor a1 a2 u Qf) : Met l yX10_bailFor (Cond.code yX10_bailFor cX10_bailFor 5 (some .int) :: wsL_law) (x_rm 4 152) (va_Pc [.ref (xad g 0), .int a1, .int a2] (x_B g u)) (x_Qi g Qf) 0 0 (x_A g) := by
  refine Met.ofW (cc := cX10_bailFor) (maxL := 5) (ret := (some .int)) (by decide) rfl ?_
  intro p e s m args below meth c s₁ B hml hv
  obtain ⟨rfl, hB⟩ := hv
  obtain ⟨C, hw⟩ := x_start B hml hD hB
  have hl := lv_entry [.ref (xad g 0), .int a1, .int a2] (n := 5) (Nat.le_of_ble_eq_true rfl)
  rw [lg_entry_eq]
  exact s_X10_bailFor C hX hw hl h
set_option maxHeartbeats 4000000 in
set_option maxRecDepth 100000 in
theorem s_X10_besieged {Qf : xM → Prop} {a1 : Int32} (C : x_C p s m args meth c g RX10 cX10_besieged 3 (some (.object "DryDoors$Land"))) (hX : xpX g) {u : xM} {H : Heap} {locs : List Loc} {ls : Array Slot} (hw : x_W g s.heap H locs u) (hl : lv_has ls 3 [(0, .ref (xad g 0)), (1, .int a1)]) (h : p_X10_besieged a1 u Qf) : W p l e (x_rm 4 152) s m args below meth c H locs 0 0 (MQ below (x_Qr g 110 Qf) args s 0 0 (x_A g)) (F0 m 0 ls []) := by
  unfold p_X10_besieged at h
  have hx := C.1
  have hb := C.2.1
  refine lv_aload_n hx hb dX10_besieged_0 rfl (lv_at hl 0 rfl) ?_
  refine x_callr hw (x_runV (ci := 10) C hw (m_X10_asItIs l C.2.2.2.2.2.2.2.2.1 hX h) (xoX_0 hX) rfl (x_gV xw_1327 xw_1328 xw_1329 xw_2 xw_1330) rfl rfl qX10_asItIs ⟨(Nat.le_of_ble_eq_true rfl), (Nat.le_of_ble_eq_true rfl)⟩ rfl hl.1 rfl (Nat.le_of_ble_eq_true rfl) dX10_besieged_1) (fun u1 H locs hw h => ?_)
  refine lv_astore_n (lv' := [(2, .ref (xad g 110)), (0, .ref (xad g 0)), (1, .int a1)]) hx hb dX10_besieged_4 rfl hl (by decide) rfl (fun ls hl => ?_)
  refine lv_aload_n hx hb dX10_besieged_5 rfl (lv_at hl 0 rfl) ?_
  refine lv_iload_n hx hb dX10_besieged_6 rfl (lv_at hl 2 rfl) ?_
  refine x_callv hw (x_runV (ci := 1) C hw (m_X1_setAllTides l C.2.2.2.2.2.2.2.2.1 (xpL_110 hX) h) (xoL_0 (xpL_110 hX)) rfl (x_gV xw_1530 xw_97 xw_98 xw_15 xw_99) rfl rfl qX1_setAllTides ⟨(Nat.le_of_ble_eq_true rfl), (Nat.le_of_ble_eq_true rfl)⟩ rfl hl.1 rfl (Nat.le_of_ble_eq_true rfl) dX10_besieged_7) (fun u2 H locs hw h => ?_)
  refine lv_aload_n hx hb dX10_besieged_10 rfl (lv_at hl 0 rfl) ?_
  refine lv_bipush (v := 12) hx hb dX10_besieged_11 (by decide) ?_
  refine x_callv hw (x_runV (ci := 1) C hw (m_X1_goOn l C.2.2.2.2.2.2.2.2.1 (xpL_110 hX) h) (xoL_0 (xpL_110 hX)) rfl (x_gV xw_1160 xw_1161 xw_1162 xw_15 xw_1163) rfl rfl qX1_goOn ⟨(Nat.le_of_ble_eq_true rfl), (Nat.le_of_ble_eq_true rfl)⟩ rfl hl.1 rfl (Nat.le_of_ble_eq_true rfl) dX10_besieged_13) (fun u3 H locs hw h => ?_)
  refine lv_aload_n hx hb dX10_besieged_16 rfl (lv_at hl 0 rfl) ?_
  exact x_rret C hw h dX10_besieged_17
set_option maxHeartbeats 4000000 in
set_option maxRecDepth 100000 in
theorem m_X10_besieged (l : Launch) {g : xG} (hD : x_D g) (hX : xpX g) {a1 : Int32} {u : xM} {Qf : xM → Prop} (h : p_X10_besieged a1 u Qf) : Met l yX10_besieged (Cond.code yX10_besieged cX10_besieged 3 (some (.object "DryDoors$Land")) :: wsL_law) (x_rm 4 152) (va_Pc [.ref (xad g 0), .int a1] (x_B g u)) (x_Qr g 110 Qf) 0 0 (x_A g) := by
  refine Met.ofW (cc := cX10_besieged) (maxL := 3) (ret := (some (.object "DryDoors$Land"))) (by decide) rfl ?_
  intro p e s m args below meth c s₁ B hml hv
  obtain ⟨rfl, hB⟩ := hv
  obtain ⟨C, hw⟩ := x_start B hml hD hB
  have hl := lv_entry [.ref (xad g 0), .int a1] (n := 3) (Nat.le_of_ble_eq_true rfl)
  rw [lg_entry_eq]
  exact s_X10_besieged C hX hw hl h
set_option maxHeartbeats 4000000 in
set_option maxRecDepth 100000 in
theorem s_X10_siege {Qf : Int32 → xM → Prop} {a1 : Int32} (C : x_C p s m args meth c g RX10 cX10_siege 2 (some .int)) (hX : xpX g) {u : xM} {H : Heap} {locs : List Loc} {ls : Array Slot} (hw : x_W g s.heap H locs u) (hl : lv_has ls 2 [(0, .ref (xad g 0)), (1, .int a1)]) (h : p_X10_siege a1 u Qf) : W p l e (x_rm 5 174) s m args below meth c H locs 0 0 (MQ below (x_Qi g Qf) args s 0 0 (x_A g)) (F0 m 0 ls []) := by
  unfold p_X10_siege at h
  have hx := C.1
  have hb := C.2.1
  refine lv_iload_n hx hb dX10_siege_0 rfl (lv_at hl 1 rfl) ?_
  refine lv_iconst (v := 0) hx hb dX10_siege_1 (by decide) ?_
  refine lv_bipush (v := 99) hx hb dX10_siege_2 (by decide) ?_
  refine x_callz hw (x_runS C hw (m_X10_isWithin l C.2.2.2.2.2.2.2.2.1  h) (x_gS xw_280 xw_281 xw_2 xw_282) rfl rfl qX10_isWithin ⟨(Nat.le_of_ble_eq_true rfl), (Nat.le_of_ble_eq_true rfl)⟩ rfl hl.1 rfl (Nat.le_of_ble_eq_true rfl) dX10_siege_4) (fun r2 u1 H locs hw h => ?_)
  refine lv_if_ne (tgt := 16) hx hb dX10_siege_7 (by decide) (fun c3 => ?_) (fun c3 => ?_)
  · have h := h.1 (xb_t c3)
    refine lv_aload_n hx hb dX10_siege_16 rfl (lv_at hl 0 rfl) ?_
    refine lv_aload_n hx hb dX10_siege_17 rfl (lv_at hl 0 rfl) ?_
    refine lv_iload_n hx hb dX10_siege_18 rfl (lv_at hl 1 rfl) ?_
    refine x_callr hw (x_runV (ci := 10) C hw (m_X10_besieged l C.2.2.2.2.2.2.2.2.1 hX h) (xoX_0 hX) rfl (x_gV xw_1526 xw_1527 xw_1528 xw_2 xw_1529) rfl rfl qX10_besieged ⟨(Nat.le_of_ble_eq_true rfl), (Nat.le_of_ble_eq_true rfl)⟩ rfl hl.1 rfl (Nat.le_of_ble_eq_true rfl) dX10_siege_19) (fun u4 H locs hw h => ?_)
    refine x_getr (ci := 1) C hw 0 (xoL_0 (xpL_110 hX)) rfl inlX1 (by decide) rfl rfl (xrL_0_0 (xpL_110 hX)) xw_858 dX10_siege_22 ?_
    refine x_geti (ci := 7) C hw 1 (xoL_1 (xpL_110 hX)) rfl inlX7 (by decide) rfl rfl xw_862 dX10_siege_25 ?_
    refine x_calli hw (x_runV (ci := 10) C hw (m_X10_fine l C.2.2.2.2.2.2.2.2.1 hX h) (xoX_0 hX) rfl (x_gV xw_622 xw_623 xw_624 xw_2 xw_625) rfl rfl qX10_fine ⟨(Nat.le_of_ble_eq_true rfl), (Nat.le_of_ble_eq_true rfl)⟩ rfl hl.1 rfl (Nat.le_of_ble_eq_true rfl) dX10_siege_28) (fun r6 u5 H locs hw h => ?_)
    exact x_iret C hw h dX10_siege_31
  · have h := h.2 (xb_f c3)
    refine lv_aload_n hx hb dX10_siege_10 rfl (lv_at hl 0 rfl) ?_
    refine lv_iconst (v := 1) hx hb dX10_siege_11 (by decide) ?_
    refine x_calli hw (x_runV (ci := 10) C hw (m_X10_none l C.2.2.2.2.2.2.2.2.1 hX h) (xoX_0 hX) rfl (x_gV xw_343 xw_344 xw_345 xw_2 xw_346) rfl rfl qX10_none ⟨(Nat.le_of_ble_eq_true rfl), (Nat.le_of_ble_eq_true rfl)⟩ rfl hl.1 rfl (Nat.le_of_ble_eq_true rfl) dX10_siege_12) (fun r8 u7 H locs hw h => ?_)
    exact x_iret C hw h dX10_siege_15
set_option maxHeartbeats 4000000 in
set_option maxRecDepth 100000 in
theorem m_X10_siege (l : Launch) {g : xG} (hD : x_D g) (hX : xpX g) {a1 : Int32} {u : xM} {Qf : Int32 → xM → Prop} (h : p_X10_siege a1 u Qf) : Met l yX10_siege (Cond.code yX10_siege cX10_siege 2 (some .int) :: wsL_law) (x_rm 5 174) (va_Pc [.ref (xad g 0), .int a1] (x_B g u)) (x_Qi g Qf) 0 0 (x_A g) := by
  refine Met.ofW (cc := cX10_siege) (maxL := 2) (ret := (some .int)) (by decide) rfl ?_
  intro p e s m args below meth c s₁ B hml hv
  obtain ⟨rfl, hB⟩ := hv
  obtain ⟨C, hw⟩ := x_start B hml hD hB
  have hl := lv_entry [.ref (xad g 0), .int a1] (n := 2) (Nat.le_of_ble_eq_true rfl)
  rw [lg_entry_eq]
  exact s_X10_siege C hX hw hl h
set_option maxHeartbeats 4000000 in
set_option maxRecDepth 100000 in
theorem s_X10_borne_L3 {Qf : Int32 → xM → Prop} (C : x_C p s m args meth c g RX10 cX10_borne 2 (some .int)) (hX : xpX g) : ∀ (nn : Nat) {v1 : Int32} {u : xM} {H : Heap} {locs : List Loc} {ls : Array Slot} (hw : x_W g s.heap H locs u) (hl : lv_has ls 2 [(0, .ref (xad g 0)), (1, .int v1)]) (h : p_X10_borne_L3 Qf nn v1 u), W p l e (x_rm 5 174) s m args below meth c H locs 0 0 (MQ below (x_Qi g Qf) args s 0 0 (x_A g)) (F0 m 3 ls []) := by
  intro nn
  induction nn with
  | zero => intro v1 u H locs ls hw hl h; exact h.elim
  | succ nn ih =>
    intro v1 u H locs ls hw hl h
    unfold p_X10_borne_L3 at h
    have hx := C.1
    have hb := C.2.1
    refine lv_iload_n hx hb dX10_borne_3 rfl (lv_at hl 1 rfl) ?_
    refine lv_if_lt (tgt := 31) hx hb dX10_borne_4 (by decide) (fun c1 => ?_) (fun c1 => ?_)
    · have h := h.1 c1
      refine lv_aload_n hx hb dX10_borne_31 rfl (lv_at hl 0 rfl) ?_
      refine lv_bipush (v := 6) hx hb dX10_borne_32 (by decide) ?_
      refine x_calli hw (x_runV (ci := 10) C hw (m_X10_none l C.2.2.2.2.2.2.2.2.1 hX h) (xoX_0 hX) rfl (x_gV xw_343 xw_344 xw_345 xw_2 xw_346) rfl rfl qX10_none ⟨(Nat.le_of_ble_eq_true rfl), (Nat.le_of_ble_eq_true rfl)⟩ rfl hl.1 rfl (Nat.le_of_ble_eq_true rfl) dX10_borne_34) (fun r3 u2 H locs hw h => ?_)
      exact x_iret C hw h dX10_borne_37
    · have h := h.2 c1
      refine lv_aload_n hx hb dX10_borne_7 rfl (lv_at hl 0 rfl) ?_
      refine lv_aload_n hx hb dX10_borne_8 rfl (lv_at hl 0 rfl) ?_
      refine lv_iload_n hx hb dX10_borne_9 rfl (lv_at hl 1 rfl) ?_
      refine x_callr hw (x_runV (ci := 10) C hw (m_X10_besieged l C.2.2.2.2.2.2.2.2.1 hX h) (xoX_0 hX) rfl (x_gV xw_1526 xw_1527 xw_1528 xw_2 xw_1529) rfl rfl qX10_besieged ⟨(Nat.le_of_ble_eq_true rfl), (Nat.le_of_ble_eq_true rfl)⟩ rfl hl.1 rfl (Nat.le_of_ble_eq_true rfl) dX10_borne_10) (fun u4 H locs hw h => ?_)
      refine x_calli hw (x_runV (ci := 10) C hw (m_X10_drownedMore l C.2.2.2.2.2.2.2.2.1 hX (xpL_110 hX) h) (xoX_0 hX) rfl (x_gV xw_1419 xw_1420 xw_1421 xw_2 xw_1422) rfl rfl qX10_drownedMore ⟨(Nat.le_of_ble_eq_true rfl), (Nat.le_of_ble_eq_true rfl)⟩ rfl hl.1 rfl (Nat.le_of_ble_eq_true rfl) dX10_borne_13) (fun r6 u5 H locs hw h => ?_)
      refine lv_if_ne (tgt := 25) hx hb dX10_borne_16 (by decide) (fun c7 => ?_) (fun c7 => ?_)
      · have h := h.1 c7
        obtain ⟨x8, ex8⟩ : ∃ y : Int32, y = v1 + (-1) := ⟨_, rfl⟩
        have h := h x8 ex8
        refine lv_iinc (v := x8) (lv' := [(1, .int x8), (0, .ref (xad g 0))]) hx hb dX10_borne_25 hl (k := 1) rfl (by rw [ex8]; rfl) (by decide) rfl (fun ls hl => ?_)
        refine lv_goto (tgt := 3) hx hb dX10_borne_28 (by decide) ?_
        exact ih hw (lv_sub hl [1, 0] rfl) h
      · have h := h.2 c7
        refine lv_aload_n hx hb dX10_borne_19 rfl (lv_at hl 0 rfl) ?_
        refine lv_iload_n hx hb dX10_borne_20 rfl (lv_at hl 1 rfl) ?_
        refine x_calli hw (x_runV (ci := 10) C hw (m_X10_fine l C.2.2.2.2.2.2.2.2.1 hX h) (xoX_0 hX) rfl (x_gV xw_622 xw_623 xw_624 xw_2 xw_625) rfl rfl qX10_fine ⟨(Nat.le_of_ble_eq_true rfl), (Nat.le_of_ble_eq_true rfl)⟩ rfl hl.1 rfl (Nat.le_of_ble_eq_true rfl) dX10_borne_21) (fun r10 u9 H locs hw h => ?_)
        exact x_iret C hw h dX10_borne_24
set_option maxHeartbeats 4000000 in
set_option maxRecDepth 100000 in
theorem s_X10_borne {Qf : Int32 → xM → Prop} (C : x_C p s m args meth c g RX10 cX10_borne 2 (some .int)) (hX : xpX g) {u : xM} {H : Heap} {locs : List Loc} {ls : Array Slot} (hw : x_W g s.heap H locs u) (hl : lv_has ls 2 [(0, .ref (xad g 0))]) (h : p_X10_borne  u Qf) : W p l e (x_rm 5 174) s m args below meth c H locs 0 0 (MQ below (x_Qi g Qf) args s 0 0 (x_A g)) (F0 m 0 ls []) := by
  unfold p_X10_borne at h
  have hx := C.1
  have hb := C.2.1
  refine lv_bipush (v := 99) hx hb dX10_borne_0 (by decide) ?_
  refine lv_istore_n (lv' := [(1, .int 99), (0, .ref (xad g 0))]) hx hb dX10_borne_2 rfl hl (by decide) rfl (fun ls hl => ?_)
  obtain ⟨n9, h⟩ := h
  exact s_X10_borne_L3 C hX n9 hw (lv_sub hl [1, 0] rfl) h
set_option maxHeartbeats 4000000 in
set_option maxRecDepth 100000 in
theorem m_X10_borne (l : Launch) {g : xG} (hD : x_D g) (hX : xpX g) {u : xM} {Qf : Int32 → xM → Prop} (h : p_X10_borne  u Qf) : Met l yX10_borne (Cond.code yX10_borne cX10_borne 2 (some .int) :: wsL_law) (x_rm 5 174) (va_Pc [.ref (xad g 0)] (x_B g u)) (x_Qi g Qf) 0 0 (x_A g) := by
  refine Met.ofW (cc := cX10_borne) (maxL := 2) (ret := (some .int)) (by decide) rfl ?_
  intro p e s m args below meth c s₁ B hml hv
  obtain ⟨rfl, hB⟩ := hv
  obtain ⟨C, hw⟩ := x_start B hml hD hB
  have hl := lv_entry [.ref (xad g 0)] (n := 2) (Nat.le_of_ble_eq_true rfl)
  rw [lg_entry_eq]
  exact s_X10_borne C hX hw hl h
set_option maxHeartbeats 4000000 in
set_option maxRecDepth 100000 in
theorem s_X6_wallsFor_L21 {o1 : Nat} {Qf : Int32 → xM → Prop} (C : x_C p s m args meth c g RX6 cX6_wallsFor 6 (some .int)) (ho1 : xpL g o1) : ∀ (nn : Nat) {v1 : Int32} {v2 : Int32} {v3 : Int32} {v4 : Int32} {v5 : Int32} {u : xM} {H : Heap} {locs : List Loc} {ls : Array Slot} (hw : x_W g s.heap H locs u) (hl : lv_has ls 6 [(0, .ref (xad g (o1 + 9))), (1, .int v1), (2, .int v2), (3, .int v3), (4, .int v4), (5, .int v5)]) (h : p_X6_wallsFor_L21 o1 Qf nn v1 v2 v3 v4 v5 u), W p l e (x_rm 1 26) s m args below meth c H locs 0 0 (MQ below (x_Qi g Qf) args s 0 0 (x_A g)) (F0 m 21 ls []) := by
  intro nn
  induction nn with
  | zero => intro v1 v2 v3 v4 v5 u H locs ls hw hl h; exact h.elim
  | succ nn ih =>
    intro v1 v2 v3 v4 v5 u H locs ls hw hl h
    unfold p_X6_wallsFor_L21 at h
    have hx := C.1
    have hb := C.2.1
    refine lv_iload hx hb dX6_wallsFor_21 (lv_at hl 5 rfl) ?_
    refine lv_iload_n hx hb dX6_wallsFor_23 rfl (lv_at hl 2 rfl) ?_
    refine lv_icmp_gt (tgt := 82) hx hb dX6_wallsFor_24 (by decide) (fun c1 => ?_) (fun c1 => ?_)
    · have h := h.1 c1
      refine lv_iload_n hx hb dX6_wallsFor_82 rfl (lv_at hl 3 rfl) ?_
      exact x_iret C hw h dX6_wallsFor_83
    · have h := h.2 c1
      refine lv_iload hx hb dX6_wallsFor_27 (lv_at hl 5 rfl) ?_
      refine lv_iload_n hx hb dX6_wallsFor_29 rfl (lv_at hl 2 rfl) ?_
      refine lv_iconst (v := -1) hx hb dX6_wallsFor_30 (by decide) ?_
      refine lv_ixor hx hb dX6_wallsFor_31 ?_
      refine lv_iand hx hb dX6_wallsFor_32 ?_
      refine lv_if_ne (tgt := 76) hx hb dX6_wallsFor_33 (by decide) (fun c2 => ?_) (fun c2 => ?_)
      · have h := h.1 c2
        obtain ⟨x3, ex3⟩ : ∃ y : Int32, y = v5 + 1 := ⟨_, rfl⟩
        have h := h x3 ex3
        refine lv_iinc (v := x3) (lv' := [(5, .int x3), (0, .ref (xad g (o1 + 9))), (1, .int v1), (2, .int v2), (3, .int v3), (4, .int v4)]) hx hb dX6_wallsFor_76 hl (k := 5) rfl (by rw [ex3]; rfl) (by decide) rfl (fun ls hl => ?_)
        refine lv_goto (tgt := 21) hx hb dX6_wallsFor_79 (by decide) ?_
        exact ih hw (lv_sub hl [1, 2, 3, 4, 5, 0] rfl) h
      · have h := h.2 c2
        refine lv_iload hx hb dX6_wallsFor_36 (lv_at hl 5 rfl) ?_
        refine x_calli hw (x_runS C hw (m_J6_bitCount_0f7a4 l C.2.2.2.2.2.2.2.2.1  h) (x_gS xw_1556 xw_1310 xw_1311 xw_1312) rfl rfl qJ6_bitCount_0f7a4 ⟨(Nat.le_of_ble_eq_true rfl), (Nat.le_of_ble_eq_true rfl)⟩ rfl hl.1 rfl (Nat.le_of_ble_eq_true rfl) dX6_wallsFor_38) (fun r5 u4 H locs hw h => ?_)
        refine lv_iload hx hb dX6_wallsFor_41 (lv_at hl 4 rfl) ?_
        refine lv_icmp_ge (tgt := 76) hx hb dX6_wallsFor_43 (by decide) (fun c6 => ?_) (fun c6 => ?_)
        · have h := h.1 c6
          obtain ⟨x7, ex7⟩ : ∃ y : Int32, y = v5 + 1 := ⟨_, rfl⟩
          have h := h x7 ex7
          refine lv_iinc (v := x7) (lv' := [(5, .int x7), (0, .ref (xad g (o1 + 9))), (1, .int v1), (2, .int v2), (3, .int v3), (4, .int v4)]) hx hb dX6_wallsFor_76 hl (k := 5) rfl (by rw [ex7]; rfl) (by decide) rfl (fun ls hl => ?_)
          refine lv_goto (tgt := 21) hx hb dX6_wallsFor_79 (by decide) ?_
          exact ih hw (lv_sub hl [1, 2, 3, 4, 5, 0] rfl) h
        · have h := h.2 c6
          refine lv_aload_n hx hb dX6_wallsFor_46 rfl (lv_at hl 0 rfl) ?_
          refine lv_sipush (v := 128) hx hb dX6_wallsFor_47 (by decide) ?_
          refine lv_iload_n hx hb dX6_wallsFor_50 rfl (lv_at hl 2 rfl) ?_
          refine lv_iload hx hb dX6_wallsFor_51 (lv_at hl 5 rfl) ?_
          refine lv_iconst (v := -1) hx hb dX6_wallsFor_53 (by decide) ?_
          refine lv_ixor hx hb dX6_wallsFor_54 ?_
          refine lv_iand hx hb dX6_wallsFor_55 ?_
          refine x_calli hw (x_runV (ci := 0) C hw (m_X0_reached l C.2.2.2.2.2.2.2.2.1 ho1 h) (xoL_9 ho1) rfl (x_gV xw_1557 xw_1145 xw_1146 xw_61 xw_1147) rfl rfl qX0_reached ⟨(Nat.le_of_ble_eq_true rfl), (Nat.le_of_ble_eq_true rfl)⟩ rfl hl.1 rfl (Nat.le_of_ble_eq_true rfl) dX6_wallsFor_56) (fun r9 u8 H locs hw h => ?_)
          refine lv_iload_n hx hb dX6_wallsFor_59 rfl (lv_at hl 1 rfl) ?_
          refine lv_ishr hx hb dX6_wallsFor_60 ?_
          refine lv_iconst (v := 1) hx hb dX6_wallsFor_61 (by decide) ?_
          refine lv_iand hx hb dX6_wallsFor_62 ?_
          refine lv_if_ne (tgt := 76) hx hb dX6_wallsFor_63 (by decide) (fun c10 => ?_) (fun c10 => ?_)
          · have h := h.1 c10
            obtain ⟨x11, ex11⟩ : ∃ y : Int32, y = v5 + 1 := ⟨_, rfl⟩
            have h := h x11 ex11
            refine lv_iinc (v := x11) (lv' := [(5, .int x11), (0, .ref (xad g (o1 + 9))), (1, .int v1), (2, .int v2), (3, .int v3), (4, .int v4)]) hx hb dX6_wallsFor_76 hl (k := 5) rfl (by rw [ex11]; rfl) (by decide) rfl (fun ls hl => ?_)
            refine lv_goto (tgt := 21) hx hb dX6_wallsFor_79 (by decide) ?_
            exact ih hw (lv_sub hl [1, 2, 3, 4, 5, 0] rfl) h
          · have h := h.2 c10
            refine lv_iload hx hb dX6_wallsFor_66 (lv_at hl 5 rfl) ?_
            refine lv_istore_n (lv' := [(3, .int v5), (0, .ref (xad g (o1 + 9))), (1, .int v1), (2, .int v2), (4, .int v4), (5, .int v5)]) hx hb dX6_wallsFor_68 rfl hl (by decide) rfl (fun ls hl => ?_)
            refine lv_iload hx hb dX6_wallsFor_69 (lv_at hl 5 rfl) ?_
            refine x_calli hw (x_runS C hw (m_J6_bitCount_0f7a4 l C.2.2.2.2.2.2.2.2.1  h) (x_gS xw_1556 xw_1310 xw_1311 xw_1312) rfl rfl qJ6_bitCount_0f7a4 ⟨(Nat.le_of_ble_eq_true rfl), (Nat.le_of_ble_eq_true rfl)⟩ rfl hl.1 rfl (Nat.le_of_ble_eq_true rfl) dX6_wallsFor_71) (fun r13 u12 H locs hw h => ?_)
            refine lv_istore (lv' := [(4, .int r13), (3, .int v5), (0, .ref (xad g (o1 + 9))), (1, .int v1), (2, .int v2), (5, .int v5)]) hx hb dX6_wallsFor_74 hl (by decide) rfl (fun ls hl => ?_)
            obtain ⟨x14, ex14⟩ : ∃ y : Int32, y = v5 + 1 := ⟨_, rfl⟩
            have h := h x14 ex14
            refine lv_iinc (v := x14) (lv' := [(5, .int x14), (4, .int r13), (3, .int v5), (0, .ref (xad g (o1 + 9))), (1, .int v1), (2, .int v2)]) hx hb dX6_wallsFor_76 hl (k := 5) rfl (by rw [ex14]; rfl) (by decide) rfl (fun ls hl => ?_)
            refine lv_goto (tgt := 21) hx hb dX6_wallsFor_79 (by decide) ?_
            exact ih hw (lv_sub hl [3, 4, 5, 2, 1, 0] rfl) h
set_option maxHeartbeats 4000000 in
set_option maxRecDepth 100000 in
theorem s_X6_wallsFor {o1 : Nat} {Qf : Int32 → xM → Prop} {a2 : Int32} (C : x_C p s m args meth c g RX6 cX6_wallsFor 6 (some .int)) (ho1 : xpL g o1) {u : xM} {H : Heap} {locs : List Loc} {ls : Array Slot} (hw : x_W g s.heap H locs u) (hl : lv_has ls 6 [(0, .ref (xad g (o1 + 9))), (1, .int a2)]) (h : p_X6_wallsFor o1 a2 u Qf) : W p l e (x_rm 1 26) s m args below meth c H locs 0 0 (MQ below (x_Qi g Qf) args s 0 0 (x_A g)) (F0 m 0 ls []) := by
  unfold p_X6_wallsFor at h
  have hx := C.1
  have hb := C.2.1
  refine lv_aload_n hx hb dX6_wallsFor_0 rfl (lv_at hl 0 rfl) ?_
  refine x_calli hw (x_runV (ci := 0) C hw (m_X0_all l C.2.2.2.2.2.2.2.2.1 ho1 h) (xoL_9 ho1) rfl (x_gV xw_1555 xw_1137 xw_1138 xw_61 xw_1139) rfl rfl qX0_all ⟨(Nat.le_of_ble_eq_true rfl), (Nat.le_of_ble_eq_true rfl)⟩ rfl hl.1 rfl (Nat.le_of_ble_eq_true rfl) dX6_wallsFor_1) (fun r2 u1 H locs hw h => ?_)
  refine lv_aload_n hx hb dX6_wallsFor_4 rfl (lv_at hl 0 rfl) ?_
  refine x_geti (ci := 0) C hw 2 (xoL_9 ho1) rfl inlX0 (by decide) rfl rfl xw_1554 dX6_wallsFor_5 ?_
  refine lv_iconst (v := -1) hx hb dX6_wallsFor_8 (by decide) ?_
  refine lv_ixor hx hb dX6_wallsFor_9 ?_
  refine lv_iand hx hb dX6_wallsFor_10 ?_
  refine lv_topi (fun x3 ex3 => ?_)
  have h := h x3 ex3
  refine lv_istore_n (lv' := [(2, .int x3), (0, .ref (xad g (o1 + 9))), (1, .int a2)]) hx hb dX6_wallsFor_11 rfl hl (by decide) rfl (fun ls hl => ?_)
  refine lv_iload_n hx hb dX6_wallsFor_12 rfl (lv_at hl 0 rfl) ?_
  refine lv_istore_n (lv' := [(3, .int x3), (2, .int x3), (0, .ref (xad g (o1 + 9))), (1, .int a2)]) hx hb dX6_wallsFor_13 rfl hl (by decide) rfl (fun ls hl => ?_)
  refine lv_bipush (v := 11) hx hb dX6_wallsFor_14 (by decide) ?_
  refine lv_istore (lv' := [(4, .int 11), (3, .int x3), (2, .int x3), (0, .ref (xad g (o1 + 9))), (1, .int a2)]) hx hb dX6_wallsFor_16 hl (by decide) rfl (fun ls hl => ?_)
  refine lv_iconst (v := 0) hx hb dX6_wallsFor_18 (by decide) ?_
  refine lv_istore (lv' := [(5, .int 0), (4, .int 11), (3, .int x3), (2, .int x3), (0, .ref (xad g (o1 + 9))), (1, .int a2)]) hx hb dX6_wallsFor_19 hl (by decide) rfl (fun ls hl => ?_)
  obtain ⟨n9, h⟩ := h
  exact s_X6_wallsFor_L21 C ho1 n9 hw (lv_sub hl [4, 5, 3, 2, 1, 0] rfl) h
set_option maxHeartbeats 4000000 in
set_option maxRecDepth 100000 in
theorem m_X6_wallsFor (l : Launch) {g : xG} (hD : x_D g) {o1 : Nat} (ho1 : xpL g o1) {a2 : Int32} {u : xM} {Qf : Int32 → xM → Prop} (h : p_X6_wallsFor o1 a2 u Qf) : Met l yX6_wallsFor (Cond.code yX6_wallsFor cX6_wallsFor 6 (some .int) :: wsL_law) (x_rm 1 26) (va_Pc [.ref (xad g (o1 + 9)), .int a2] (x_B g u)) (x_Qi g Qf) 0 0 (x_A g) := by
  refine Met.ofW (cc := cX6_wallsFor) (maxL := 6) (ret := (some .int)) (by decide) rfl ?_
  intro p e s m args below meth c s₁ B hml hv
  obtain ⟨rfl, hB⟩ := hv
  obtain ⟨C, hw⟩ := x_start B hml hD hB
  have hl := lv_entry [.ref (xad g (o1 + 9)), .int a2] (n := 6) (Nat.le_of_ble_eq_true rfl)
  rw [lg_entry_eq]
  exact s_X6_wallsFor C ho1 hw hl h
set_option maxHeartbeats 4000000 in
set_option maxRecDepth 100000 in
theorem s_X10_keep {Qf : Int32 → xM → Prop} {a1 : Int32} (C : x_C p s m args meth c g RX10 cX10_keep 2 (some .int)) (hX : xpX g) {u : xM} {H : Heap} {locs : List Loc} {ls : Array Slot} (hw : x_W g s.heap H locs u) (hl : lv_has ls 2 [(0, .ref (xad g 0)), (1, .int a1)]) (h : p_X10_keep a1 u Qf) : W p l e (x_rm 2 51) s m args below meth c H locs 0 0 (MQ below (x_Qi g Qf) args s 0 0 (x_A g)) (F0 m 0 ls []) := by
  unfold p_X10_keep at h
  have hx := C.1
  have hb := C.2.1
  refine lv_aload_n hx hb dX10_keep_0 rfl (lv_at hl 0 rfl) ?_
  refine lv_iload_n hx hb dX10_keep_1 rfl (lv_at hl 1 rfl) ?_
  refine x_callz hw (x_runV (ci := 10) C hw (m_X10_isRoom l C.2.2.2.2.2.2.2.2.1 hX h) (xoX_0 hX) rfl (x_gV xw_936 xw_937 xw_938 xw_2 xw_939) rfl rfl qX10_isRoom ⟨(Nat.le_of_ble_eq_true rfl), (Nat.le_of_ble_eq_true rfl)⟩ rfl hl.1 rfl (Nat.le_of_ble_eq_true rfl) dX10_keep_2) (fun r2 u1 H locs hw h => ?_)
  refine lv_if_eq (tgt := 29) hx hb dX10_keep_5 (by decide) (fun c3 => ?_) (fun c3 => ?_)
  · have h := h.1 (xb_f c3)
    refine lv_aload_n hx hb dX10_keep_29 rfl (lv_at hl 0 rfl) ?_
    refine lv_iconst (v := 1) hx hb dX10_keep_30 (by decide) ?_
    refine x_calli hw (x_runV (ci := 10) C hw (m_X10_none l C.2.2.2.2.2.2.2.2.1 hX h) (xoX_0 hX) rfl (x_gV xw_343 xw_344 xw_345 xw_2 xw_346) rfl rfl qX10_none ⟨(Nat.le_of_ble_eq_true rfl), (Nat.le_of_ble_eq_true rfl)⟩ rfl hl.1 rfl (Nat.le_of_ble_eq_true rfl) dX10_keep_31) (fun r5 u4 H locs hw h => ?_)
    exact x_iret C hw h dX10_keep_34
  · have h := h.2 (xb_t c3)
    refine lv_aload_n hx hb dX10_keep_8 rfl (lv_at hl 0 rfl) ?_
    refine lv_aload_n hx hb dX10_keep_9 rfl (lv_at hl 0 rfl) ?_
    refine x_getr (ci := 10) C hw 0 (xoX_0 hX) rfl inlX10 (by decide) rfl rfl xrX_0_0 xw_16 dX10_keep_10 ?_
    refine x_getr (ci := 1) C hw 1 (xoL_0 (xpL_83 hX)) rfl inlX1 (by decide) rfl rfl (xrL_0_1 (xpL_83 hX)) xw_398 dX10_keep_13 ?_
    refine lv_iload_n hx hb dX10_keep_16 rfl (lv_at hl 1 rfl) ?_
    refine x_calli hw (x_runS C hw (m_X6_wallsFor l C.2.2.2.2.2.2.2.2.1 (xpL_83 hX) h) (x_gS xw_1551 xw_1552 xw_24 xw_1553) rfl rfl qX6_wallsFor ⟨(Nat.le_of_ble_eq_true rfl), (Nat.le_of_ble_eq_true rfl)⟩ rfl hl.1 rfl (Nat.le_of_ble_eq_true rfl) dX10_keep_17) (fun r7 u6 H locs hw h => ?_)
    refine x_calli hw (x_runS C hw (m_J6_bitCount_0f7a4 l C.2.2.2.2.2.2.2.2.1  h) (x_gS xw_1309 xw_1310 xw_1311 xw_1312) rfl rfl qJ6_bitCount_0f7a4 ⟨(Nat.le_of_ble_eq_true rfl), (Nat.le_of_ble_eq_true rfl)⟩ rfl hl.1 rfl (Nat.le_of_ble_eq_true rfl) dX10_keep_20) (fun r9 u8 H locs hw h => ?_)
    refine x_calli hw (x_runV (ci := 10) C hw (m_X10_fine l C.2.2.2.2.2.2.2.2.1 hX h) (xoX_0 hX) rfl (x_gV xw_622 xw_623 xw_624 xw_2 xw_625) rfl rfl qX10_fine ⟨(Nat.le_of_ble_eq_true rfl), (Nat.le_of_ble_eq_true rfl)⟩ rfl hl.1 rfl (Nat.le_of_ble_eq_true rfl) dX10_keep_23) (fun r11 u10 H locs hw h => ?_)
    refine lv_goto (tgt := 34) hx hb dX10_keep_26 (by decide) ?_
    exact x_iret C hw h dX10_keep_34
set_option maxHeartbeats 4000000 in
set_option maxRecDepth 100000 in
theorem m_X10_keep (l : Launch) {g : xG} (hD : x_D g) (hX : xpX g) {a1 : Int32} {u : xM} {Qf : Int32 → xM → Prop} (h : p_X10_keep a1 u Qf) : Met l yX10_keep (Cond.code yX10_keep cX10_keep 2 (some .int) :: wsL_law) (x_rm 2 51) (va_Pc [.ref (xad g 0), .int a1] (x_B g u)) (x_Qi g Qf) 0 0 (x_A g) := by
  refine Met.ofW (cc := cX10_keep) (maxL := 2) (ret := (some .int)) (by decide) rfl ?_
  intro p e s m args below meth c s₁ B hml hv
  obtain ⟨rfl, hB⟩ := hv
  obtain ⟨C, hw⟩ := x_start B hml hD hB
  have hl := lv_entry [.ref (xad g 0), .int a1] (n := 2) (Nat.le_of_ble_eq_true rfl)
  rw [lg_entry_eq]
  exact s_X10_keep C hX hw hl h
set_option maxHeartbeats 4000000 in
set_option maxRecDepth 100000 in
theorem s_X10_keepSet {Qf : Int32 → xM → Prop} {a1 : Int32} (C : x_C p s m args meth c g RX10 cX10_keepSet 2 (some .int)) (hX : xpX g) {u : xM} {H : Heap} {locs : List Loc} {ls : Array Slot} (hw : x_W g s.heap H locs u) (hl : lv_has ls 2 [(0, .ref (xad g 0)), (1, .int a1)]) (h : p_X10_keepSet a1 u Qf) : W p l e (x_rm 2 51) s m args below meth c H locs 0 0 (MQ below (x_Qi g Qf) args s 0 0 (x_A g)) (F0 m 0 ls []) := by
  unfold p_X10_keepSet at h
  have hx := C.1
  have hb := C.2.1
  refine lv_aload_n hx hb dX10_keepSet_0 rfl (lv_at hl 0 rfl) ?_
  refine lv_iload_n hx hb dX10_keepSet_1 rfl (lv_at hl 1 rfl) ?_
  refine x_callz hw (x_runV (ci := 10) C hw (m_X10_isRoom l C.2.2.2.2.2.2.2.2.1 hX h) (xoX_0 hX) rfl (x_gV xw_936 xw_937 xw_938 xw_2 xw_939) rfl rfl qX10_isRoom ⟨(Nat.le_of_ble_eq_true rfl), (Nat.le_of_ble_eq_true rfl)⟩ rfl hl.1 rfl (Nat.le_of_ble_eq_true rfl) dX10_keepSet_2) (fun r2 u1 H locs hw h => ?_)
  refine lv_if_eq (tgt := 26) hx hb dX10_keepSet_5 (by decide) (fun c3 => ?_) (fun c3 => ?_)
  · have h := h.1 (xb_f c3)
    refine lv_aload_n hx hb dX10_keepSet_26 rfl (lv_at hl 0 rfl) ?_
    refine lv_iconst (v := 1) hx hb dX10_keepSet_27 (by decide) ?_
    refine x_calli hw (x_runV (ci := 10) C hw (m_X10_none l C.2.2.2.2.2.2.2.2.1 hX h) (xoX_0 hX) rfl (x_gV xw_343 xw_344 xw_345 xw_2 xw_346) rfl rfl qX10_none ⟨(Nat.le_of_ble_eq_true rfl), (Nat.le_of_ble_eq_true rfl)⟩ rfl hl.1 rfl (Nat.le_of_ble_eq_true rfl) dX10_keepSet_28) (fun r5 u4 H locs hw h => ?_)
    exact x_iret C hw h dX10_keepSet_31
  · have h := h.2 (xb_t c3)
    refine lv_aload_n hx hb dX10_keepSet_8 rfl (lv_at hl 0 rfl) ?_
    refine lv_aload_n hx hb dX10_keepSet_9 rfl (lv_at hl 0 rfl) ?_
    refine x_getr (ci := 10) C hw 0 (xoX_0 hX) rfl inlX10 (by decide) rfl rfl xrX_0_0 xw_16 dX10_keepSet_10 ?_
    refine x_getr (ci := 1) C hw 1 (xoL_0 (xpL_83 hX)) rfl inlX1 (by decide) rfl rfl (xrL_0_1 (xpL_83 hX)) xw_398 dX10_keepSet_13 ?_
    refine lv_iload_n hx hb dX10_keepSet_16 rfl (lv_at hl 1 rfl) ?_
    refine x_calli hw (x_runS C hw (m_X6_wallsFor l C.2.2.2.2.2.2.2.2.1 (xpL_83 hX) h) (x_gS xw_1551 xw_1552 xw_24 xw_1553) rfl rfl qX6_wallsFor ⟨(Nat.le_of_ble_eq_true rfl), (Nat.le_of_ble_eq_true rfl)⟩ rfl hl.1 rfl (Nat.le_of_ble_eq_true rfl) dX10_keepSet_17) (fun r7 u6 H locs hw h => ?_)
    refine x_calli hw (x_runV (ci := 10) C hw (m_X10_fine l C.2.2.2.2.2.2.2.2.1 hX h) (xoX_0 hX) rfl (x_gV xw_622 xw_623 xw_624 xw_2 xw_625) rfl rfl qX10_fine ⟨(Nat.le_of_ble_eq_true rfl), (Nat.le_of_ble_eq_true rfl)⟩ rfl hl.1 rfl (Nat.le_of_ble_eq_true rfl) dX10_keepSet_20) (fun r9 u8 H locs hw h => ?_)
    refine lv_goto (tgt := 31) hx hb dX10_keepSet_23 (by decide) ?_
    exact x_iret C hw h dX10_keepSet_31
set_option maxHeartbeats 4000000 in
set_option maxRecDepth 100000 in
theorem m_X10_keepSet (l : Launch) {g : xG} (hD : x_D g) (hX : xpX g) {a1 : Int32} {u : xM} {Qf : Int32 → xM → Prop} (h : p_X10_keepSet a1 u Qf) : Met l yX10_keepSet (Cond.code yX10_keepSet cX10_keepSet 2 (some .int) :: wsL_law) (x_rm 2 51) (va_Pc [.ref (xad g 0), .int a1] (x_B g u)) (x_Qi g Qf) 0 0 (x_A g) := by
  refine Met.ofW (cc := cX10_keepSet) (maxL := 2) (ret := (some .int)) (by decide) rfl ?_
  intro p e s m args below meth c s₁ B hml hv
  obtain ⟨rfl, hB⟩ := hv
  obtain ⟨C, hw⟩ := x_start B hml hD hB
  have hl := lv_entry [.ref (xad g 0), .int a1] (n := 2) (Nat.le_of_ble_eq_true rfl)
  rw [lg_entry_eq]
  exact s_X10_keepSet C hX hw hl h
set_option maxHeartbeats 4000000 in
set_option maxRecDepth 100000 in
theorem s_X6_weighPlan_L78 {Qf : xM → Prop} (C : x_C p s m args meth c g RX6 cX6_weighPlan 5 none) (hX : xpX g) {v1 : Int32} {v2 : Int32} {v3 : Int32} {w0 : Bool} {u : xM} {H : Heap} {locs : List Loc} {ls : Array Slot} (hw : x_W g s.heap H locs u) (hl : lv_has ls 5 [(0, .ref (xad g 5)), (1, .int v1), (2, .int v2), (3, .int v3)]) (h : p_X6_weighPlan_L78 Qf v1 v2 v3 w0 u) : W p l e (x_rm 1 22) s m args below meth c H locs 0 0 (MQ below (x_Qv g Qf) args s 0 0 (x_A g)) (F0 m 78 ls [.int (xb w0)]) := by
  unfold p_X6_weighPlan_L78 at h
  have hx := C.1
  have hb := C.2.1
  refine lv_istore (lv' := [(4, .int (xb w0)), (0, .ref (xad g 5)), (1, .int v1), (2, .int v2), (3, .int v3)]) hx hb dX6_weighPlan_78 hl (by decide) rfl (fun ls hl => ?_)
  refine lv_iload hx hb dX6_weighPlan_80 (lv_at hl 0 rfl) ?_
  refine lv_if_eq (tgt := 100) hx hb dX6_weighPlan_82 (by decide) (fun c1 => ?_) (fun c1 => ?_)
  · have h := h.1 (xb_f c1)
    exact x_vret C hw h dX6_weighPlan_100
  · have h := h.2 (xb_t c1)
    refine lv_aload_n hx hb dX6_weighPlan_85 rfl (lv_at hl 1 rfl) ?_
    refine lv_iload_n hx hb dX6_weighPlan_86 rfl (lv_at hl 3 rfl) ?_
    obtain ⟨u2, eu2⟩ : ∃ q : xM, q = si u 5 4 v2 := ⟨_, rfl⟩
    have h := h u2 eu2
    refine x_puti (ci := 6) (ty := .int) C hw 4 (xoX_5 hX) rfl inlX6 tyX6_ok nmX6 (by decide) rfl rfl xw_1585 rfl (by decide +kernel) rfl rfl dX6_weighPlan_87 eu2 (fun H locs hw => ?_)
    refine lv_aload_n hx hb dX6_weighPlan_90 rfl (lv_at hl 1 rfl) ?_
    refine lv_iload_n hx hb dX6_weighPlan_91 rfl (lv_at hl 4 rfl) ?_
    obtain ⟨u3, eu3⟩ : ∃ q : xM, q = si u2 5 5 v3 := ⟨_, rfl⟩
    have h := h u3 eu3
    refine x_puti (ci := 6) (ty := .int) C hw 5 (xoX_5 hX) rfl inlX6 tyX6_ok nmX6 (by decide) rfl rfl xw_1586 rfl (by decide +kernel) rfl rfl dX6_weighPlan_92 eu3 (fun H locs hw => ?_)
    refine lv_aload_n hx hb dX6_weighPlan_95 rfl (lv_at hl 1 rfl) ?_
    refine lv_iload_n hx hb dX6_weighPlan_96 rfl (lv_at hl 2 rfl) ?_
    obtain ⟨u4, eu4⟩ : ∃ q : xM, q = si u3 5 6 v1 := ⟨_, rfl⟩
    have h := h u4 eu4
    refine x_puti (ci := 6) (ty := .int) C hw 6 (xoX_5 hX) rfl inlX6 tyX6_ok nmX6 (by decide) rfl rfl xw_1587 rfl (by decide +kernel) rfl rfl dX6_weighPlan_97 eu4 (fun H locs hw => ?_)
    exact x_vret C hw h dX6_weighPlan_100
set_option maxHeartbeats 4000000 in
set_option maxRecDepth 100000 in
theorem s_X6_weighPlan_L73 {Qf : xM → Prop} (C : x_C p s m args meth c g RX6 cX6_weighPlan 5 none) (hX : xpX g) {v1 : Int32} {v2 : Int32} {v3 : Int32} {u : xM} {H : Heap} {locs : List Loc} {ls : Array Slot} (hw : x_W g s.heap H locs u) (hl : lv_has ls 5 [(0, .ref (xad g 5)), (1, .int v1), (2, .int v2), (3, .int v3)]) (h : p_X6_weighPlan_L73 Qf v1 v2 v3 u) : W p l e (x_rm 1 22) s m args below meth c H locs 0 0 (MQ below (x_Qv g Qf) args s 0 0 (x_A g)) (F0 m 73 ls []) := by
  unfold p_X6_weighPlan_L73 at h
  have hx := C.1
  have hb := C.2.1
  refine lv_iconst (v := 1) hx hb dX6_weighPlan_73 (by decide) ?_
  refine lv_goto (tgt := 78) hx hb dX6_weighPlan_74 (by decide) ?_
  exact s_X6_weighPlan_L78 C hX hw (lv_sub hl [0, 1, 2, 3] rfl) h
set_option maxHeartbeats 4000000 in
set_option maxRecDepth 100000 in
theorem s_X6_weighPlan_L77 {Qf : xM → Prop} (C : x_C p s m args meth c g RX6 cX6_weighPlan 5 none) (hX : xpX g) {v1 : Int32} {v2 : Int32} {v3 : Int32} {u : xM} {H : Heap} {locs : List Loc} {ls : Array Slot} (hw : x_W g s.heap H locs u) (hl : lv_has ls 5 [(0, .ref (xad g 5)), (1, .int v1), (2, .int v2), (3, .int v3)]) (h : p_X6_weighPlan_L77 Qf v1 v2 v3 u) : W p l e (x_rm 1 22) s m args below meth c H locs 0 0 (MQ below (x_Qv g Qf) args s 0 0 (x_A g)) (F0 m 77 ls []) := by
  unfold p_X6_weighPlan_L77 at h
  have hx := C.1
  have hb := C.2.1
  refine lv_iconst (v := 0) hx hb dX6_weighPlan_77 (by decide) ?_
  exact s_X6_weighPlan_L78 C hX hw (lv_sub hl [0, 1, 2, 3] rfl) h
set_option maxHeartbeats 4000000 in
set_option maxRecDepth 100000 in
theorem s_X6_weighPlan_L49 {Qf : xM → Prop} (C : x_C p s m args meth c g RX6 cX6_weighPlan 5 none) (hX : xpX g) {v1 : Int32} {v2 : Int32} {v3 : Int32} {u : xM} {H : Heap} {locs : List Loc} {ls : Array Slot} (hw : x_W g s.heap H locs u) (hl : lv_has ls 5 [(0, .ref (xad g 5)), (1, .int v1), (2, .int v2), (3, .int v3)]) (h : p_X6_weighPlan_L49 Qf v1 v2 v3 u) : W p l e (x_rm 1 22) s m args below meth c H locs 0 0 (MQ below (x_Qv g Qf) args s 0 0 (x_A g)) (F0 m 49 ls []) := by
  unfold p_X6_weighPlan_L49 at h
  have hx := C.1
  have hb := C.2.1
  refine lv_iload_n hx hb dX6_weighPlan_49 rfl (lv_at hl 2 rfl) ?_
  refine lv_aload_n hx hb dX6_weighPlan_50 rfl (lv_at hl 0 rfl) ?_
  refine x_geti (ci := 6) C hw 4 (xoX_5 hX) rfl inlX6 (by decide) rfl rfl xw_1585 dX6_weighPlan_51 ?_
  refine lv_icmp_ne (tgt := 77) hx hb dX6_weighPlan_54 (by decide) (fun c1 => ?_) (fun c1 => ?_)
  · have h := h.1 c1
    exact s_X6_weighPlan_L77 C hX hw (lv_sub hl [0, 1, 2, 3] rfl) h
  · have h := h.2 c1
    refine lv_iload_n hx hb dX6_weighPlan_57 rfl (lv_at hl 3 rfl) ?_
    refine lv_aload_n hx hb dX6_weighPlan_58 rfl (lv_at hl 0 rfl) ?_
    refine x_geti (ci := 6) C hw 5 (xoX_5 hX) rfl inlX6 (by decide) rfl rfl xw_1586 dX6_weighPlan_59 ?_
    refine lv_icmp_ne (tgt := 77) hx hb dX6_weighPlan_62 (by decide) (fun c2 => ?_) (fun c2 => ?_)
    · have h := h.1 c2
      exact s_X6_weighPlan_L77 C hX hw (lv_sub hl [0, 1, 2, 3] rfl) h
    · have h := h.2 c2
      refine lv_iload_n hx hb dX6_weighPlan_65 rfl (lv_at hl 1 rfl) ?_
      refine lv_aload_n hx hb dX6_weighPlan_66 rfl (lv_at hl 0 rfl) ?_
      refine x_geti (ci := 6) C hw 6 (xoX_5 hX) rfl inlX6 (by decide) rfl rfl xw_1587 dX6_weighPlan_67 ?_
      refine lv_icmp_ge (tgt := 77) hx hb dX6_weighPlan_70 (by decide) (fun c3 => ?_) (fun c3 => ?_)
      · have h := h.1 c3
        exact s_X6_weighPlan_L77 C hX hw (lv_sub hl [0, 1, 2, 3] rfl) h
      · have h := h.2 c3
        exact s_X6_weighPlan_L73 C hX hw (lv_sub hl [0, 1, 2, 3] rfl) h
set_option maxHeartbeats 4000000 in
set_option maxRecDepth 100000 in
theorem s_X6_weighPlan {Qf : xM → Prop} {a1 : Int32} (C : x_C p s m args meth c g RX6 cX6_weighPlan 5 none) (hX : xpX g) {u : xM} {H : Heap} {locs : List Loc} {ls : Array Slot} (hw : x_W g s.heap H locs u) (hl : lv_has ls 5 [(0, .ref (xad g 5)), (1, .int a1)]) (h : p_X6_weighPlan a1 u Qf) : W p l e (x_rm 1 22) s m args below meth c H locs 0 0 (MQ below (x_Qv g Qf) args s 0 0 (x_A g)) (F0 m 0 ls []) := by
  unfold p_X6_weighPlan at h
  have hx := C.1
  have hb := C.2.1
  refine lv_aload_n hx hb dX6_weighPlan_0 rfl (lv_at hl 0 rfl) ?_
  refine x_getr (ci := 6) C hw 0 (xoX_5 hX) rfl inlX6 (by decide) rfl rfl xrX_5_0 xw_111 dX6_weighPlan_1 ?_
  refine x_getr (ci := 1) C hw 0 (xoL_0 (xpL_137 hX)) rfl inlX1 (by decide) rfl rfl (xrL_0_0 (xpL_137 hX)) xw_1599 dX6_weighPlan_4 ?_
  refine x_geti (ci := 7) C hw 1 (xoL_1 (xpL_137 hX)) rfl inlX7 (by decide) rfl rfl xw_1600 dX6_weighPlan_7 ?_
  refine x_calli hw (x_runS C hw (m_J6_bitCount_0f7a4 l C.2.2.2.2.2.2.2.2.1  h) (x_gS xw_1556 xw_1310 xw_1311 xw_1312) rfl rfl qJ6_bitCount_0f7a4 ⟨(Nat.le_of_ble_eq_true rfl), (Nat.le_of_ble_eq_true rfl)⟩ rfl hl.1 rfl (Nat.le_of_ble_eq_true rfl) dX6_weighPlan_10) (fun r2 u1 H locs hw h => ?_)
  refine lv_istore_n (lv' := [(2, .int r2), (0, .ref (xad g 5)), (1, .int a1)]) hx hb dX6_weighPlan_13 rfl hl (by decide) rfl (fun ls hl => ?_)
  refine lv_aload_n hx hb dX6_weighPlan_14 rfl (lv_at hl 1 rfl) ?_
  refine x_getr (ci := 6) C hw 0 (xoX_5 hX) rfl inlX6 (by decide) rfl rfl xrX_5_0 xw_111 dX6_weighPlan_15 ?_
  refine x_getr (ci := 1) C hw 0 (xoL_0 (xpL_137 hX)) rfl inlX1 (by decide) rfl rfl (xrL_0_0 (xpL_137 hX)) xw_1599 dX6_weighPlan_18 ?_
  refine x_calli hw (x_runV (ci := 7) C hw (m_X7_allWater l C.2.2.2.2.2.2.2.2.1 (xpL_137 hX) h) (xoL_1 (xpL_137 hX)) rfl (x_gV xw_1601 xw_866 xw_867 xw_57 xw_868) rfl rfl qX7_allWater ⟨(Nat.le_of_ble_eq_true rfl), (Nat.le_of_ble_eq_true rfl)⟩ rfl hl.1 rfl (Nat.le_of_ble_eq_true rfl) dX6_weighPlan_21) (fun r4 u3 H locs hw h => ?_)
  refine lv_istore_n (lv' := [(3, .int r4), (2, .int r2), (0, .ref (xad g 5)), (1, .int a1)]) hx hb dX6_weighPlan_24 rfl hl (by decide) rfl (fun ls hl => ?_)
  refine lv_iload_n hx hb dX6_weighPlan_25 rfl (lv_at hl 1 rfl) ?_
  refine lv_aload_n hx hb dX6_weighPlan_26 rfl (lv_at hl 2 rfl) ?_
  refine x_geti (ci := 6) C hw 4 (xoX_5 hX) rfl inlX6 (by decide) rfl rfl xw_1585 dX6_weighPlan_27 ?_
  refine lv_icmp_lt (tgt := 73) hx hb dX6_weighPlan_30 (by decide) (fun c5 => ?_) (fun c5 => ?_)
  · have h := h.1 c5
    exact s_X6_weighPlan_L73 C hX hw (lv_sub hl [2, 3, 1, 0] rfl) h
  · have h := h.2 c5
    refine lv_iload_n hx hb dX6_weighPlan_33 rfl (lv_at hl 1 rfl) ?_
    refine lv_aload_n hx hb dX6_weighPlan_34 rfl (lv_at hl 2 rfl) ?_
    refine x_geti (ci := 6) C hw 4 (xoX_5 hX) rfl inlX6 (by decide) rfl rfl xw_1585 dX6_weighPlan_35 ?_
    refine lv_icmp_ne (tgt := 49) hx hb dX6_weighPlan_38 (by decide) (fun c6 => ?_) (fun c6 => ?_)
    · have h := h.1 c6
      exact s_X6_weighPlan_L49 C hX hw (lv_sub hl [2, 3, 1, 0] rfl) h
    · have h := h.2 c6
      refine lv_iload_n hx hb dX6_weighPlan_41 rfl (lv_at hl 0 rfl) ?_
      refine lv_aload_n hx hb dX6_weighPlan_42 rfl (lv_at hl 2 rfl) ?_
      refine x_geti (ci := 6) C hw 5 (xoX_5 hX) rfl inlX6 (by decide) rfl rfl xw_1586 dX6_weighPlan_43 ?_
      refine lv_icmp_lt (tgt := 73) hx hb dX6_weighPlan_46 (by decide) (fun c7 => ?_) (fun c7 => ?_)
      · have h := h.1 c7
        exact s_X6_weighPlan_L73 C hX hw (lv_sub hl [2, 3, 1, 0] rfl) h
      · have h := h.2 c7
        exact s_X6_weighPlan_L49 C hX hw (lv_sub hl [2, 3, 1, 0] rfl) h
set_option maxHeartbeats 4000000 in
set_option maxRecDepth 100000 in
theorem m_X6_weighPlan (l : Launch) {g : xG} (hD : x_D g) (hX : xpX g) {a1 : Int32} {u : xM} {Qf : xM → Prop} (h : p_X6_weighPlan a1 u Qf) : Met l yX6_weighPlan (Cond.code yX6_weighPlan cX6_weighPlan 5 none :: wsL_law) (x_rm 1 22) (va_Pc [.ref (xad g 5), .int a1] (x_B g u)) (x_Qv g Qf) 0 0 (x_A g) := by
  refine Met.ofW (cc := cX6_weighPlan) (maxL := 5) (ret := none) (by decide) rfl ?_
  intro p e s m args below meth c s₁ B hml hv
  obtain ⟨rfl, hB⟩ := hv
  obtain ⟨C, hw⟩ := x_start B hml hD hB
  have hl := lv_entry [.ref (xad g 5), .int a1] (n := 5) (Nat.le_of_ble_eq_true rfl)
  rw [lg_entry_eq]
  exact s_X6_weighPlan C hX hw hl h
set_option maxHeartbeats 4000000 in
set_option maxRecDepth 100000 in
theorem s_X6_keepWater {Qf : xM → Prop} {a1 : Int32} (C : x_C p s m args meth c g RX6 cX6_keepWater 2 none) (hX : xpX g) {u : xM} {H : Heap} {locs : List Loc} {ls : Array Slot} (hw : x_W g s.heap H locs u) (hl : lv_has ls 2 [(0, .ref (xad g 5)), (1, .int a1)]) (h : p_X6_keepWater a1 u Qf) : W p l e (x_rm 1 80) s m args below meth c H locs 0 0 (MQ below (x_Qv g Qf) args s 0 0 (x_A g)) (F0 m 0 ls []) := by
  unfold p_X6_keepWater at h
  have hx := C.1
  have hb := C.2.1
  refine lv_aload_n hx hb dX6_keepWater_0 rfl (lv_at hl 0 rfl) ?_
  refine x_getr (ci := 6) C hw 0 (xoX_5 hX) rfl inlX6 (by decide) rfl rfl xrX_5_0 xw_111 dX6_keepWater_1 ?_
  refine x_getr (ci := 1) C hw 0 (xoL_0 (xpL_137 hX)) rfl inlX1 (by decide) rfl rfl (xrL_0_0 (xpL_137 hX)) xw_1599 dX6_keepWater_4 ?_
  refine x_getr (ci := 7) C hw 7 (xoL_1 (xpL_137 hX)) rfl inlX7 (by decide) rfl rfl (xrL_1_7 (xpL_137 hX)) xw_1606 dX6_keepWater_7 ?_
  refine lv_iconst (v := 0) hx hb dX6_keepWater_10 (by decide) ?_
  refine lv_aload_n hx hb dX6_keepWater_11 rfl (lv_at hl 0 rfl) ?_
  refine x_getr (ci := 6) C hw 2 (xoX_5 hX) rfl inlX6 (by decide) rfl rfl xrX_5_2 xw_114 dX6_keepWater_12 ?_
  refine lv_iload_n hx hb dX6_keepWater_15 rfl (lv_at hl 1 rfl) ?_
  have c1 := h.1
  have h := h.2
  refine x_aald C hw (xoX_17 hX) (by decide) (by decide) c1 (xa_17 c1) dX6_keepWater_16 ?_
  refine lv_iconst (v := 0) hx hb dX6_keepWater_17 (by decide) ?_
  refine lv_bipush (v := 7) hx hb dX6_keepWater_18 (by decide) ?_
  obtain ⟨u2, eu2⟩ : ∃ q : xM, q = cpi u 144 0 (18 + a1.toNatClampNeg) 0 7 := ⟨_, rfl⟩
  have h := h u2 eu2
  refine x_cpyi C hl.1 xw_1607 hw (xoL_7 (xpL_137 hX)) (xok_17 hX c1) ⟨by decide, by decide, by decide, by decide, by decide⟩ (Nat.le_of_ble_eq_true rfl) (Nat.le_of_ble_eq_true rfl) dX6_keepWater_20 eu2 (fun H locs hw => ?_)
  refine lv_aload_n hx hb dX6_keepWater_23 rfl (lv_at hl 0 rfl) ?_
  refine x_getr (ci := 6) C hw 3 (xoX_5 hX) rfl inlX6 (by decide) rfl rfl xrX_5_3 xw_115 dX6_keepWater_24 ?_
  refine lv_iload_n hx hb dX6_keepWater_27 rfl (lv_at hl 1 rfl) ?_
  refine lv_aload_n hx hb dX6_keepWater_28 rfl (lv_at hl 0 rfl) ?_
  refine x_getr (ci := 6) C hw 0 (xoX_5 hX) rfl inlX6 (by decide) rfl rfl xrX_5_0 xw_111 dX6_keepWater_29 ?_
  refine x_getr (ci := 1) C hw 0 (xoL_0 (xpL_137 hX)) rfl inlX1 (by decide) rfl rfl (xrL_0_0 (xpL_137 hX)) xw_1599 dX6_keepWater_32 ?_
  refine x_geti (ci := 7) C hw 1 (xoL_1 (xpL_137 hX)) rfl inlX7 (by decide) rfl rfl xw_1600 dX6_keepWater_35 ?_
  have c3 := h.1
  have h := h.2
  obtain ⟨u4, eu4⟩ : ∃ q : xM, q = si u2 30 a1.toNatClampNeg (gi u2 138 1) := ⟨_, rfl⟩
  have h := h u4 eu4
  refine x_iast C hw (xoX_30 hX) c3 dX6_keepWater_38 eu4 (fun H locs hw => ?_)
  exact x_vret C hw h dX6_keepWater_39
set_option maxHeartbeats 4000000 in
set_option maxRecDepth 100000 in
theorem m_X6_keepWater (l : Launch) {g : xG} (hD : x_D g) (hX : xpX g) {a1 : Int32} {u : xM} {Qf : xM → Prop} (h : p_X6_keepWater a1 u Qf) : Met l yX6_keepWater (Cond.code yX6_keepWater cX6_keepWater 2 none :: wsL_law) (x_rm 1 80) (va_Pc [.ref (xad g 5), .int a1] (x_B g u)) (x_Qv g Qf) 0 0 (x_A g) := by
  refine Met.ofW (cc := cX6_keepWater) (maxL := 2) (ret := none) (by decide) rfl ?_
  intro p e s m args below meth c s₁ B hml hv
  obtain ⟨rfl, hB⟩ := hv
  obtain ⟨C, hw⟩ := x_start B hml hD hB
  have hl := lv_entry [.ref (xad g 5), .int a1] (n := 2) (Nat.le_of_ble_eq_true rfl)
  rw [lg_entry_eq]
  exact s_X6_keepWater C hX hw hl h
set_option maxHeartbeats 4000000 in
set_option maxRecDepth 100000 in
theorem s_X6_errandsAt_L5 {Qf : Int32 → xM → Prop} (C : x_C p s m args meth c g RX6 cX6_errandsAt 5 (some .int)) (hX : xpX g) : ∀ (nn : Nat) {v1 : Int32} {v2 : Int32} {v3 : Int32} {v4 : Int32} {u : xM} {H : Heap} {locs : List Loc} {ls : Array Slot} (hw : x_W g s.heap H locs u) (hl : lv_has ls 5 [(0, .ref (xad g 5)), (1, .int v1), (2, .int v2), (3, .int v3), (4, .int v4)]) (h : p_X6_errandsAt_L5 Qf nn v1 v2 v3 v4 u), W p l e (x_rm 0 0) s m args below meth c H locs 0 0 (MQ below (x_Qi g Qf) args s 0 0 (x_A g)) (F0 m 5 ls []) := by
  intro nn
  induction nn with
  | zero => intro v1 v2 v3 v4 u H locs ls hw hl h; exact h.elim
  | succ nn ih =>
    intro v1 v2 v3 v4 u H locs ls hw hl h
    unfold p_X6_errandsAt_L5 at h
    have hx := C.1
    have hb := C.2.1
    refine lv_iload hx hb dX6_errandsAt_5 (lv_at hl 4 rfl) ?_
    refine lv_aload_n hx hb dX6_errandsAt_7 rfl (lv_at hl 0 rfl) ?_
    refine x_getr (ci := 6) C hw 0 (xoX_5 hX) rfl inlX6 (by decide) rfl rfl xrX_5_0 xw_111 dX6_errandsAt_8 ?_
    refine x_geti (ci := 1) C hw 2 (xoL_0 (xpL_137 hX)) rfl inlX1 (by decide) rfl rfl xw_1588 dX6_errandsAt_11 ?_
    refine lv_icmp_ge (tgt := 68) hx hb dX6_errandsAt_14 (by decide) (fun c1 => ?_) (fun c1 => ?_)
    · have h := h.1 c1
      refine lv_iload_n hx hb dX6_errandsAt_68 rfl (lv_at hl 3 rfl) ?_
      exact x_iret C hw h dX6_errandsAt_69
    · have h := h.2 c1
      refine lv_iload_n hx hb dX6_errandsAt_17 rfl (lv_at hl 1 rfl) ?_
      refine lv_iload hx hb dX6_errandsAt_18 (lv_at hl 4 rfl) ?_
      refine lv_ishr hx hb dX6_errandsAt_20 ?_
      refine lv_iconst (v := 1) hx hb dX6_errandsAt_21 (by decide) ?_
      refine lv_iand hx hb dX6_errandsAt_22 ?_
      refine lv_iconst (v := 1) hx hb dX6_errandsAt_23 (by decide) ?_
      refine lv_icmp_ne (tgt := 62) hx hb dX6_errandsAt_24 (by decide) (fun c2 => ?_) (fun c2 => ?_)
      · have h := h.1 c2
        obtain ⟨x3, ex3⟩ : ∃ y : Int32, y = v4 + 1 := ⟨_, rfl⟩
        have h := h x3 ex3
        refine lv_iinc (v := x3) (lv' := [(4, .int x3), (0, .ref (xad g 5)), (1, .int v1), (2, .int v2), (3, .int v3)]) hx hb dX6_errandsAt_62 hl (k := 4) rfl (by rw [ex3]; rfl) (by decide) rfl (fun ls hl => ?_)
        refine lv_goto (tgt := 5) hx hb dX6_errandsAt_65 (by decide) ?_
        exact ih hw (lv_sub hl [1, 2, 3, 4, 0] rfl) h
      · have h := h.2 c2
        refine lv_iload_n hx hb dX6_errandsAt_27 rfl (lv_at hl 2 rfl) ?_
        refine lv_aload_n hx hb dX6_errandsAt_28 rfl (lv_at hl 0 rfl) ?_
        refine x_getr (ci := 6) C hw 0 (xoX_5 hX) rfl inlX6 (by decide) rfl rfl xrX_5_0 xw_111 dX6_errandsAt_29 ?_
        refine x_getr (ci := 1) C hw 5 (xoL_0 (xpL_137 hX)) rfl inlX1 (by decide) rfl rfl (xrL_0_5 (xpL_137 hX)) xw_1613 dX6_errandsAt_32 ?_
        refine lv_iload hx hb dX6_errandsAt_35 (lv_at hl 4 rfl) ?_
        have c4 := h.1
        have h := h.2
        refine x_iald C hw (xoL_19 (xpL_137 hX)) c4 dX6_errandsAt_37 ?_
        refine lv_icmp_lt (tgt := 62) hx hb dX6_errandsAt_38 (by decide) (fun c5 => ?_) (fun c5 => ?_)
        · have h := h.1 c5
          obtain ⟨x6, ex6⟩ : ∃ y : Int32, y = v4 + 1 := ⟨_, rfl⟩
          have h := h x6 ex6
          refine lv_iinc (v := x6) (lv' := [(4, .int x6), (0, .ref (xad g 5)), (1, .int v1), (2, .int v2), (3, .int v3)]) hx hb dX6_errandsAt_62 hl (k := 4) rfl (by rw [ex6]; rfl) (by decide) rfl (fun ls hl => ?_)
          refine lv_goto (tgt := 5) hx hb dX6_errandsAt_65 (by decide) ?_
          exact ih hw (lv_sub hl [1, 2, 3, 4, 0] rfl) h
        · have h := h.2 c5
          refine lv_iload_n hx hb dX6_errandsAt_41 rfl (lv_at hl 2 rfl) ?_
          refine lv_aload_n hx hb dX6_errandsAt_42 rfl (lv_at hl 0 rfl) ?_
          refine x_getr (ci := 6) C hw 0 (xoX_5 hX) rfl inlX6 (by decide) rfl rfl xrX_5_0 xw_111 dX6_errandsAt_43 ?_
          refine x_getr (ci := 1) C hw 6 (xoL_0 (xpL_137 hX)) rfl inlX1 (by decide) rfl rfl (xrL_0_6 (xpL_137 hX)) xw_1614 dX6_errandsAt_46 ?_
          refine lv_iload hx hb dX6_errandsAt_49 (lv_at hl 4 rfl) ?_
          have c7 := h.1
          have h := h.2
          refine x_iald C hw (xoL_20 (xpL_137 hX)) c7 dX6_errandsAt_51 ?_
          refine lv_icmp_gt (tgt := 62) hx hb dX6_errandsAt_52 (by decide) (fun c8 => ?_) (fun c8 => ?_)
          · have h := h.1 c8
            obtain ⟨x9, ex9⟩ : ∃ y : Int32, y = v4 + 1 := ⟨_, rfl⟩
            have h := h x9 ex9
            refine lv_iinc (v := x9) (lv' := [(4, .int x9), (0, .ref (xad g 5)), (1, .int v1), (2, .int v2), (3, .int v3)]) hx hb dX6_errandsAt_62 hl (k := 4) rfl (by rw [ex9]; rfl) (by decide) rfl (fun ls hl => ?_)
            refine lv_goto (tgt := 5) hx hb dX6_errandsAt_65 (by decide) ?_
            exact ih hw (lv_sub hl [1, 2, 3, 4, 0] rfl) h
          · have h := h.2 c8
            refine lv_iload_n hx hb dX6_errandsAt_55 rfl (lv_at hl 3 rfl) ?_
            refine lv_iconst (v := 1) hx hb dX6_errandsAt_56 (by decide) ?_
            refine lv_iload hx hb dX6_errandsAt_57 (lv_at hl 4 rfl) ?_
            refine lv_ishl hx hb dX6_errandsAt_59 ?_
            refine lv_ior hx hb dX6_errandsAt_60 ?_
            refine lv_topi (fun x10 ex10 => ?_)
            have h := h x10 ex10
            refine lv_istore_n (lv' := [(3, .int x10), (0, .ref (xad g 5)), (1, .int v1), (2, .int v2), (4, .int v4)]) hx hb dX6_errandsAt_61 rfl hl (by decide) rfl (fun ls hl => ?_)
            obtain ⟨x11, ex11⟩ : ∃ y : Int32, y = v4 + 1 := ⟨_, rfl⟩
            have h := h x11 ex11
            refine lv_iinc (v := x11) (lv' := [(4, .int x11), (3, .int x10), (0, .ref (xad g 5)), (1, .int v1), (2, .int v2)]) hx hb dX6_errandsAt_62 hl (k := 4) rfl (by rw [ex11]; rfl) (by decide) rfl (fun ls hl => ?_)
            refine lv_goto (tgt := 5) hx hb dX6_errandsAt_65 (by decide) ?_
            exact ih hw (lv_sub hl [2, 3, 4, 1, 0] rfl) h
set_option maxHeartbeats 4000000 in
set_option maxRecDepth 100000 in
theorem s_X6_errandsAt {Qf : Int32 → xM → Prop} {a1 : Int32} {a2 : Int32} (C : x_C p s m args meth c g RX6 cX6_errandsAt 5 (some .int)) (hX : xpX g) {u : xM} {H : Heap} {locs : List Loc} {ls : Array Slot} (hw : x_W g s.heap H locs u) (hl : lv_has ls 5 [(0, .ref (xad g 5)), (1, .int a1), (2, .int a2)]) (h : p_X6_errandsAt a1 a2 u Qf) : W p l e (x_rm 0 0) s m args below meth c H locs 0 0 (MQ below (x_Qi g Qf) args s 0 0 (x_A g)) (F0 m 0 ls []) := by
  unfold p_X6_errandsAt at h
  have hx := C.1
  have hb := C.2.1
  refine lv_iconst (v := 0) hx hb dX6_errandsAt_0 (by decide) ?_
  refine lv_istore_n (lv' := [(3, .int 0), (0, .ref (xad g 5)), (1, .int a1), (2, .int a2)]) hx hb dX6_errandsAt_1 rfl hl (by decide) rfl (fun ls hl => ?_)
  refine lv_iconst (v := 0) hx hb dX6_errandsAt_2 (by decide) ?_
  refine lv_istore (lv' := [(4, .int 0), (3, .int 0), (0, .ref (xad g 5)), (1, .int a1), (2, .int a2)]) hx hb dX6_errandsAt_3 hl (by decide) rfl (fun ls hl => ?_)
  obtain ⟨n9, h⟩ := h
  exact s_X6_errandsAt_L5 C hX n9 hw (lv_sub hl [2, 3, 4, 1, 0] rfl) h
set_option maxHeartbeats 4000000 in
set_option maxRecDepth 100000 in
theorem m_X6_errandsAt (l : Launch) {g : xG} (hD : x_D g) (hX : xpX g) {a1 : Int32} {a2 : Int32} {u : xM} {Qf : Int32 → xM → Prop} (h : p_X6_errandsAt a1 a2 u Qf) : Met l yX6_errandsAt (Cond.code yX6_errandsAt cX6_errandsAt 5 (some .int) :: wsL_law) (x_rm 0 0) (va_Pc [.ref (xad g 5), .int a1, .int a2] (x_B g u)) (x_Qi g Qf) 0 0 (x_A g) := by
  refine Met.ofW (cc := cX6_errandsAt) (maxL := 5) (ret := (some .int)) (by decide) rfl ?_
  intro p e s m args below meth c s₁ B hml hv
  obtain ⟨rfl, hB⟩ := hv
  obtain ⟨C, hw⟩ := x_start B hml hD hB
  have hl := lv_entry [.ref (xad g 5), .int a1, .int a2] (n := 5) (Nat.le_of_ble_eq_true rfl)
  rw [lg_entry_eq]
  exact s_X6_errandsAt C hX hw hl h
set_option maxHeartbeats 4000000 in
set_option maxRecDepth 100000 in
theorem s_X6_errandsLater_L6 {Qf : Int32 → xM → Prop} (C : x_C p s m args meth c g RX6 cX6_errandsLater 6 (some .int)) (hX : xpX g) : ∀ (nn : Nat) {v1 : Int32} {v2 : Int32} {v3 : Int32} {v4 : Int32} {v5 : Int32} {u : xM} {H : Heap} {locs : List Loc} {ls : Array Slot} (hw : x_W g s.heap H locs u) (hl : lv_has ls 6 [(0, .ref (xad g 5)), (1, .int v1), (2, .int v2), (3, .int v3), (4, .int v4), (5, .int v5)]) (h : p_X6_errandsLater_L6 Qf nn v1 v2 v3 v4 v5 u), W p l e (x_rm 1 24) s m args below meth c H locs 0 0 (MQ below (x_Qi g Qf) args s 0 0 (x_A g)) (F0 m 6 ls []) := by
  intro nn
  induction nn with
  | zero => intro v1 v2 v3 v4 v5 u H locs ls hw hl h; exact h.elim
  | succ nn ih =>
    intro v1 v2 v3 v4 v5 u H locs ls hw hl h
    unfold p_X6_errandsLater_L6 at h
    have hx := C.1
    have hb := C.2.1
    refine lv_iload hx hb dX6_errandsLater_6 (lv_at hl 5 rfl) ?_
    refine lv_bipush (v := 12) hx hb dX6_errandsLater_8 (by decide) ?_
    refine lv_iload_n hx hb dX6_errandsLater_10 rfl (lv_at hl 2 rfl) ?_
    refine lv_isub hx hb dX6_errandsLater_11 ?_
    refine lv_icmp_ge (tgt := 38) hx hb dX6_errandsLater_12 (by decide) (fun c1 => ?_) (fun c1 => ?_)
    · have h := h.1 c1
      refine lv_iload hx hb dX6_errandsLater_38 (lv_at hl 4 rfl) ?_
      exact x_iret C hw h dX6_errandsLater_40
    · have h := h.2 c1
      refine lv_iload hx hb dX6_errandsLater_15 (lv_at hl 4 rfl) ?_
      refine lv_aload_n hx hb dX6_errandsLater_17 rfl (lv_at hl 0 rfl) ?_
      refine lv_iload_n hx hb dX6_errandsLater_18 rfl (lv_at hl 1 rfl) ?_
      refine lv_iload_n hx hb dX6_errandsLater_19 rfl (lv_at hl 3 rfl) ?_
      refine lv_iload hx hb dX6_errandsLater_20 (lv_at hl 5 rfl) ?_
      refine lv_iadd hx hb dX6_errandsLater_22 ?_
      refine lv_bipush (v := 12) hx hb dX6_errandsLater_23 (by decide) ?_
      refine lv_irem hx hb dX6_errandsLater_25 (by decide) ?_
      refine lv_topi (fun x2 ex2 => ?_)
      have h := h x2 ex2
      refine x_calli hw (x_runV (ci := 6) C hw (m_X6_errandsAt l C.2.2.2.2.2.2.2.2.1 hX h) (xoX_5 hX) rfl (x_gV xw_1609 xw_1610 xw_1611 xw_24 xw_1612) rfl rfl qX6_errandsAt ⟨(Nat.le_of_ble_eq_true rfl), (Nat.le_of_ble_eq_true rfl)⟩ rfl hl.1 rfl (Nat.le_of_ble_eq_true rfl) dX6_errandsLater_26) (fun r4 u3 H locs hw h => ?_)
      refine lv_ior hx hb dX6_errandsLater_29 ?_
      refine lv_topi (fun x5 ex5 => ?_)
      have h := h x5 ex5
      refine lv_istore (lv' := [(4, .int x5), (0, .ref (xad g 5)), (1, .int v1), (2, .int v2), (3, .int v3), (5, .int v5)]) hx hb dX6_errandsLater_30 hl (by decide) rfl (fun ls hl => ?_)
      obtain ⟨x6, ex6⟩ : ∃ y : Int32, y = v5 + 1 := ⟨_, rfl⟩
      have h := h x6 ex6
      refine lv_iinc (v := x6) (lv' := [(5, .int x6), (4, .int x5), (0, .ref (xad g 5)), (1, .int v1), (2, .int v2), (3, .int v3)]) hx hb dX6_errandsLater_32 hl (k := 5) rfl (by rw [ex6]; rfl) (by decide) rfl (fun ls hl => ?_)
      refine lv_goto (tgt := 6) hx hb dX6_errandsLater_35 (by decide) ?_
      exact ih hw (lv_sub hl [2, 3, 4, 5, 1, 0] rfl) h
set_option maxHeartbeats 4000000 in
set_option maxRecDepth 100000 in
theorem s_X6_errandsLater {Qf : Int32 → xM → Prop} {a1 : Int32} {a2 : Int32} {a3 : Int32} (C : x_C p s m args meth c g RX6 cX6_errandsLater 6 (some .int)) (hX : xpX g) {u : xM} {H : Heap} {locs : List Loc} {ls : Array Slot} (hw : x_W g s.heap H locs u) (hl : lv_has ls 6 [(0, .ref (xad g 5)), (1, .int a1), (2, .int a2), (3, .int a3)]) (h : p_X6_errandsLater a1 a2 a3 u Qf) : W p l e (x_rm 1 24) s m args below meth c H locs 0 0 (MQ below (x_Qi g Qf) args s 0 0 (x_A g)) (F0 m 0 ls []) := by
  unfold p_X6_errandsLater at h
  have hx := C.1
  have hb := C.2.1
  refine lv_iconst (v := 0) hx hb dX6_errandsLater_0 (by decide) ?_
  refine lv_istore (lv' := [(4, .int 0), (0, .ref (xad g 5)), (1, .int a1), (2, .int a2), (3, .int a3)]) hx hb dX6_errandsLater_1 hl (by decide) rfl (fun ls hl => ?_)
  refine lv_iconst (v := 0) hx hb dX6_errandsLater_3 (by decide) ?_
  refine lv_istore (lv' := [(5, .int 0), (4, .int 0), (0, .ref (xad g 5)), (1, .int a1), (2, .int a2), (3, .int a3)]) hx hb dX6_errandsLater_4 hl (by decide) rfl (fun ls hl => ?_)
  obtain ⟨n9, h⟩ := h
  exact s_X6_errandsLater_L6 C hX n9 hw (lv_sub hl [2, 3, 4, 5, 1, 0] rfl) h
set_option maxHeartbeats 4000000 in
set_option maxRecDepth 100000 in
theorem m_X6_errandsLater (l : Launch) {g : xG} (hD : x_D g) (hX : xpX g) {a1 : Int32} {a2 : Int32} {a3 : Int32} {u : xM} {Qf : Int32 → xM → Prop} (h : p_X6_errandsLater a1 a2 a3 u Qf) : Met l yX6_errandsLater (Cond.code yX6_errandsLater cX6_errandsLater 6 (some .int) :: wsL_law) (x_rm 1 24) (va_Pc [.ref (xad g 5), .int a1, .int a2, .int a3] (x_B g u)) (x_Qi g Qf) 0 0 (x_A g) := by
  refine Met.ofW (cc := cX6_errandsLater) (maxL := 6) (ret := (some .int)) (by decide) rfl ?_
  intro p e s m args below meth c s₁ B hml hv
  obtain ⟨rfl, hB⟩ := hv
  obtain ⟨C, hw⟩ := x_start B hml hD hB
  have hl := lv_entry [.ref (xad g 5), .int a1, .int a2, .int a3] (n := 6) (Nat.le_of_ble_eq_true rfl)
  rw [lg_entry_eq]
  exact s_X6_errandsLater C hX hw hl h
set_option maxHeartbeats 4000000 in
set_option maxRecDepth 100000 in
theorem s_X6_doorsOf_L4 {Qf : Int32 → xM → Prop} (C : x_C p s m args meth c g RX6 cX6_doorsOf 4 (some .int)) (hX : xpX g) : ∀ (nn : Nat) {v1 : Int32} {v2 : Int32} {v3 : Int32} {u : xM} {H : Heap} {locs : List Loc} {ls : Array Slot} (hw : x_W g s.heap H locs u) (hl : lv_has ls 4 [(0, .ref (xad g 5)), (1, .int v1), (2, .int v2), (3, .int v3)]) (h : p_X6_doorsOf_L4 Qf nn v1 v2 v3 u), W p l e (x_rm 0 0) s m args below meth c H locs 0 0 (MQ below (x_Qi g Qf) args s 0 0 (x_A g)) (F0 m 4 ls []) := by
  intro nn
  induction nn with
  | zero => intro v1 v2 v3 u H locs ls hw hl h; exact h.elim
  | succ nn ih =>
    intro v1 v2 v3 u H locs ls hw hl h
    unfold p_X6_doorsOf_L4 at h
    have hx := C.1
    have hb := C.2.1
    refine lv_iload_n hx hb dX6_doorsOf_4 rfl (lv_at hl 3 rfl) ?_
    refine lv_aload_n hx hb dX6_doorsOf_5 rfl (lv_at hl 0 rfl) ?_
    refine x_getr (ci := 6) C hw 0 (xoX_5 hX) rfl inlX6 (by decide) rfl rfl xrX_5_0 xw_111 dX6_doorsOf_6 ?_
    refine x_geti (ci := 1) C hw 2 (xoL_0 (xpL_137 hX)) rfl inlX1 (by decide) rfl rfl xw_1588 dX6_doorsOf_9 ?_
    refine lv_icmp_ge (tgt := 44) hx hb dX6_doorsOf_12 (by decide) (fun c1 => ?_) (fun c1 => ?_)
    · have h := h.1 c1
      refine lv_iload_n hx hb dX6_doorsOf_44 rfl (lv_at hl 2 rfl) ?_
      exact x_iret C hw h dX6_doorsOf_45
    · have h := h.2 c1
      refine lv_iload_n hx hb dX6_doorsOf_15 rfl (lv_at hl 1 rfl) ?_
      refine lv_iload_n hx hb dX6_doorsOf_16 rfl (lv_at hl 3 rfl) ?_
      refine lv_ishr hx hb dX6_doorsOf_17 ?_
      refine lv_iconst (v := 1) hx hb dX6_doorsOf_18 (by decide) ?_
      refine lv_iand hx hb dX6_doorsOf_19 ?_
      refine lv_iconst (v := 1) hx hb dX6_doorsOf_20 (by decide) ?_
      refine lv_icmp_ne (tgt := 38) hx hb dX6_doorsOf_21 (by decide) (fun c2 => ?_) (fun c2 => ?_)
      · have h := h.1 c2
        obtain ⟨x3, ex3⟩ : ∃ y : Int32, y = v3 + 1 := ⟨_, rfl⟩
        have h := h x3 ex3
        refine lv_iinc (v := x3) (lv' := [(3, .int x3), (0, .ref (xad g 5)), (1, .int v1), (2, .int v2)]) hx hb dX6_doorsOf_38 hl (k := 3) rfl (by rw [ex3]; rfl) (by decide) rfl (fun ls hl => ?_)
        refine lv_goto (tgt := 4) hx hb dX6_doorsOf_41 (by decide) ?_
        exact ih hw (lv_sub hl [1, 2, 3, 0] rfl) h
      · have h := h.2 c2
        refine lv_iload_n hx hb dX6_doorsOf_24 rfl (lv_at hl 2 rfl) ?_
        refine lv_iconst (v := 1) hx hb dX6_doorsOf_25 (by decide) ?_
        refine lv_aload_n hx hb dX6_doorsOf_26 rfl (lv_at hl 0 rfl) ?_
        refine x_getr (ci := 6) C hw 0 (xoX_5 hX) rfl inlX6 (by decide) rfl rfl xrX_5_0 xw_111 dX6_doorsOf_27 ?_
        refine x_getr (ci := 1) C hw 4 (xoL_0 (xpL_137 hX)) rfl inlX1 (by decide) rfl rfl (xrL_0_4 (xpL_137 hX)) xw_1623 dX6_doorsOf_30 ?_
        refine lv_iload_n hx hb dX6_doorsOf_33 rfl (lv_at hl 3 rfl) ?_
        have c4 := h.1
        have h := h.2
        refine x_iald C hw (xoL_18 (xpL_137 hX)) c4 dX6_doorsOf_34 ?_
        refine lv_ishl hx hb dX6_doorsOf_35 ?_
        refine lv_ior hx hb dX6_doorsOf_36 ?_
        refine lv_topi (fun x5 ex5 => ?_)
        have h := h x5 ex5
        refine lv_istore_n (lv' := [(2, .int x5), (0, .ref (xad g 5)), (1, .int v1), (3, .int v3)]) hx hb dX6_doorsOf_37 rfl hl (by decide) rfl (fun ls hl => ?_)
        obtain ⟨x6, ex6⟩ : ∃ y : Int32, y = v3 + 1 := ⟨_, rfl⟩
        have h := h x6 ex6
        refine lv_iinc (v := x6) (lv' := [(3, .int x6), (2, .int x5), (0, .ref (xad g 5)), (1, .int v1)]) hx hb dX6_doorsOf_38 hl (k := 3) rfl (by rw [ex6]; rfl) (by decide) rfl (fun ls hl => ?_)
        refine lv_goto (tgt := 4) hx hb dX6_doorsOf_41 (by decide) ?_
        exact ih hw (lv_sub hl [2, 3, 1, 0] rfl) h
set_option maxHeartbeats 4000000 in
set_option maxRecDepth 100000 in
theorem s_X6_doorsOf {Qf : Int32 → xM → Prop} {a1 : Int32} (C : x_C p s m args meth c g RX6 cX6_doorsOf 4 (some .int)) (hX : xpX g) {u : xM} {H : Heap} {locs : List Loc} {ls : Array Slot} (hw : x_W g s.heap H locs u) (hl : lv_has ls 4 [(0, .ref (xad g 5)), (1, .int a1)]) (h : p_X6_doorsOf a1 u Qf) : W p l e (x_rm 0 0) s m args below meth c H locs 0 0 (MQ below (x_Qi g Qf) args s 0 0 (x_A g)) (F0 m 0 ls []) := by
  unfold p_X6_doorsOf at h
  have hx := C.1
  have hb := C.2.1
  refine lv_iconst (v := 0) hx hb dX6_doorsOf_0 (by decide) ?_
  refine lv_istore_n (lv' := [(2, .int 0), (0, .ref (xad g 5)), (1, .int a1)]) hx hb dX6_doorsOf_1 rfl hl (by decide) rfl (fun ls hl => ?_)
  refine lv_iconst (v := 0) hx hb dX6_doorsOf_2 (by decide) ?_
  refine lv_istore_n (lv' := [(3, .int 0), (2, .int 0), (0, .ref (xad g 5)), (1, .int a1)]) hx hb dX6_doorsOf_3 rfl hl (by decide) rfl (fun ls hl => ?_)
  obtain ⟨n9, h⟩ := h
  exact s_X6_doorsOf_L4 C hX n9 hw (lv_sub hl [2, 3, 1, 0] rfl) h
set_option maxHeartbeats 4000000 in
set_option maxRecDepth 100000 in
theorem m_X6_doorsOf (l : Launch) {g : xG} (hD : x_D g) (hX : xpX g) {a1 : Int32} {u : xM} {Qf : Int32 → xM → Prop} (h : p_X6_doorsOf a1 u Qf) : Met l yX6_doorsOf (Cond.code yX6_doorsOf cX6_doorsOf 4 (some .int) :: wsL_law) (x_rm 0 0) (va_Pc [.ref (xad g 5), .int a1] (x_B g u)) (x_Qi g Qf) 0 0 (x_A g) := by
  refine Met.ofW (cc := cX6_doorsOf) (maxL := 4) (ret := (some .int)) (by decide) rfl ?_
  intro p e s m args below meth c s₁ B hml hv
  obtain ⟨rfl, hB⟩ := hv
  obtain ⟨C, hw⟩ := x_start B hml hD hB
  have hl := lv_entry [.ref (xad g 5), .int a1] (n := 4) (Nat.le_of_ble_eq_true rfl)
  rw [lg_entry_eq]
  exact s_X6_doorsOf C hX hw hl h
set_option maxHeartbeats 4000000 in
set_option maxRecDepth 100000 in
theorem s_X6_shiftOf {Qf : Int32 → xM → Prop} {a1 : Int32} (C : x_C p s m args meth c g RX6 cX6_shiftOf 1 (some .int)) {u : xM} {H : Heap} {locs : List Loc} {ls : Array Slot} (hw : x_W g s.heap H locs u) (hl : lv_has ls 1 [(0, .int a1)]) (h : p_X6_shiftOf a1 u Qf) : W p l e (x_rm 0 0) s m args below meth c H locs 0 0 (MQ below (x_Qi g Qf) args s 0 0 (x_A g)) (F0 m 0 ls []) := by
  unfold p_X6_shiftOf at h
  have hx := C.1
  have hb := C.2.1
  refine lv_iconst (v := 4) hx hb dX6_shiftOf_0 (by decide) ?_
  refine lv_iconst (v := 3) hx hb dX6_shiftOf_1 (by decide) ?_
  refine lv_iload_n hx hb dX6_shiftOf_2 rfl (lv_at hl 0 rfl) ?_
  refine lv_isub hx hb dX6_shiftOf_3 ?_
  refine lv_imul hx hb dX6_shiftOf_4 ?_
  exact x_iret C hw h dX6_shiftOf_5
set_option maxHeartbeats 4000000 in
set_option maxRecDepth 100000 in
theorem m_X6_shiftOf (l : Launch) {g : xG} (hD : x_D g) {a1 : Int32} {u : xM} {Qf : Int32 → xM → Prop} (h : p_X6_shiftOf a1 u Qf) : Met l yX6_shiftOf (Cond.code yX6_shiftOf cX6_shiftOf 1 (some .int) :: wsL_law) (x_rm 0 0) (va_Pc [.int a1] (x_B g u)) (x_Qi g Qf) 0 0 (x_A g) := by
  refine Met.ofW (cc := cX6_shiftOf) (maxL := 1) (ret := (some .int)) (by decide) rfl ?_
  intro p e s m args below meth c s₁ B hml hv
  obtain ⟨rfl, hB⟩ := hv
  obtain ⟨C, hw⟩ := x_start B hml hD hB
  have hl := lv_entry [.int a1] (n := 1) (Nat.le_of_ble_eq_true rfl)
  rw [lg_entry_eq]
  exact s_X6_shiftOf C hw hl h
set_option maxHeartbeats 4000000 in
set_option maxRecDepth 100000 in
theorem s_X6_hoursOf_L5 {Qf : Int32 → xM → Prop} (C : x_C p s m args meth c g RX6 cX6_hoursOf 5 (some .int)) (hX : xpX g) : ∀ (nn : Nat) {v1 : Int32} {v2 : Int32} {v3 : Int32} {v4 : Int32} {u : xM} {H : Heap} {locs : List Loc} {ls : Array Slot} (hw : x_W g s.heap H locs u) (hl : lv_has ls 5 [(0, .ref (xad g 5)), (1, .int v1), (2, .int v2), (3, .int v3), (4, .int v4)]) (h : p_X6_hoursOf_L5 Qf nn v1 v2 v3 v4 u), W p l e (x_rm 1 20) s m args below meth c H locs 0 0 (MQ below (x_Qi g Qf) args s 0 0 (x_A g)) (F0 m 5 ls []) := by
  intro nn
  induction nn with
  | zero => intro v1 v2 v3 v4 u H locs ls hw hl h; exact h.elim
  | succ nn ih =>
    intro v1 v2 v3 v4 u H locs ls hw hl h
    unfold p_X6_hoursOf_L5 at h
    have hx := C.1
    have hb := C.2.1
    refine lv_iload hx hb dX6_hoursOf_5 (lv_at hl 4 rfl) ?_
    refine lv_aload_n hx hb dX6_hoursOf_7 rfl (lv_at hl 0 rfl) ?_
    refine x_getr (ci := 6) C hw 0 (xoX_5 hX) rfl inlX6 (by decide) rfl rfl xrX_5_0 xw_111 dX6_hoursOf_8 ?_
    refine x_geti (ci := 1) C hw 2 (xoL_0 (xpL_137 hX)) rfl inlX1 (by decide) rfl rfl xw_1588 dX6_hoursOf_11 ?_
    refine lv_icmp_ge (tgt := 43) hx hb dX6_hoursOf_14 (by decide) (fun c1 => ?_) (fun c1 => ?_)
    · have h := h.1 c1
      refine lv_iload_n hx hb dX6_hoursOf_43 rfl (lv_at hl 3 rfl) ?_
      exact x_iret C hw h dX6_hoursOf_44
    · have h := h.2 c1
      refine lv_iload_n hx hb dX6_hoursOf_17 rfl (lv_at hl 1 rfl) ?_
      refine lv_iload hx hb dX6_hoursOf_18 (lv_at hl 4 rfl) ?_
      refine lv_ishr hx hb dX6_hoursOf_20 ?_
      refine lv_iconst (v := 1) hx hb dX6_hoursOf_21 (by decide) ?_
      refine lv_iand hx hb dX6_hoursOf_22 ?_
      refine lv_iconst (v := 1) hx hb dX6_hoursOf_23 (by decide) ?_
      refine lv_icmp_ne (tgt := 37) hx hb dX6_hoursOf_24 (by decide) (fun c2 => ?_) (fun c2 => ?_)
      · have h := h.1 c2
        obtain ⟨x3, ex3⟩ : ∃ y : Int32, y = v4 + 1 := ⟨_, rfl⟩
        have h := h x3 ex3
        refine lv_iinc (v := x3) (lv' := [(4, .int x3), (0, .ref (xad g 5)), (1, .int v1), (2, .int v2), (3, .int v3)]) hx hb dX6_hoursOf_37 hl (k := 4) rfl (by rw [ex3]; rfl) (by decide) rfl (fun ls hl => ?_)
        refine lv_goto (tgt := 5) hx hb dX6_hoursOf_40 (by decide) ?_
        exact ih hw (lv_sub hl [1, 2, 3, 4, 0] rfl) h
      · have h := h.2 c2
        refine lv_iload_n hx hb dX6_hoursOf_27 rfl (lv_at hl 3 rfl) ?_
        refine lv_iload_n hx hb dX6_hoursOf_28 rfl (lv_at hl 2 rfl) ?_
        refine lv_iload hx hb dX6_hoursOf_29 (lv_at hl 4 rfl) ?_
        refine x_calli hw (x_runS C hw (m_X6_shiftOf l C.2.2.2.2.2.2.2.2.1  h) (x_gS xw_1629 xw_1630 xw_24 xw_1631) rfl rfl qX6_shiftOf ⟨(Nat.le_of_ble_eq_true rfl), (Nat.le_of_ble_eq_true rfl)⟩ rfl hl.1 rfl (Nat.le_of_ble_eq_true rfl) dX6_hoursOf_31) (fun r5 u4 H locs hw h => ?_)
        refine lv_ishl hx hb dX6_hoursOf_34 ?_
        refine lv_ior hx hb dX6_hoursOf_35 ?_
        refine lv_topi (fun x6 ex6 => ?_)
        have h := h x6 ex6
        refine lv_istore_n (lv' := [(3, .int x6), (0, .ref (xad g 5)), (1, .int v1), (2, .int v2), (4, .int v4)]) hx hb dX6_hoursOf_36 rfl hl (by decide) rfl (fun ls hl => ?_)
        obtain ⟨x7, ex7⟩ : ∃ y : Int32, y = v4 + 1 := ⟨_, rfl⟩
        have h := h x7 ex7
        refine lv_iinc (v := x7) (lv' := [(4, .int x7), (3, .int x6), (0, .ref (xad g 5)), (1, .int v1), (2, .int v2)]) hx hb dX6_hoursOf_37 hl (k := 4) rfl (by rw [ex7]; rfl) (by decide) rfl (fun ls hl => ?_)
        refine lv_goto (tgt := 5) hx hb dX6_hoursOf_40 (by decide) ?_
        exact ih hw (lv_sub hl [2, 3, 4, 1, 0] rfl) h
set_option maxHeartbeats 4000000 in
set_option maxRecDepth 100000 in
theorem s_X6_hoursOf {Qf : Int32 → xM → Prop} {a1 : Int32} {a2 : Int32} (C : x_C p s m args meth c g RX6 cX6_hoursOf 5 (some .int)) (hX : xpX g) {u : xM} {H : Heap} {locs : List Loc} {ls : Array Slot} (hw : x_W g s.heap H locs u) (hl : lv_has ls 5 [(0, .ref (xad g 5)), (1, .int a1), (2, .int a2)]) (h : p_X6_hoursOf a1 a2 u Qf) : W p l e (x_rm 1 20) s m args below meth c H locs 0 0 (MQ below (x_Qi g Qf) args s 0 0 (x_A g)) (F0 m 0 ls []) := by
  unfold p_X6_hoursOf at h
  have hx := C.1
  have hb := C.2.1
  refine lv_iconst (v := 0) hx hb dX6_hoursOf_0 (by decide) ?_
  refine lv_istore_n (lv' := [(3, .int 0), (0, .ref (xad g 5)), (1, .int a1), (2, .int a2)]) hx hb dX6_hoursOf_1 rfl hl (by decide) rfl (fun ls hl => ?_)
  refine lv_iconst (v := 0) hx hb dX6_hoursOf_2 (by decide) ?_
  refine lv_istore (lv' := [(4, .int 0), (3, .int 0), (0, .ref (xad g 5)), (1, .int a1), (2, .int a2)]) hx hb dX6_hoursOf_3 hl (by decide) rfl (fun ls hl => ?_)
  obtain ⟨n9, h⟩ := h
  exact s_X6_hoursOf_L5 C hX n9 hw (lv_sub hl [2, 3, 4, 1, 0] rfl) h
set_option maxHeartbeats 4000000 in
set_option maxRecDepth 100000 in
theorem m_X6_hoursOf (l : Launch) {g : xG} (hD : x_D g) (hX : xpX g) {a1 : Int32} {a2 : Int32} {u : xM} {Qf : Int32 → xM → Prop} (h : p_X6_hoursOf a1 a2 u Qf) : Met l yX6_hoursOf (Cond.code yX6_hoursOf cX6_hoursOf 5 (some .int) :: wsL_law) (x_rm 1 20) (va_Pc [.ref (xad g 5), .int a1, .int a2] (x_B g u)) (x_Qi g Qf) 0 0 (x_A g) := by
  refine Met.ofW (cc := cX6_hoursOf) (maxL := 5) (ret := (some .int)) (by decide) rfl ?_
  intro p e s m args below meth c s₁ B hml hv
  obtain ⟨rfl, hB⟩ := hv
  obtain ⟨C, hw⟩ := x_start B hml hD hB
  have hl := lv_entry [.ref (xad g 5), .int a1, .int a2] (n := 5) (Nat.le_of_ble_eq_true rfl)
  rw [lg_entry_eq]
  exact s_X6_hoursOf C hX hw hl h
set_option maxHeartbeats 4000000 in
set_option maxRecDepth 100000 in
theorem s_X6_takeWaterBack {Qf : xM → Prop} {a1 : Int32} (C : x_C p s m args meth c g RX6 cX6_takeWaterBack 2 none) (hX : xpX g) {u : xM} {H : Heap} {locs : List Loc} {ls : Array Slot} (hw : x_W g s.heap H locs u) (hl : lv_has ls 2 [(0, .ref (xad g 5)), (1, .int a1)]) (h : p_X6_takeWaterBack a1 u Qf) : W p l e (x_rm 1 80) s m args below meth c H locs 0 0 (MQ below (x_Qv g Qf) args s 0 0 (x_A g)) (F0 m 0 ls []) := by
  unfold p_X6_takeWaterBack at h
  have hx := C.1
  have hb := C.2.1
  refine lv_aload_n hx hb dX6_takeWaterBack_0 rfl (lv_at hl 0 rfl) ?_
  refine x_getr (ci := 6) C hw 2 (xoX_5 hX) rfl inlX6 (by decide) rfl rfl xrX_5_2 xw_114 dX6_takeWaterBack_1 ?_
  refine lv_iload_n hx hb dX6_takeWaterBack_4 rfl (lv_at hl 1 rfl) ?_
  have c1 := h.1
  have h := h.2
  refine x_aald C hw (xoX_17 hX) (by decide) (by decide) c1 (xa_17 c1) dX6_takeWaterBack_5 ?_
  refine lv_iconst (v := 0) hx hb dX6_takeWaterBack_6 (by decide) ?_
  refine lv_aload_n hx hb dX6_takeWaterBack_7 rfl (lv_at hl 0 rfl) ?_
  refine x_getr (ci := 6) C hw 0 (xoX_5 hX) rfl inlX6 (by decide) rfl rfl xrX_5_0 xw_111 dX6_takeWaterBack_8 ?_
  refine x_getr (ci := 1) C hw 0 (xoL_0 (xpL_137 hX)) rfl inlX1 (by decide) rfl rfl (xrL_0_0 (xpL_137 hX)) xw_1599 dX6_takeWaterBack_11 ?_
  refine x_getr (ci := 7) C hw 7 (xoL_1 (xpL_137 hX)) rfl inlX7 (by decide) rfl rfl (xrL_1_7 (xpL_137 hX)) xw_1606 dX6_takeWaterBack_14 ?_
  refine lv_iconst (v := 0) hx hb dX6_takeWaterBack_17 (by decide) ?_
  refine lv_bipush (v := 7) hx hb dX6_takeWaterBack_18 (by decide) ?_
  obtain ⟨u2, eu2⟩ : ∃ q : xM, q = cpi u (18 + a1.toNatClampNeg) 0 144 0 7 := ⟨_, rfl⟩
  have h := h u2 eu2
  refine x_cpyi C hl.1 xw_1607 hw (xok_17 hX c1) (xoL_7 (xpL_137 hX)) ⟨by decide, by decide, by decide, by decide, by decide⟩ (Nat.le_of_ble_eq_true rfl) (Nat.le_of_ble_eq_true rfl) dX6_takeWaterBack_20 eu2 (fun H locs hw => ?_)
  refine lv_aload_n hx hb dX6_takeWaterBack_23 rfl (lv_at hl 0 rfl) ?_
  refine x_getr (ci := 6) C hw 0 (xoX_5 hX) rfl inlX6 (by decide) rfl rfl xrX_5_0 xw_111 dX6_takeWaterBack_24 ?_
  refine x_getr (ci := 1) C hw 0 (xoL_0 (xpL_137 hX)) rfl inlX1 (by decide) rfl rfl (xrL_0_0 (xpL_137 hX)) xw_1599 dX6_takeWaterBack_27 ?_
  refine lv_aload_n hx hb dX6_takeWaterBack_30 rfl (lv_at hl 0 rfl) ?_
  refine x_getr (ci := 6) C hw 3 (xoX_5 hX) rfl inlX6 (by decide) rfl rfl xrX_5_3 xw_115 dX6_takeWaterBack_31 ?_
  refine lv_iload_n hx hb dX6_takeWaterBack_34 rfl (lv_at hl 1 rfl) ?_
  have c3 := h.1
  have h := h.2
  refine x_iald C hw (xoX_30 hX) c3 dX6_takeWaterBack_35 ?_
  obtain ⟨u4, eu4⟩ : ∃ q : xM, q = si u2 138 1 (gi u2 30 a1.toNatClampNeg) := ⟨_, rfl⟩
  have h := h u4 eu4
  refine x_puti (ci := 7) (ty := .int) C hw 1 (xoL_1 (xpL_137 hX)) rfl inlX7 tyX7_ok nmX7 (by decide) rfl rfl xw_1600 rfl (by decide +kernel) rfl rfl dX6_takeWaterBack_36 eu4 (fun H locs hw => ?_)
  refine lv_aload_n hx hb dX6_takeWaterBack_39 rfl (lv_at hl 0 rfl) ?_
  refine x_getr (ci := 6) C hw 0 (xoX_5 hX) rfl inlX6 (by decide) rfl rfl xrX_5_0 xw_111 dX6_takeWaterBack_40 ?_
  refine lv_dup hx hb dX6_takeWaterBack_43 rfl ?_
  refine x_geti (ci := 1) C hw 8 (xoL_0 (xpL_137 hX)) rfl inlX1 (by decide) rfl rfl xw_1636 dX6_takeWaterBack_44 ?_
  refine lv_iconst (v := 1) hx hb dX6_takeWaterBack_47 (by decide) ?_
  refine lv_isub hx hb dX6_takeWaterBack_48 ?_
  obtain ⟨u5, eu5⟩ : ∃ q : xM, q = si u4 137 8 ((gi u4 137 8) - (1 : Int32)) := ⟨_, rfl⟩
  have h := h u5 eu5
  refine x_puti (ci := 1) (ty := .int) C hw 8 (xoL_0 (xpL_137 hX)) rfl inlX1 tyX1_ok nmX1 (by decide) rfl rfl xw_1636 rfl (by decide +kernel) rfl rfl dX6_takeWaterBack_49 eu5 (fun H locs hw => ?_)
  exact x_vret C hw h dX6_takeWaterBack_52
set_option maxHeartbeats 4000000 in
set_option maxRecDepth 100000 in
theorem m_X6_takeWaterBack (l : Launch) {g : xG} (hD : x_D g) (hX : xpX g) {a1 : Int32} {u : xM} {Qf : xM → Prop} (h : p_X6_takeWaterBack a1 u Qf) : Met l yX6_takeWaterBack (Cond.code yX6_takeWaterBack cX6_takeWaterBack 2 none :: wsL_law) (x_rm 1 80) (va_Pc [.ref (xad g 5), .int a1] (x_B g u)) (x_Qv g Qf) 0 0 (x_A g) := by
  refine Met.ofW (cc := cX6_takeWaterBack) (maxL := 2) (ret := none) (by decide) rfl ?_
  intro p e s m args below meth c s₁ B hml hv
  obtain ⟨rfl, hB⟩ := hv
  obtain ⟨C, hw⟩ := x_start B hml hD hB
  have hl := lv_entry [.ref (xad g 5), .int a1] (n := 2) (Nat.le_of_ble_eq_true rfl)
  rw [lg_entry_eq]
  exact s_X6_takeWaterBack C hX hw hl h
end
