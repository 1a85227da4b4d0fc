section
variable {p : Program} {l : Launch} {e : Env} {s : State} {m : MethodId} {args : Array Value} {below : List Frame} {meth : Method} {c : Code} {g : xG}
set_option maxHeartbeats 4000000 in
set_option maxRecDepth 100000 in
theorem s_X2_readAll_L18 {Qf : Bool → xM → Prop} (C : x_C p s m args meth c g RX2 cX2_readAll 4 (some .boolean)) (hX : xpX g) : ∀ (nn : Nat) {v3 : Int32} {u : xM} {H : Heap} {locs : List Loc} {ls : Array Slot} (hw : x_W g s.heap H locs u) (hl : lv_has ls 4 [(0, .ref (xad g 31)), (3, .int v3)]) (h : p_X2_readAll_L18 Qf nn v3 u), W p l e (x_rm 6 138) s m args below meth c H locs 0 0 (MQ below (x_Qz g Qf) args s 0 0 (x_A g)) (F0 m 18 ls []) := by
  intro nn
  induction nn with
  | zero => intro v3 u H locs ls hw hl h; exact h.elim
  | succ nn ih =>
    intro v3 u H locs ls hw hl h
    unfold p_X2_readAll_L18 at h
    have hx := C.1
    have hb := C.2.1
    refine lv_iload_n hx hb dX2_readAll_18 rfl (lv_at hl 1 rfl) ?_
    refine lv_sipush (v := 900) hx hb dX2_readAll_19 (by decide) ?_
    refine lv_icmp_gt (tgt := 50) hx hb dX2_readAll_22 (by decide) (fun c1 => ?_) (fun c1 => ?_)
    · have h := h.1 c1
      refine lv_iconst (v := 1) hx hb dX2_readAll_50 (by decide) ?_
      exact x_zret true C hw h rfl dX2_readAll_51
    · have h := h.2 c1
      refine lv_aload_n hx hb dX2_readAll_25 rfl (lv_at hl 0 rfl) ?_
      refine x_getr (ci := 2) C hw 0 (xoX_31 hX) rfl inlX2 (by decide) rfl rfl xrX_31_0 xw_123 dX2_readAll_26 ?_
      refine x_callz hw (x_runV (ci := 8) C hw (m_X8_isAtEnd l C.2.2.2.2.2.2.2.2.1 (xpT_34 hX) h) (xoT_0 (xpT_34 hX)) rfl (x_gV xw_478 xw_479 xw_480 xw_122 xw_481) rfl rfl qX8_isAtEnd ⟨(Nat.le_of_ble_eq_true rfl), (Nat.le_of_ble_eq_true rfl)⟩ rfl hl.1 rfl (Nat.le_of_ble_eq_true rfl) dX2_readAll_29) (fun r3 u2 H locs hw h => ?_)
      refine lv_if_ne (tgt := 50) hx hb dX2_readAll_32 (by decide) (fun c4 => ?_) (fun c4 => ?_)
      · have h := h.1 (xb_t c4)
        refine lv_iconst (v := 1) hx hb dX2_readAll_50 (by decide) ?_
        exact x_zret true C hw h rfl dX2_readAll_51
      · have h := h.2 (xb_f c4)
        refine lv_aload_n hx hb dX2_readAll_35 rfl (lv_at hl 0 rfl) ?_
        refine x_callz hw (x_runV (ci := 2) C hw (m_X2_readPart l C.2.2.2.2.2.2.2.2.1 hX h) (xoX_31 hX) rfl (x_gV xw_482 xw_483 xw_484 xw_28 xw_485) rfl rfl qX2_readPart ⟨(Nat.le_of_ble_eq_true rfl), (Nat.le_of_ble_eq_true rfl)⟩ rfl hl.1 rfl (Nat.le_of_ble_eq_true rfl) dX2_readAll_36) (fun r6 u5 H locs hw h => ?_)
        refine lv_if_ne (tgt := 44) hx hb dX2_readAll_39 (by decide) (fun c7 => ?_) (fun c7 => ?_)
        · have h := h.1 (xb_t c7)
          obtain ⟨x8, ex8⟩ : ∃ y : Int32, y = v3 + 1 := ⟨_, rfl⟩
          have h := h x8 ex8
          refine lv_iinc (v := x8) (lv' := [(3, .int x8), (0, .ref (xad g 31))]) hx hb dX2_readAll_44 hl (k := 1) rfl (by rw [ex8]; rfl) (by decide) rfl (fun ls hl => ?_)
          refine lv_goto (tgt := 18) hx hb dX2_readAll_47 (by decide) ?_
          exact ih hw (lv_sub hl [1, 0] rfl) h
        · have h := h.2 (xb_f c7)
          refine lv_iconst (v := 0) hx hb dX2_readAll_42 (by decide) ?_
          exact x_zret false C hw h rfl dX2_readAll_43
set_option maxHeartbeats 4000000 in
set_option maxRecDepth 100000 in
theorem s_X2_readAll {Qf : Bool → xM → Prop} {a2 : Int32} (C : x_C p s m args meth c g RX2 cX2_readAll 4 (some .boolean)) (hX : xpX g) {u : xM} {H : Heap} {locs : List Loc} {ls : Array Slot} (hw : x_W g s.heap H locs u) (hl : lv_has ls 4 [(0, .ref (xad g 31)), (1, .ref (xad g 4)), (2, .int a2)]) (h : p_X2_readAll a2 u Qf) : W p l e (x_rm 6 138) s m args below meth c H locs 0 0 (MQ below (x_Qz g Qf) args s 0 0 (x_A g)) (F0 m 0 ls []) := by
  unfold p_X2_readAll at h
  have hx := C.1
  have hb := C.2.1
  refine lv_aload_n hx hb dX2_readAll_0 rfl (lv_at hl 0 rfl) ?_
  refine x_getr (ci := 2) C hw 1 (xoX_31 hX) rfl inlX2 (by decide) rfl rfl xrX_31_1 xw_125 dX2_readAll_1 ?_
  refine x_callv hw (x_runV (ci := 1) C hw (m_X1_clear l C.2.2.2.2.2.2.2.2.1 (xpL_164 hX) h) (xoL_0 (xpL_164 hX)) rfl (x_gV xw_404 xw_405 xw_406 xw_15 xw_407) rfl rfl qX1_clear ⟨(Nat.le_of_ble_eq_true rfl), (Nat.le_of_ble_eq_true rfl)⟩ rfl hl.1 rfl (Nat.le_of_ble_eq_true rfl) dX2_readAll_4) (fun u1 H locs hw h => ?_)
  refine lv_aload_n hx hb dX2_readAll_7 rfl (lv_at hl 0 rfl) ?_
  refine x_getr (ci := 2) C hw 0 (xoX_31 hX) rfl inlX2 (by decide) rfl rfl xrX_31_0 xw_123 dX2_readAll_8 ?_
  refine lv_aload_n hx hb dX2_readAll_11 rfl (lv_at hl 1 rfl) ?_
  refine lv_iload_n hx hb dX2_readAll_12 rfl (lv_at hl 2 rfl) ?_
  refine x_callv hw (x_runV (ci := 8) C hw (m_X8_begin l C.2.2.2.2.2.2.2.2.1 (xpT_34 hX) hX h) (xoT_0 (xpT_34 hX)) rfl (x_gV xw_427 xw_428 xw_429 xw_122 xw_430) rfl rfl qX8_begin ⟨(Nat.le_of_ble_eq_true rfl), (Nat.le_of_ble_eq_true rfl)⟩ rfl hl.1 rfl (Nat.le_of_ble_eq_true rfl) dX2_readAll_13) (fun u2 H locs hw h => ?_)
  refine lv_iconst (v := 0) hx hb dX2_readAll_16 (by decide) ?_
  refine lv_istore_n (lv' := [(3, .int 0), (0, .ref (xad g 31)), (1, .ref (xad g 4)), (2, .int a2)]) hx hb dX2_readAll_17 rfl hl (by decide) rfl (fun ls hl => ?_)
  obtain ⟨n9, h⟩ := h
  exact s_X2_readAll_L18 C hX n9 hw (lv_sub hl [1, 0] rfl) h
set_option maxHeartbeats 4000000 in
set_option maxRecDepth 100000 in
theorem m_X2_readAll (l : Launch) {g : xG} (hD : x_D g) (hX : xpX g) {a2 : Int32} {u : xM} {Qf : Bool → xM → Prop} (h : p_X2_readAll a2 u Qf) : Met l yX2_readAll (Cond.code yX2_readAll cX2_readAll 4 (some .boolean) :: wsL_law) (x_rm 6 138) (va_Pc [.ref (xad g 31), .ref (xad g 4), .int a2] (x_B g u)) (x_Qz g Qf) 0 0 (x_A g) := by
  refine Met.ofW (cc := cX2_readAll) (maxL := 4) (ret := (some .boolean)) (by decide) rfl ?_
  intro p e s m args below meth c s₁ B hml hv
  obtain ⟨rfl, hB⟩ := hv
  obtain ⟨C, hw⟩ := x_start B hml hD hB
  have hl := lv_entry [.ref (xad g 31), .ref (xad g 4), .int a2] (n := 4) (Nat.le_of_ble_eq_true rfl)
  rw [lg_entry_eq]
  exact s_X2_readAll C hX hw hl h
set_option maxHeartbeats 4000000 in
set_option maxRecDepth 100000 in
theorem s_X10_emptyTape {o1 : Nat} {Qf : xM → Prop} (C : x_C p s m args meth c g RX10 cX10_emptyTape 2 none) (hX : xpX g) (ho1 : xpT g o1) {u : xM} {H : Heap} {locs : List Loc} {ls : Array Slot} (hw : x_W g s.heap H locs u) (hl : lv_has ls 2 [(0, .ref (xad g 0)), (1, .ref (xad g o1))]) (h : p_X10_emptyTape o1 u Qf) : W p l e (x_rm 0 0) s m args below meth c H locs 0 0 (MQ below (x_Qv g Qf) args s 0 0 (x_A g)) (F0 m 0 ls []) := by
  unfold p_X10_emptyTape at h
  have hx := C.1
  have hb := C.2.1
  refine lv_aload_n hx hb dX10_emptyTape_0 rfl (lv_at hl 0 rfl) ?_
  refine lv_iconst (v := 0) hx hb dX10_emptyTape_1 (by decide) ?_
  obtain ⟨u1, eu1⟩ : ∃ q : xM, q = si u 0 13 (0 : Int32) := ⟨_, rfl⟩
  have h := h u1 eu1
  refine x_puti (ci := 10) (ty := .int) C hw 13 (xoX_0 hX) rfl inlX10 tyX10_ok nmX10 (by decide) rfl rfl xw_378 rfl (by decide +kernel) rfl rfl dX10_emptyTape_2 eu1 (fun H locs hw => ?_)
  refine lv_aload_n hx hb dX10_emptyTape_5 rfl (lv_at hl 0 rfl) ?_
  refine lv_aload_n hx hb dX10_emptyTape_6 rfl (lv_at hl 1 rfl) ?_
  refine x_geti (ci := 8) C hw 14 (xoT_0 ho1) rfl inlX8 (by decide) rfl rfl xw_598 dX10_emptyTape_7 ?_
  obtain ⟨u2, eu2⟩ : ∃ q : xM, q = si u1 0 17 (gi u1 o1 14) := ⟨_, rfl⟩
  have h := h u2 eu2
  refine x_puti (ci := 10) (ty := .int) C hw 17 (xoX_0 hX) rfl inlX10 tyX10_ok nmX10 (by decide) rfl rfl xw_47 rfl (by decide +kernel) rfl rfl dX10_emptyTape_10 eu2 (fun H locs hw => ?_)
  refine lv_aload_n hx hb dX10_emptyTape_13 rfl (lv_at hl 0 rfl) ?_
  refine lv_aload_n hx hb dX10_emptyTape_14 rfl (lv_at hl 1 rfl) ?_
  refine x_geti (ci := 8) C hw 15 (xoT_0 ho1) rfl inlX8 (by decide) rfl rfl xw_599 dX10_emptyTape_15 ?_
  obtain ⟨u3, eu3⟩ : ∃ q : xM, q = si u2 0 18 (gi u2 o1 15) := ⟨_, rfl⟩
  have h := h u3 eu3
  refine x_puti (ci := 10) (ty := .int) C hw 18 (xoX_0 hX) rfl inlX10 tyX10_ok nmX10 (by decide) rfl rfl xw_48 rfl (by decide +kernel) rfl rfl dX10_emptyTape_18 eu3 (fun H locs hw => ?_)
  exact x_vret C hw h dX10_emptyTape_21
set_option maxHeartbeats 4000000 in
set_option maxRecDepth 100000 in
theorem m_X10_emptyTape (l : Launch) {g : xG} (hD : x_D g) {o1 : Nat} (hX : xpX g) (ho1 : xpT g o1) {u : xM} {Qf : xM → Prop} (h : p_X10_emptyTape o1 u Qf) : Met l yX10_emptyTape (Cond.code yX10_emptyTape cX10_emptyTape 2 none :: wsL_law) (x_rm 0 0) (va_Pc [.ref (xad g 0), .ref (xad g o1)] (x_B g u)) (x_Qv g Qf) 0 0 (x_A g) := by
  refine Met.ofW (cc := cX10_emptyTape) (maxL := 2) (ret := none) (by decide) rfl ?_
  intro p e s m args below meth c s₁ B hml hv
  obtain ⟨rfl, hB⟩ := hv
  obtain ⟨C, hw⟩ := x_start B hml hD hB
  have hl := lv_entry [.ref (xad g 0), .ref (xad g o1)] (n := 2) (Nat.le_of_ble_eq_true rfl)
  rw [lg_entry_eq]
  exact s_X10_emptyTape C hX ho1 hw hl h
set_option maxHeartbeats 4000000 in
set_option maxRecDepth 100000 in
theorem s_X7_copyFrom {o : Nat} {o1 : Nat} {Qf : xM → Prop} (C : x_C p s m args meth c g RX7 cX7_copyFrom 2 none) (ho : xpL g o) (ho1 : xpL g o1) {u : xM} {H : Heap} {locs : List Loc} {ls : Array Slot} (hw : x_W g s.heap H locs u) (hl : lv_has ls 2 [(0, .ref (xad g (o + 1))), (1, .ref (xad g (o1 + 1)))]) (h : p_X7_copyFrom o o1 u Qf) : W p l e (x_rm 1 80) s m args below meth c H locs 0 0 (MQ below (x_Qv g Qf) args s 0 0 (x_A g)) (F0 m 0 ls []) := by
  unfold p_X7_copyFrom at h
  have hx := C.1
  have hb := C.2.1
  refine lv_aload_n hx hb dX7_copyFrom_0 rfl (lv_at hl 0 rfl) ?_
  refine lv_aload_n hx hb dX7_copyFrom_1 rfl (lv_at hl 1 rfl) ?_
  refine x_geti (ci := 7) C hw 0 (xoL_1 ho1) rfl inlX7 (by decide) rfl rfl xw_414 dX7_copyFrom_2 ?_
  obtain ⟨u1, eu1⟩ : ∃ q : xM, q = si u (o + 1) 0 (gi u (o1 + 1) 0) := ⟨_, rfl⟩
  have h := h u1 eu1
  refine x_puti (ci := 7) (ty := .int) C hw 0 (xoL_1 ho) rfl inlX7 tyX7_ok nmX7 (by decide) rfl rfl xw_414 rfl (by decide +kernel) rfl rfl dX7_copyFrom_5 eu1 (fun H locs hw => ?_)
  refine lv_aload_n hx hb dX7_copyFrom_8 rfl (lv_at hl 0 rfl) ?_
  refine lv_aload_n hx hb dX7_copyFrom_9 rfl (lv_at hl 1 rfl) ?_
  refine x_geti (ci := 7) C hw 1 (xoL_1 ho1) rfl inlX7 (by decide) rfl rfl xw_415 dX7_copyFrom_10 ?_
  obtain ⟨u2, eu2⟩ : ∃ q : xM, q = si u1 (o + 1) 1 (gi u1 (o1 + 1) 1) := ⟨_, rfl⟩
  have h := h u2 eu2
  refine x_puti (ci := 7) (ty := .int) C hw 1 (xoL_1 ho) rfl inlX7 tyX7_ok nmX7 (by decide) rfl rfl xw_415 rfl (by decide +kernel) rfl rfl dX7_copyFrom_13 eu2 (fun H locs hw => ?_)
  refine lv_aload_n hx hb dX7_copyFrom_16 rfl (lv_at hl 1 rfl) ?_
  refine x_getr (ci := 7) C hw 2 (xoL_1 ho1) rfl inlX7 (by decide) rfl rfl (xrL_1_2 ho1) xw_79 dX7_copyFrom_17 ?_
  refine lv_iconst (v := 0) hx hb dX7_copyFrom_20 (by decide) ?_
  refine lv_aload_n hx hb dX7_copyFrom_21 rfl (lv_at hl 0 rfl) ?_
  refine x_getr (ci := 7) C hw 2 (xoL_1 ho) rfl inlX7 (by decide) rfl rfl (xrL_1_2 ho) xw_79 dX7_copyFrom_22 ?_
  refine lv_iconst (v := 0) hx hb dX7_copyFrom_25 (by decide) ?_
  refine lv_bipush (v := 7) hx hb dX7_copyFrom_26 (by decide) ?_
  obtain ⟨u3, eu3⟩ : ∃ q : xM, q = cpl u2 (o1 + 2) 0 (o + 2) 0 7 := ⟨_, rfl⟩
  have h := h u3 eu3
  refine x_cpyl C hl.1 xw_609 hw (xoL_2 ho1) (xoL_2 ho) ⟨by decide, by decide, by decide, by decide, by decide⟩ (Nat.le_of_ble_eq_true rfl) (Nat.le_of_ble_eq_true rfl) dX7_copyFrom_28 eu3 (fun H locs hw => ?_)
  refine lv_aload_n hx hb dX7_copyFrom_31 rfl (lv_at hl 1 rfl) ?_
  refine x_getr (ci := 7) C hw 3 (xoL_1 ho1) rfl inlX7 (by decide) rfl rfl (xrL_1_3 ho1) xw_80 dX7_copyFrom_32 ?_
  refine lv_iconst (v := 0) hx hb dX7_copyFrom_35 (by decide) ?_
  refine lv_aload_n hx hb dX7_copyFrom_36 rfl (lv_at hl 0 rfl) ?_
  refine x_getr (ci := 7) C hw 3 (xoL_1 ho) rfl inlX7 (by decide) rfl rfl (xrL_1_3 ho) xw_80 dX7_copyFrom_37 ?_
  refine lv_iconst (v := 0) hx hb dX7_copyFrom_40 (by decide) ?_
  refine lv_bipush (v := 7) hx hb dX7_copyFrom_41 (by decide) ?_
  obtain ⟨u4, eu4⟩ : ∃ q : xM, q = cpi u3 (o1 + 3) 0 (o + 3) 0 7 := ⟨_, rfl⟩
  have h := h u4 eu4
  refine x_cpyi C hl.1 xw_609 hw (xoL_3 ho1) (xoL_3 ho) ⟨by decide, by decide, by decide, by decide, by decide⟩ (Nat.le_of_ble_eq_true rfl) (Nat.le_of_ble_eq_true rfl) dX7_copyFrom_43 eu4 (fun H locs hw => ?_)
  refine lv_aload_n hx hb dX7_copyFrom_46 rfl (lv_at hl 1 rfl) ?_
  refine x_getr (ci := 7) C hw 4 (xoL_1 ho1) rfl inlX7 (by decide) rfl rfl (xrL_1_4 ho1) xw_81 dX7_copyFrom_47 ?_
  refine lv_iconst (v := 0) hx hb dX7_copyFrom_50 (by decide) ?_
  refine lv_aload_n hx hb dX7_copyFrom_51 rfl (lv_at hl 0 rfl) ?_
  refine x_getr (ci := 7) C hw 4 (xoL_1 ho) rfl inlX7 (by decide) rfl rfl (xrL_1_4 ho) xw_81 dX7_copyFrom_52 ?_
  refine lv_iconst (v := 0) hx hb dX7_copyFrom_55 (by decide) ?_
  refine lv_bipush (v := 7) hx hb dX7_copyFrom_56 (by decide) ?_
  obtain ⟨u5, eu5⟩ : ∃ q : xM, q = cpi u4 (o1 + 4) 0 (o + 4) 0 7 := ⟨_, rfl⟩
  have h := h u5 eu5
  refine x_cpyi C hl.1 xw_609 hw (xoL_4 ho1) (xoL_4 ho) ⟨by decide, by decide, by decide, by decide, by decide⟩ (Nat.le_of_ble_eq_true rfl) (Nat.le_of_ble_eq_true rfl) dX7_copyFrom_58 eu5 (fun H locs hw => ?_)
  refine lv_aload_n hx hb dX7_copyFrom_61 rfl (lv_at hl 1 rfl) ?_
  refine x_getr (ci := 7) C hw 5 (xoL_1 ho1) rfl inlX7 (by decide) rfl rfl (xrL_1_5 ho1) xw_82 dX7_copyFrom_62 ?_
  refine lv_iconst (v := 0) hx hb dX7_copyFrom_65 (by decide) ?_
  refine lv_aload_n hx hb dX7_copyFrom_66 rfl (lv_at hl 0 rfl) ?_
  refine x_getr (ci := 7) C hw 5 (xoL_1 ho) rfl inlX7 (by decide) rfl rfl (xrL_1_5 ho) xw_82 dX7_copyFrom_67 ?_
  refine lv_iconst (v := 0) hx hb dX7_copyFrom_70 (by decide) ?_
  refine lv_bipush (v := 7) hx hb dX7_copyFrom_71 (by decide) ?_
  obtain ⟨u6, eu6⟩ : ∃ q : xM, q = cpi u5 (o1 + 5) 0 (o + 5) 0 7 := ⟨_, rfl⟩
  have h := h u6 eu6
  refine x_cpyi C hl.1 xw_609 hw (xoL_5 ho1) (xoL_5 ho) ⟨by decide, by decide, by decide, by decide, by decide⟩ (Nat.le_of_ble_eq_true rfl) (Nat.le_of_ble_eq_true rfl) dX7_copyFrom_73 eu6 (fun H locs hw => ?_)
  refine lv_aload_n hx hb dX7_copyFrom_76 rfl (lv_at hl 1 rfl) ?_
  refine x_getr (ci := 7) C hw 6 (xoL_1 ho1) rfl inlX7 (by decide) rfl rfl (xrL_1_6 ho1) xw_83 dX7_copyFrom_77 ?_
  refine lv_iconst (v := 0) hx hb dX7_copyFrom_80 (by decide) ?_
  refine lv_aload_n hx hb dX7_copyFrom_81 rfl (lv_at hl 0 rfl) ?_
  refine x_getr (ci := 7) C hw 6 (xoL_1 ho) rfl inlX7 (by decide) rfl rfl (xrL_1_6 ho) xw_83 dX7_copyFrom_82 ?_
  refine lv_iconst (v := 0) hx hb dX7_copyFrom_85 (by decide) ?_
  refine lv_bipush (v := 7) hx hb dX7_copyFrom_86 (by decide) ?_
  obtain ⟨u7, eu7⟩ : ∃ q : xM, q = cpi u6 (o1 + 6) 0 (o + 6) 0 7 := ⟨_, rfl⟩
  have h := h u7 eu7
  refine x_cpyi C hl.1 xw_609 hw (xoL_6 ho1) (xoL_6 ho) ⟨by decide, by decide, by decide, by decide, by decide⟩ (Nat.le_of_ble_eq_true rfl) (Nat.le_of_ble_eq_true rfl) dX7_copyFrom_88 eu7 (fun H locs hw => ?_)
  refine lv_aload_n hx hb dX7_copyFrom_91 rfl (lv_at hl 1 rfl) ?_
  refine x_getr (ci := 7) C hw 7 (xoL_1 ho1) rfl inlX7 (by decide) rfl rfl (xrL_1_7 ho1) xw_84 dX7_copyFrom_92 ?_
  refine lv_iconst (v := 0) hx hb dX7_copyFrom_95 (by decide) ?_
  refine lv_aload_n hx hb dX7_copyFrom_96 rfl (lv_at hl 0 rfl) ?_
  refine x_getr (ci := 7) C hw 7 (xoL_1 ho) rfl inlX7 (by decide) rfl rfl (xrL_1_7 ho) xw_84 dX7_copyFrom_97 ?_
  refine lv_iconst (v := 0) hx hb dX7_copyFrom_100 (by decide) ?_
  refine lv_bipush (v := 7) hx hb dX7_copyFrom_101 (by decide) ?_
  obtain ⟨u8, eu8⟩ : ∃ q : xM, q = cpi u7 (o1 + 7) 0 (o + 7) 0 7 := ⟨_, rfl⟩
  have h := h u8 eu8
  refine x_cpyi C hl.1 xw_609 hw (xoL_7 ho1) (xoL_7 ho) ⟨by decide, by decide, by decide, by decide, by decide⟩ (Nat.le_of_ble_eq_true rfl) (Nat.le_of_ble_eq_true rfl) dX7_copyFrom_103 eu8 (fun H locs hw => ?_)
  refine lv_aload_n hx hb dX7_copyFrom_106 rfl (lv_at hl 1 rfl) ?_
  refine x_getr (ci := 7) C hw 8 (xoL_1 ho1) rfl inlX7 (by decide) rfl rfl (xrL_1_8 ho1) xw_85 dX7_copyFrom_107 ?_
  refine lv_iconst (v := 0) hx hb dX7_copyFrom_110 (by decide) ?_
  refine lv_aload_n hx hb dX7_copyFrom_111 rfl (lv_at hl 0 rfl) ?_
  refine x_getr (ci := 7) C hw 8 (xoL_1 ho) rfl inlX7 (by decide) rfl rfl (xrL_1_8 ho) xw_85 dX7_copyFrom_112 ?_
  refine lv_iconst (v := 0) hx hb dX7_copyFrom_115 (by decide) ?_
  refine lv_bipush (v := 7) hx hb dX7_copyFrom_116 (by decide) ?_
  obtain ⟨u9, eu9⟩ : ∃ q : xM, q = cpi u8 (o1 + 8) 0 (o + 8) 0 7 := ⟨_, rfl⟩
  have h := h u9 eu9
  refine x_cpyi C hl.1 xw_609 hw (xoL_8 ho1) (xoL_8 ho) ⟨by decide, by decide, by decide, by decide, by decide⟩ (Nat.le_of_ble_eq_true rfl) (Nat.le_of_ble_eq_true rfl) dX7_copyFrom_118 eu9 (fun H locs hw => ?_)
  exact x_vret C hw h dX7_copyFrom_121
set_option maxHeartbeats 4000000 in
set_option maxRecDepth 100000 in
theorem m_X7_copyFrom (l : Launch) {g : xG} (hD : x_D g) {o : Nat} {o1 : Nat} (ho : xpL g o) (ho1 : xpL g o1) {u : xM} {Qf : xM → Prop} (h : p_X7_copyFrom o o1 u Qf) : Met l yX7_copyFrom (Cond.code yX7_copyFrom cX7_copyFrom 2 none :: wsL_law) (x_rm 1 80) (va_Pc [.ref (xad g (o + 1)), .ref (xad g (o1 + 1))] (x_B g u)) (x_Qv g Qf) 0 0 (x_A g) := by
  refine Met.ofW (cc := cX7_copyFrom) (maxL := 2) (ret := none) (by decide) rfl ?_
  intro p e s m args below meth c s₁ B hml hv
  obtain ⟨rfl, hB⟩ := hv
  obtain ⟨C, hw⟩ := x_start B hml hD hB
  have hl := lv_entry [.ref (xad g (o + 1)), .ref (xad g (o1 + 1))] (n := 2) (Nat.le_of_ble_eq_true rfl)
  rw [lg_entry_eq]
  exact s_X7_copyFrom C ho ho1 hw hl h
set_option maxHeartbeats 4000000 in
set_option maxRecDepth 100000 in
theorem s_X0_copyFrom {o : Nat} {o1 : Nat} {Qf : xM → Prop} (C : x_C p s m args meth c g RX0 cX0_copyFrom 2 none) (ho : xpL g o) (ho1 : xpL g o1) {u : xM} {H : Heap} {locs : List Loc} {ls : Array Slot} (hw : x_W g s.heap H locs u) (hl : lv_has ls 2 [(0, .ref (xad g (o + 9))), (1, .ref (xad g (o1 + 9)))]) (h : p_X0_copyFrom o o1 u Qf) : W p l e (x_rm 1 80) s m args below meth c H locs 0 0 (MQ below (x_Qv g Qf) args s 0 0 (x_A g)) (F0 m 0 ls []) := by
  unfold p_X0_copyFrom at h
  have hx := C.1
  have hb := C.2.1
  refine lv_aload_n hx hb dX0_copyFrom_0 rfl (lv_at hl 0 rfl) ?_
  refine lv_aload_n hx hb dX0_copyFrom_1 rfl (lv_at hl 1 rfl) ?_
  refine x_geti (ci := 0) C hw 0 (xoL_9 ho1) rfl inlX0 (by decide) rfl rfl xw_420 dX0_copyFrom_2 ?_
  obtain ⟨u1, eu1⟩ : ∃ q : xM, q = si u (o + 9) 0 (gi u (o1 + 9) 0) := ⟨_, rfl⟩
  have h := h u1 eu1
  refine x_puti (ci := 0) (ty := .int) C hw 0 (xoL_9 ho) rfl inlX0 tyX0_ok nmX0 (by decide) rfl rfl xw_420 rfl (by decide +kernel) rfl rfl dX0_copyFrom_5 eu1 (fun H locs hw => ?_)
  refine lv_aload_n hx hb dX0_copyFrom_8 rfl (lv_at hl 0 rfl) ?_
  refine lv_aload_n hx hb dX0_copyFrom_9 rfl (lv_at hl 1 rfl) ?_
  refine x_geti (ci := 0) C hw 1 (xoL_9 ho1) rfl inlX0 (by decide) rfl rfl xw_421 dX0_copyFrom_10 ?_
  obtain ⟨u2, eu2⟩ : ∃ q : xM, q = si u1 (o + 9) 1 (gi u1 (o1 + 9) 1) := ⟨_, rfl⟩
  have h := h u2 eu2
  refine x_puti (ci := 0) (ty := .int) C hw 1 (xoL_9 ho) rfl inlX0 tyX0_ok nmX0 (by decide) rfl rfl xw_421 rfl (by decide +kernel) rfl rfl dX0_copyFrom_13 eu2 (fun H locs hw => ?_)
  refine lv_aload_n hx hb dX0_copyFrom_16 rfl (lv_at hl 0 rfl) ?_
  refine lv_aload_n hx hb dX0_copyFrom_17 rfl (lv_at hl 1 rfl) ?_
  refine x_geti (ci := 0) C hw 2 (xoL_9 ho1) rfl inlX0 (by decide) rfl rfl xw_422 dX0_copyFrom_18 ?_
  obtain ⟨u3, eu3⟩ : ∃ q : xM, q = si u2 (o + 9) 2 (gi u2 (o1 + 9) 2) := ⟨_, rfl⟩
  have h := h u3 eu3
  refine x_puti (ci := 0) (ty := .int) C hw 2 (xoL_9 ho) rfl inlX0 tyX0_ok nmX0 (by decide) rfl rfl xw_422 rfl (by decide +kernel) rfl rfl dX0_copyFrom_21 eu3 (fun H locs hw => ?_)
  refine lv_aload_n hx hb dX0_copyFrom_24 rfl (lv_at hl 1 rfl) ?_
  refine x_getr (ci := 0) C hw 3 (xoL_9 ho1) rfl inlX0 (by decide) rfl rfl (xrL_9_3 ho1) xw_89 dX0_copyFrom_25 ?_
  refine lv_iconst (v := 0) hx hb dX0_copyFrom_28 (by decide) ?_
  refine lv_aload_n hx hb dX0_copyFrom_29 rfl (lv_at hl 0 rfl) ?_
  refine x_getr (ci := 0) C hw 3 (xoL_9 ho) rfl inlX0 (by decide) rfl rfl (xrL_9_3 ho) xw_89 dX0_copyFrom_30 ?_
  refine lv_iconst (v := 0) hx hb dX0_copyFrom_33 (by decide) ?_
  refine lv_bipush (v := 10) hx hb dX0_copyFrom_34 (by decide) ?_
  obtain ⟨u4, eu4⟩ : ∃ q : xM, q = cpl u3 (o1 + 10) 0 (o + 10) 0 10 := ⟨_, rfl⟩
  have h := h u4 eu4
  refine x_cpyl C hl.1 xw_614 hw (xoL_10 ho1) (xoL_10 ho) ⟨by decide, by decide, by decide, by decide, by decide⟩ (Nat.le_of_ble_eq_true rfl) (Nat.le_of_ble_eq_true rfl) dX0_copyFrom_36 eu4 (fun H locs hw => ?_)
  refine lv_aload_n hx hb dX0_copyFrom_39 rfl (lv_at hl 1 rfl) ?_
  refine x_getr (ci := 0) C hw 4 (xoL_9 ho1) rfl inlX0 (by decide) rfl rfl (xrL_9_4 ho1) xw_90 dX0_copyFrom_40 ?_
  refine lv_iconst (v := 0) hx hb dX0_copyFrom_43 (by decide) ?_
  refine lv_aload_n hx hb dX0_copyFrom_44 rfl (lv_at hl 0 rfl) ?_
  refine x_getr (ci := 0) C hw 4 (xoL_9 ho) rfl inlX0 (by decide) rfl rfl (xrL_9_4 ho) xw_90 dX0_copyFrom_45 ?_
  refine lv_iconst (v := 0) hx hb dX0_copyFrom_48 (by decide) ?_
  refine lv_bipush (v := 10) hx hb dX0_copyFrom_49 (by decide) ?_
  obtain ⟨u5, eu5⟩ : ∃ q : xM, q = cpi u4 (o1 + 11) 0 (o + 11) 0 10 := ⟨_, rfl⟩
  have h := h u5 eu5
  refine x_cpyi C hl.1 xw_614 hw (xoL_11 ho1) (xoL_11 ho) ⟨by decide, by decide, by decide, by decide, by decide⟩ (Nat.le_of_ble_eq_true rfl) (Nat.le_of_ble_eq_true rfl) dX0_copyFrom_51 eu5 (fun H locs hw => ?_)
  refine lv_aload_n hx hb dX0_copyFrom_54 rfl (lv_at hl 1 rfl) ?_
  refine x_getr (ci := 0) C hw 5 (xoL_9 ho1) rfl inlX0 (by decide) rfl rfl (xrL_9_5 ho1) xw_91 dX0_copyFrom_55 ?_
  refine lv_iconst (v := 0) hx hb dX0_copyFrom_58 (by decide) ?_
  refine lv_aload_n hx hb dX0_copyFrom_59 rfl (lv_at hl 0 rfl) ?_
  refine x_getr (ci := 0) C hw 5 (xoL_9 ho) rfl inlX0 (by decide) rfl rfl (xrL_9_5 ho) xw_91 dX0_copyFrom_60 ?_
  refine lv_iconst (v := 0) hx hb dX0_copyFrom_63 (by decide) ?_
  refine lv_bipush (v := 10) hx hb dX0_copyFrom_64 (by decide) ?_
  obtain ⟨u6, eu6⟩ : ∃ q : xM, q = cpi u5 (o1 + 12) 0 (o + 12) 0 10 := ⟨_, rfl⟩
  have h := h u6 eu6
  refine x_cpyi C hl.1 xw_614 hw (xoL_12 ho1) (xoL_12 ho) ⟨by decide, by decide, by decide, by decide, by decide⟩ (Nat.le_of_ble_eq_true rfl) (Nat.le_of_ble_eq_true rfl) dX0_copyFrom_66 eu6 (fun H locs hw => ?_)
  refine lv_aload_n hx hb dX0_copyFrom_69 rfl (lv_at hl 1 rfl) ?_
  refine x_getr (ci := 0) C hw 6 (xoL_9 ho1) rfl inlX0 (by decide) rfl rfl (xrL_9_6 ho1) xw_92 dX0_copyFrom_70 ?_
  refine lv_iconst (v := 0) hx hb dX0_copyFrom_73 (by decide) ?_
  refine lv_aload_n hx hb dX0_copyFrom_74 rfl (lv_at hl 0 rfl) ?_
  refine x_getr (ci := 0) C hw 6 (xoL_9 ho) rfl inlX0 (by decide) rfl rfl (xrL_9_6 ho) xw_92 dX0_copyFrom_75 ?_
  refine lv_iconst (v := 0) hx hb dX0_copyFrom_78 (by decide) ?_
  refine lv_bipush (v := 10) hx hb dX0_copyFrom_79 (by decide) ?_
  obtain ⟨u7, eu7⟩ : ∃ q : xM, q = cpi u6 (o1 + 13) 0 (o + 13) 0 10 := ⟨_, rfl⟩
  have h := h u7 eu7
  refine x_cpyi C hl.1 xw_614 hw (xoL_13 ho1) (xoL_13 ho) ⟨by decide, by decide, by decide, by decide, by decide⟩ (Nat.le_of_ble_eq_true rfl) (Nat.le_of_ble_eq_true rfl) dX0_copyFrom_81 eu7 (fun H locs hw => ?_)
  refine lv_aload_n hx hb dX0_copyFrom_84 rfl (lv_at hl 1 rfl) ?_
  refine x_getr (ci := 0) C hw 7 (xoL_9 ho1) rfl inlX0 (by decide) rfl rfl (xrL_9_7 ho1) xw_93 dX0_copyFrom_85 ?_
  refine lv_iconst (v := 0) hx hb dX0_copyFrom_88 (by decide) ?_
  refine lv_aload_n hx hb dX0_copyFrom_89 rfl (lv_at hl 0 rfl) ?_
  refine x_getr (ci := 0) C hw 7 (xoL_9 ho) rfl inlX0 (by decide) rfl rfl (xrL_9_7 ho) xw_93 dX0_copyFrom_90 ?_
  refine lv_iconst (v := 0) hx hb dX0_copyFrom_93 (by decide) ?_
  refine lv_bipush (v := 10) hx hb dX0_copyFrom_94 (by decide) ?_
  obtain ⟨u8, eu8⟩ : ∃ q : xM, q = cpi u7 (o1 + 14) 0 (o + 14) 0 10 := ⟨_, rfl⟩
  have h := h u8 eu8
  refine x_cpyi C hl.1 xw_614 hw (xoL_14 ho1) (xoL_14 ho) ⟨by decide, by decide, by decide, by decide, by decide⟩ (Nat.le_of_ble_eq_true rfl) (Nat.le_of_ble_eq_true rfl) dX0_copyFrom_96 eu8 (fun H locs hw => ?_)
  refine lv_aload_n hx hb dX0_copyFrom_99 rfl (lv_at hl 1 rfl) ?_
  refine x_getr (ci := 0) C hw 8 (xoL_9 ho1) rfl inlX0 (by decide) rfl rfl (xrL_9_8 ho1) xw_94 dX0_copyFrom_100 ?_
  refine lv_iconst (v := 0) hx hb dX0_copyFrom_103 (by decide) ?_
  refine lv_aload_n hx hb dX0_copyFrom_104 rfl (lv_at hl 0 rfl) ?_
  refine x_getr (ci := 0) C hw 8 (xoL_9 ho) rfl inlX0 (by decide) rfl rfl (xrL_9_8 ho) xw_94 dX0_copyFrom_105 ?_
  refine lv_iconst (v := 0) hx hb dX0_copyFrom_108 (by decide) ?_
  refine lv_bipush (v := 10) hx hb dX0_copyFrom_109 (by decide) ?_
  obtain ⟨u9, eu9⟩ : ∃ q : xM, q = cpi u8 (o1 + 15) 0 (o + 15) 0 10 := ⟨_, rfl⟩
  have h := h u9 eu9
  refine x_cpyi C hl.1 xw_614 hw (xoL_15 ho1) (xoL_15 ho) ⟨by decide, by decide, by decide, by decide, by decide⟩ (Nat.le_of_ble_eq_true rfl) (Nat.le_of_ble_eq_true rfl) dX0_copyFrom_111 eu9 (fun H locs hw => ?_)
  refine lv_aload_n hx hb dX0_copyFrom_114 rfl (lv_at hl 1 rfl) ?_
  refine x_getr (ci := 0) C hw 9 (xoL_9 ho1) rfl inlX0 (by decide) rfl rfl (xrL_9_9 ho1) xw_95 dX0_copyFrom_115 ?_
  refine lv_iconst (v := 0) hx hb dX0_copyFrom_118 (by decide) ?_
  refine lv_aload_n hx hb dX0_copyFrom_119 rfl (lv_at hl 0 rfl) ?_
  refine x_getr (ci := 0) C hw 9 (xoL_9 ho) rfl inlX0 (by decide) rfl rfl (xrL_9_9 ho) xw_95 dX0_copyFrom_120 ?_
  refine lv_iconst (v := 0) hx hb dX0_copyFrom_123 (by decide) ?_
  refine lv_bipush (v := 12) hx hb dX0_copyFrom_124 (by decide) ?_
  obtain ⟨u10, eu10⟩ : ∃ q : xM, q = cpi u9 (o1 + 16) 0 (o + 16) 0 12 := ⟨_, rfl⟩
  have h := h u10 eu10
  refine x_cpyi C hl.1 xw_614 hw (xoL_16 ho1) (xoL_16 ho) ⟨by decide, by decide, by decide, by decide, by decide⟩ (Nat.le_of_ble_eq_true rfl) (Nat.le_of_ble_eq_true rfl) dX0_copyFrom_126 eu10 (fun H locs hw => ?_)
  exact x_vret C hw h dX0_copyFrom_129
set_option maxHeartbeats 4000000 in
set_option maxRecDepth 100000 in
theorem m_X0_copyFrom (l : Launch) {g : xG} (hD : x_D g) {o : Nat} {o1 : Nat} (ho : xpL g o) (ho1 : xpL g o1) {u : xM} {Qf : xM → Prop} (h : p_X0_copyFrom o o1 u Qf) : Met l yX0_copyFrom (Cond.code yX0_copyFrom cX0_copyFrom 2 none :: wsL_law) (x_rm 1 80) (va_Pc [.ref (xad g (o + 9)), .ref (xad g (o1 + 9))] (x_B g u)) (x_Qv g Qf) 0 0 (x_A g) := by
  refine Met.ofW (cc := cX0_copyFrom) (maxL := 2) (ret := none) (by decide) rfl ?_
  intro p e s m args below meth c s₁ B hml hv
  obtain ⟨rfl, hB⟩ := hv
  obtain ⟨C, hw⟩ := x_start B hml hD hB
  have hl := lv_entry [.ref (xad g (o + 9)), .ref (xad g (o1 + 9))] (n := 2) (Nat.le_of_ble_eq_true rfl)
  rw [lg_entry_eq]
  exact s_X0_copyFrom C ho ho1 hw hl h
set_option maxHeartbeats 4000000 in
set_option maxRecDepth 100000 in
theorem s_X1_copyFrom {o : Nat} {o1 : Nat} {Qf : xM → Prop} (C : x_C p s m args meth c g RX1 cX1_copyFrom 2 none) (ho : xpL g o) (ho1 : xpL g o1) {u : xM} {H : Heap} {locs : List Loc} {ls : Array Slot} (hw : x_W g s.heap H locs u) (hl : lv_has ls 2 [(0, .ref (xad g o)), (1, .ref (xad g o1))]) (h : p_X1_copyFrom o o1 u Qf) : W p l e (x_rm 2 101) s m args below meth c H locs 0 0 (MQ below (x_Qv g Qf) args s 0 0 (x_A g)) (F0 m 0 ls []) := by
  unfold p_X1_copyFrom at h
  have hx := C.1
  have hb := C.2.1
  refine lv_aload_n hx hb dX1_copyFrom_0 rfl (lv_at hl 0 rfl) ?_
  refine x_getr (ci := 1) C hw 0 (xoL_0 ho) rfl inlX1 (by decide) rfl rfl (xrL_0_0 ho) xw_58 dX1_copyFrom_1 ?_
  refine lv_aload_n hx hb dX1_copyFrom_4 rfl (lv_at hl 1 rfl) ?_
  refine x_getr (ci := 1) C hw 0 (xoL_0 ho1) rfl inlX1 (by decide) rfl rfl (xrL_0_0 ho1) xw_58 dX1_copyFrom_5 ?_
  refine x_callv hw (x_runV (ci := 7) C hw (m_X7_copyFrom l C.2.2.2.2.2.2.2.2.1 ho ho1 h) (xoL_1 ho) rfl (x_gV xw_605 xw_606 xw_607 xw_57 xw_608) rfl rfl qX7_copyFrom ⟨(Nat.le_of_ble_eq_true rfl), (Nat.le_of_ble_eq_true rfl)⟩ rfl hl.1 rfl (Nat.le_of_ble_eq_true rfl) dX1_copyFrom_8) (fun u1 H locs hw h => ?_)
  refine lv_aload_n hx hb dX1_copyFrom_11 rfl (lv_at hl 0 rfl) ?_
  refine x_getr (ci := 1) C hw 1 (xoL_0 ho) rfl inlX1 (by decide) rfl rfl (xrL_0_1 ho) xw_62 dX1_copyFrom_12 ?_
  refine lv_aload_n hx hb dX1_copyFrom_15 rfl (lv_at hl 1 rfl) ?_
  refine x_getr (ci := 1) C hw 1 (xoL_0 ho1) rfl inlX1 (by decide) rfl rfl (xrL_0_1 ho1) xw_62 dX1_copyFrom_16 ?_
  refine x_callv hw (x_runV (ci := 0) C hw (m_X0_copyFrom l C.2.2.2.2.2.2.2.2.1 ho ho1 h) (xoL_9 ho) rfl (x_gV xw_610 xw_611 xw_612 xw_61 xw_613) rfl rfl qX0_copyFrom ⟨(Nat.le_of_ble_eq_true rfl), (Nat.le_of_ble_eq_true rfl)⟩ rfl hl.1 rfl (Nat.le_of_ble_eq_true rfl) dX1_copyFrom_19) (fun u2 H locs hw h => ?_)
  refine lv_aload_n hx hb dX1_copyFrom_22 rfl (lv_at hl 0 rfl) ?_
  refine lv_aload_n hx hb dX1_copyFrom_23 rfl (lv_at hl 1 rfl) ?_
  refine x_geti (ci := 1) C hw 2 (xoL_0 ho1) rfl inlX1 (by decide) rfl rfl xw_408 dX1_copyFrom_24 ?_
  obtain ⟨u3, eu3⟩ : ∃ q : xM, q = si u2 o 2 (gi u2 o1 2) := ⟨_, rfl⟩
  have h := h u3 eu3
  refine x_puti (ci := 1) (ty := .int) C hw 2 (xoL_0 ho) rfl inlX1 tyX1_ok nmX1 (by decide) rfl rfl xw_408 rfl (by decide +kernel) rfl rfl dX1_copyFrom_27 eu3 (fun H locs hw => ?_)
  refine lv_aload_n hx hb dX1_copyFrom_30 rfl (lv_at hl 1 rfl) ?_
  refine x_getr (ci := 1) C hw 3 (xoL_0 ho1) rfl inlX1 (by decide) rfl rfl (xrL_0_3 ho1) xw_64 dX1_copyFrom_31 ?_
  refine lv_iconst (v := 0) hx hb dX1_copyFrom_34 (by decide) ?_
  refine lv_aload_n hx hb dX1_copyFrom_35 rfl (lv_at hl 0 rfl) ?_
  refine x_getr (ci := 1) C hw 3 (xoL_0 ho) rfl inlX1 (by decide) rfl rfl (xrL_0_3 ho) xw_64 dX1_copyFrom_36 ?_
  refine lv_iconst (v := 0) hx hb dX1_copyFrom_39 (by decide) ?_
  refine lv_iconst (v := 4) hx hb dX1_copyFrom_40 (by decide) ?_
  obtain ⟨u4, eu4⟩ : ∃ q : xM, q = cpl u3 (o1 + 17) 0 (o + 17) 0 4 := ⟨_, rfl⟩
  have h := h u4 eu4
  refine x_cpyl C hl.1 xw_604 hw (xoL_17 ho1) (xoL_17 ho) ⟨by decide, by decide, by decide, by decide, by decide⟩ (Nat.le_of_ble_eq_true rfl) (Nat.le_of_ble_eq_true rfl) dX1_copyFrom_41 eu4 (fun H locs hw => ?_)
  refine lv_aload_n hx hb dX1_copyFrom_44 rfl (lv_at hl 1 rfl) ?_
  refine x_getr (ci := 1) C hw 4 (xoL_0 ho1) rfl inlX1 (by decide) rfl rfl (xrL_0_4 ho1) xw_66 dX1_copyFrom_45 ?_
  refine lv_iconst (v := 0) hx hb dX1_copyFrom_48 (by decide) ?_
  refine lv_aload_n hx hb dX1_copyFrom_49 rfl (lv_at hl 0 rfl) ?_
  refine x_getr (ci := 1) C hw 4 (xoL_0 ho) rfl inlX1 (by decide) rfl rfl (xrL_0_4 ho) xw_66 dX1_copyFrom_50 ?_
  refine lv_iconst (v := 0) hx hb dX1_copyFrom_53 (by decide) ?_
  refine lv_iconst (v := 4) hx hb dX1_copyFrom_54 (by decide) ?_
  obtain ⟨u5, eu5⟩ : ∃ q : xM, q = cpi u4 (o1 + 18) 0 (o + 18) 0 4 := ⟨_, rfl⟩
  have h := h u5 eu5
  refine x_cpyi C hl.1 xw_604 hw (xoL_18 ho1) (xoL_18 ho) ⟨by decide, by decide, by decide, by decide, by decide⟩ (Nat.le_of_ble_eq_true rfl) (Nat.le_of_ble_eq_true rfl) dX1_copyFrom_55 eu5 (fun H locs hw => ?_)
  refine lv_aload_n hx hb dX1_copyFrom_58 rfl (lv_at hl 1 rfl) ?_
  refine x_getr (ci := 1) C hw 5 (xoL_0 ho1) rfl inlX1 (by decide) rfl rfl (xrL_0_5 ho1) xw_67 dX1_copyFrom_59 ?_
  refine lv_iconst (v := 0) hx hb dX1_copyFrom_62 (by decide) ?_
  refine lv_aload_n hx hb dX1_copyFrom_63 rfl (lv_at hl 0 rfl) ?_
  refine x_getr (ci := 1) C hw 5 (xoL_0 ho) rfl inlX1 (by decide) rfl rfl (xrL_0_5 ho) xw_67 dX1_copyFrom_64 ?_
  refine lv_iconst (v := 0) hx hb dX1_copyFrom_67 (by decide) ?_
  refine lv_iconst (v := 4) hx hb dX1_copyFrom_68 (by decide) ?_
  obtain ⟨u6, eu6⟩ : ∃ q : xM, q = cpi u5 (o1 + 19) 0 (o + 19) 0 4 := ⟨_, rfl⟩
  have h := h u6 eu6
  refine x_cpyi C hl.1 xw_604 hw (xoL_19 ho1) (xoL_19 ho) ⟨by decide, by decide, by decide, by decide, by decide⟩ (Nat.le_of_ble_eq_true rfl) (Nat.le_of_ble_eq_true rfl) dX1_copyFrom_69 eu6 (fun H locs hw => ?_)
  refine lv_aload_n hx hb dX1_copyFrom_72 rfl (lv_at hl 1 rfl) ?_
  refine x_getr (ci := 1) C hw 6 (xoL_0 ho1) rfl inlX1 (by decide) rfl rfl (xrL_0_6 ho1) xw_68 dX1_copyFrom_73 ?_
  refine lv_iconst (v := 0) hx hb dX1_copyFrom_76 (by decide) ?_
  refine lv_aload_n hx hb dX1_copyFrom_77 rfl (lv_at hl 0 rfl) ?_
  refine x_getr (ci := 1) C hw 6 (xoL_0 ho) rfl inlX1 (by decide) rfl rfl (xrL_0_6 ho) xw_68 dX1_copyFrom_78 ?_
  refine lv_iconst (v := 0) hx hb dX1_copyFrom_81 (by decide) ?_
  refine lv_iconst (v := 4) hx hb dX1_copyFrom_82 (by decide) ?_
  obtain ⟨u7, eu7⟩ : ∃ q : xM, q = cpi u6 (o1 + 20) 0 (o + 20) 0 4 := ⟨_, rfl⟩
  have h := h u7 eu7
  refine x_cpyi C hl.1 xw_604 hw (xoL_20 ho1) (xoL_20 ho) ⟨by decide, by decide, by decide, by decide, by decide⟩ (Nat.le_of_ble_eq_true rfl) (Nat.le_of_ble_eq_true rfl) dX1_copyFrom_83 eu7 (fun H locs hw => ?_)
  refine lv_aload_n hx hb dX1_copyFrom_86 rfl (lv_at hl 1 rfl) ?_
  refine x_getr (ci := 1) C hw 7 (xoL_0 ho1) rfl inlX1 (by decide) rfl rfl (xrL_0_7 ho1) xw_69 dX1_copyFrom_87 ?_
  refine lv_iconst (v := 0) hx hb dX1_copyFrom_90 (by decide) ?_
  refine lv_aload_n hx hb dX1_copyFrom_91 rfl (lv_at hl 0 rfl) ?_
  refine x_getr (ci := 1) C hw 7 (xoL_0 ho) rfl inlX1 (by decide) rfl rfl (xrL_0_7 ho) xw_69 dX1_copyFrom_92 ?_
  refine lv_iconst (v := 0) hx hb dX1_copyFrom_95 (by decide) ?_
  refine lv_bipush (v := 12) hx hb dX1_copyFrom_96 (by decide) ?_
  obtain ⟨u8, eu8⟩ : ∃ q : xM, q = cpi u7 (o1 + 21) 0 (o + 21) 0 12 := ⟨_, rfl⟩
  have h := h u8 eu8
  refine x_cpyi C hl.1 xw_604 hw (xoL_21 ho1) (xoL_21 ho) ⟨by decide, by decide, by decide, by decide, by decide⟩ (Nat.le_of_ble_eq_true rfl) (Nat.le_of_ble_eq_true rfl) dX1_copyFrom_98 eu8 (fun H locs hw => ?_)
  refine lv_aload_n hx hb dX1_copyFrom_101 rfl (lv_at hl 0 rfl) ?_
  refine lv_aload_n hx hb dX1_copyFrom_102 rfl (lv_at hl 1 rfl) ?_
  refine x_geti (ci := 1) C hw 8 (xoL_0 ho1) rfl inlX1 (by decide) rfl rfl xw_409 dX1_copyFrom_103 ?_
  obtain ⟨u9, eu9⟩ : ∃ q : xM, q = si u8 o 8 (gi u8 o1 8) := ⟨_, rfl⟩
  have h := h u9 eu9
  refine x_puti (ci := 1) (ty := .int) C hw 8 (xoL_0 ho) rfl inlX1 tyX1_ok nmX1 (by decide) rfl rfl xw_409 rfl (by decide +kernel) rfl rfl dX1_copyFrom_106 eu9 (fun H locs hw => ?_)
  refine lv_aload_n hx hb dX1_copyFrom_109 rfl (lv_at hl 0 rfl) ?_
  refine lv_aload_n hx hb dX1_copyFrom_110 rfl (lv_at hl 1 rfl) ?_
  refine x_geti (ci := 1) C hw 9 (xoL_0 ho1) rfl inlX1 (by decide) rfl rfl xw_70 dX1_copyFrom_111 ?_
  obtain ⟨u10, eu10⟩ : ∃ q : xM, q = si u9 o 9 (gi u9 o1 9) := ⟨_, rfl⟩
  have h := h u10 eu10
  refine x_puti (ci := 1) (ty := .int) C hw 9 (xoL_0 ho) rfl inlX1 tyX1_ok nmX1 (by decide) rfl rfl xw_70 rfl (by decide +kernel) rfl rfl dX1_copyFrom_114 eu10 (fun H locs hw => ?_)
  exact x_vret C hw h dX1_copyFrom_117
set_option maxHeartbeats 4000000 in
set_option maxRecDepth 100000 in
theorem m_X1_copyFrom (l : Launch) {g : xG} (hD : x_D g) {o : Nat} {o1 : Nat} (ho : xpL g o) (ho1 : xpL g o1) {u : xM} {Qf : xM → Prop} (h : p_X1_copyFrom o o1 u Qf) : Met l yX1_copyFrom (Cond.code yX1_copyFrom cX1_copyFrom 2 none :: wsL_law) (x_rm 2 101) (va_Pc [.ref (xad g o), .ref (xad g o1)] (x_B g u)) (x_Qv g Qf) 0 0 (x_A g) := by
  refine Met.ofW (cc := cX1_copyFrom) (maxL := 2) (ret := none) (by decide) rfl ?_
  intro p e s m args below meth c s₁ B hml hv
  obtain ⟨rfl, hB⟩ := hv
  obtain ⟨C, hw⟩ := x_start B hml hD hB
  have hl := lv_entry [.ref (xad g o), .ref (xad g o1)] (n := 2) (Nat.le_of_ble_eq_true rfl)
  rw [lg_entry_eq]
  exact s_X1_copyFrom C ho ho1 hw hl h
set_option maxHeartbeats 4000000 in
set_option maxRecDepth 100000 in
theorem s_X4_forget {o : Nat} {Qf : xM → Prop} (C : x_C p s m args meth c g RX4 cX4_forget 1 none) (ho : xpN g o) {u : xM} {H : Heap} {locs : List Loc} {ls : Array Slot} (hw : x_W g s.heap H locs u) (hl : lv_has ls 1 [(0, .ref (xad g o))]) (h : p_X4_forget o u Qf) : W p l e (x_rm 0 0) s m args below meth c H locs 0 0 (MQ below (x_Qv g Qf) args s 0 0 (x_A g)) (F0 m 0 ls []) := by
  unfold p_X4_forget at h
  have hx := C.1
  have hb := C.2.1
  refine lv_aload_n hx hb dX4_forget_0 rfl (lv_at hl 0 rfl) ?_
  refine lv_iconst (v := 0) hx hb dX4_forget_1 (by decide) ?_
  obtain ⟨u1, eu1⟩ : ∃ q : xM, q = si u o 0 (0 : Int32) := ⟨_, rfl⟩
  have h := h u1 eu1
  refine x_puti (ci := 4) (ty := .boolean) C hw 0 (xoN_0 ho) rfl inlX4 tyX4_ok nmX4 (by decide) rfl rfl xw_619 rfl (by decide +kernel) rfl rfl dX4_forget_2 eu1 (fun H locs hw => ?_)
  refine lv_aload_n hx hb dX4_forget_5 rfl (lv_at hl 0 rfl) ?_
  refine lv_iconst (v := 0) hx hb dX4_forget_6 (by decide) ?_
  obtain ⟨u2, eu2⟩ : ∃ q : xM, q = si u1 o 1 (0 : Int32) := ⟨_, rfl⟩
  have h := h u2 eu2
  refine x_puti (ci := 4) (ty := .int) C hw 1 (xoN_0 ho) rfl inlX4 tyX4_ok nmX4 (by decide) rfl rfl xw_620 rfl (by decide +kernel) rfl rfl dX4_forget_7 eu2 (fun H locs hw => ?_)
  refine lv_aload_n hx hb dX4_forget_10 rfl (lv_at hl 0 rfl) ?_
  refine lv_iconst (v := 0) hx hb dX4_forget_11 (by decide) ?_
  obtain ⟨u3, eu3⟩ : ∃ q : xM, q = si u2 o 2 (0 : Int32) := ⟨_, rfl⟩
  have h := h u3 eu3
  refine x_puti (ci := 4) (ty := .int) C hw 2 (xoN_0 ho) rfl inlX4 tyX4_ok nmX4 (by decide) rfl rfl xw_621 rfl (by decide +kernel) rfl rfl dX4_forget_12 eu3 (fun H locs hw => ?_)
  exact x_vret C hw h dX4_forget_15
set_option maxHeartbeats 4000000 in
set_option maxRecDepth 100000 in
theorem m_X4_forget (l : Launch) {g : xG} (hD : x_D g) {o : Nat} (ho : xpN g o) {u : xM} {Qf : xM → Prop} (h : p_X4_forget o u Qf) : Met l yX4_forget (Cond.code yX4_forget cX4_forget 1 none :: wsL_law) (x_rm 0 0) (va_Pc [.ref (xad g o)] (x_B g u)) (x_Qv g Qf) 0 0 (x_A g) := by
  refine Met.ofW (cc := cX4_forget) (maxL := 1) (ret := none) (by decide) rfl ?_
  intro p e s m args below meth c s₁ B hml hv
  obtain ⟨rfl, hB⟩ := hv
  obtain ⟨C, hw⟩ := x_start B hml hD hB
  have hl := lv_entry [.ref (xad g o)] (n := 1) (Nat.le_of_ble_eq_true rfl)
  rw [lg_entry_eq]
  exact s_X4_forget C ho hw hl h
set_option maxHeartbeats 4000000 in
set_option maxRecDepth 100000 in
theorem s_X10_land {Qf : Int32 → xM → Prop} {a1 : Int32} (C : x_C p s m args meth c g RX10 cX10_land 3 (some .int)) (hX : xpX g) {u : xM} {H : Heap} {locs : List Loc} {ls : Array Slot} (hw : x_W g s.heap H locs u) (hl : lv_has ls 3 [(0, .ref (xad g 0)), (1, .int a1)]) (h : p_X10_land a1 u Qf) : W p l e (x_rm 7 161) s m args below meth c H locs 0 0 (MQ below (x_Qi g Qf) args s 0 0 (x_A g)) (F0 m 0 ls []) := by
  unfold p_X10_land at h
  have hx := C.1
  have hb := C.2.1
  refine lv_iload_n hx hb dX10_land_0 rfl (lv_at hl 1 rfl) ?_
  refine lv_if_lt (tgt := 12) hx hb dX10_land_1 (by decide) (fun c1 => ?_) (fun c1 => ?_)
  · have h := h.1 c1
    refine lv_aload_n hx hb dX10_land_12 rfl (lv_at hl 0 rfl) ?_
    refine lv_iconst (v := 1) hx hb dX10_land_13 (by decide) ?_
    refine x_calli hw (x_runV (ci := 10) C hw (m_X10_none l C.2.2.2.2.2.2.2.2.1 hX h) (xoX_0 hX) rfl (x_gV xw_343 xw_344 xw_345 xw_2 xw_346) rfl rfl qX10_none ⟨(Nat.le_of_ble_eq_true rfl), (Nat.le_of_ble_eq_true rfl)⟩ rfl hl.1 rfl (Nat.le_of_ble_eq_true rfl) dX10_land_14) (fun r3 u2 H locs hw h => ?_)
    exact x_iret C hw h dX10_land_17
  · have h := h.2 c1
    refine lv_iload_n hx hb dX10_land_4 rfl (lv_at hl 1 rfl) ?_
    refine lv_aload_n hx hb dX10_land_5 rfl (lv_at hl 0 rfl) ?_
    refine x_geti (ci := 10) C hw 13 (xoX_0 hX) rfl inlX10 (by decide) rfl rfl xw_378 dX10_land_6 ?_
    refine lv_icmp_le (tgt := 18) hx hb dX10_land_9 (by decide) (fun c4 => ?_) (fun c4 => ?_)
    · have h := h.1 c4
      refine lv_aload_n hx hb dX10_land_18 rfl (lv_at hl 0 rfl) ?_
      refine x_getr (ci := 10) C hw 4 (xoX_0 hX) rfl inlX10 (by decide) rfl rfl xrX_0_4 xw_29 dX10_land_19 ?_
      refine lv_aload_n hx hb dX10_land_22 rfl (lv_at hl 0 rfl) ?_
      refine x_getr (ci := 10) C hw 12 (xoX_0 hX) rfl inlX10 (by decide) rfl rfl xrX_0_12 xw_44 dX10_land_23 ?_
      refine lv_iload_n hx hb dX10_land_26 rfl (lv_at hl 1 rfl) ?_
      refine x_callz hw (x_runV (ci := 2) C hw (m_X2_readAll l C.2.2.2.2.2.2.2.2.1 hX h) (xoX_31 hX) rfl (x_gV xw_400 xw_401 xw_402 xw_28 xw_403) rfl rfl qX2_readAll ⟨(Nat.le_of_ble_eq_true rfl), (Nat.le_of_ble_eq_true rfl)⟩ rfl hl.1 rfl (Nat.le_of_ble_eq_true rfl) dX10_land_27) (fun r6 u5 H locs hw h => ?_)
      refine lv_istore_n (lv' := [(2, .int (xb r6)), (0, .ref (xad g 0)), (1, .int a1)]) hx hb dX10_land_30 rfl hl (by decide) rfl (fun ls hl => ?_)
      refine lv_aload_n hx hb dX10_land_31 rfl (lv_at hl 1 rfl) ?_
      refine lv_aload_n hx hb dX10_land_32 rfl (lv_at hl 1 rfl) ?_
      refine x_getr (ci := 10) C hw 4 (xoX_0 hX) rfl inlX10 (by decide) rfl rfl xrX_0_4 xw_29 dX10_land_33 ?_
      refine x_getr (ci := 2) C hw 0 (xoX_31 hX) rfl inlX2 (by decide) rfl rfl xrX_31_0 xw_396 dX10_land_36 ?_
      refine x_callv hw (x_runV (ci := 10) C hw (m_X10_emptyTape l C.2.2.2.2.2.2.2.2.1 hX (xpT_34 hX) h) (xoX_0 hX) rfl (x_gV xw_594 xw_595 xw_596 xw_2 xw_597) rfl rfl qX10_emptyTape ⟨(Nat.le_of_ble_eq_true rfl), (Nat.le_of_ble_eq_true rfl)⟩ rfl hl.1 rfl (Nat.le_of_ble_eq_true rfl) dX10_land_39) (fun u7 H locs hw h => ?_)
      refine lv_iload_n hx hb dX10_land_42 rfl (lv_at hl 0 rfl) ?_
      refine lv_if_ne (tgt := 53) hx hb dX10_land_43 (by decide) (fun c8 => ?_) (fun c8 => ?_)
      · have h := h.1 (xb_t c8)
        refine lv_aload_n hx hb dX10_land_53 rfl (lv_at hl 1 rfl) ?_
        refine x_getr (ci := 10) C hw 0 (xoX_0 hX) rfl inlX10 (by decide) rfl rfl xrX_0_0 xw_16 dX10_land_54 ?_
        refine lv_aload_n hx hb dX10_land_57 rfl (lv_at hl 1 rfl) ?_
        refine x_getr (ci := 10) C hw 4 (xoX_0 hX) rfl inlX10 (by decide) rfl rfl xrX_0_4 xw_29 dX10_land_58 ?_
        refine x_getr (ci := 2) C hw 1 (xoX_31 hX) rfl inlX2 (by decide) rfl rfl xrX_31_1 xw_397 dX10_land_61 ?_
        refine x_callv hw (x_runV (ci := 1) C hw (m_X1_copyFrom l C.2.2.2.2.2.2.2.2.1 (xpL_83 hX) (xpL_164 hX) h) (xoL_0 (xpL_83 hX)) rfl (x_gV xw_600 xw_601 xw_602 xw_15 xw_603) rfl rfl qX1_copyFrom ⟨(Nat.le_of_ble_eq_true rfl), (Nat.le_of_ble_eq_true rfl)⟩ rfl hl.1 rfl (Nat.le_of_ble_eq_true rfl) dX10_land_64) (fun u9 H locs hw h => ?_)
        refine lv_aload_n hx hb dX10_land_67 rfl (lv_at hl 1 rfl) ?_
        refine x_getr (ci := 10) C hw 1 (xoX_0 hX) rfl inlX10 (by decide) rfl rfl xrX_0_1 xw_20 dX10_land_68 ?_
        refine x_callv hw (x_runV (ci := 4) C hw (m_X4_forget l C.2.2.2.2.2.2.2.2.1 (xpN_58 hX) h) (xoN_0 (xpN_58 hX)) rfl (x_gV xw_615 xw_616 xw_617 xw_19 xw_618) rfl rfl qX4_forget ⟨(Nat.le_of_ble_eq_true rfl), (Nat.le_of_ble_eq_true rfl)⟩ rfl hl.1 rfl (Nat.le_of_ble_eq_true rfl) dX10_land_71) (fun u10 H locs hw h => ?_)
        refine lv_aload_n hx hb dX10_land_74 rfl (lv_at hl 1 rfl) ?_
        refine lv_aload_n hx hb dX10_land_75 rfl (lv_at hl 1 rfl) ?_
        refine x_getr (ci := 10) C hw 0 (xoX_0 hX) rfl inlX10 (by decide) rfl rfl xrX_0_0 xw_16 dX10_land_76 ?_
        refine x_getr (ci := 1) C hw 1 (xoL_0 (xpL_83 hX)) rfl inlX1 (by decide) rfl rfl (xrL_0_1 (xpL_83 hX)) xw_398 dX10_land_79 ?_
        refine x_geti (ci := 0) C hw 0 (xoL_9 (xpL_83 hX)) rfl inlX0 (by decide) rfl rfl xw_399 dX10_land_82 ?_
        refine x_calli hw (x_runV (ci := 10) C hw (m_X10_fine l C.2.2.2.2.2.2.2.2.1 hX h) (xoX_0 hX) rfl (x_gV xw_622 xw_623 xw_624 xw_2 xw_625) rfl rfl qX10_fine ⟨(Nat.le_of_ble_eq_true rfl), (Nat.le_of_ble_eq_true rfl)⟩ rfl hl.1 rfl (Nat.le_of_ble_eq_true rfl) dX10_land_85) (fun r12 u11 H locs hw h => ?_)
        exact x_iret C hw h dX10_land_88
      · have h := h.2 (xb_f c8)
        refine lv_aload_n hx hb dX10_land_46 rfl (lv_at hl 1 rfl) ?_
        refine lv_bipush (v := 9) hx hb dX10_land_47 (by decide) ?_
        refine x_calli hw (x_runV (ci := 10) C hw (m_X10_none l C.2.2.2.2.2.2.2.2.1 hX h) (xoX_0 hX) rfl (x_gV xw_343 xw_344 xw_345 xw_2 xw_346) rfl rfl qX10_none ⟨(Nat.le_of_ble_eq_true rfl), (Nat.le_of_ble_eq_true rfl)⟩ rfl hl.1 rfl (Nat.le_of_ble_eq_true rfl) dX10_land_49) (fun r14 u13 H locs hw h => ?_)
        exact x_iret C hw h dX10_land_52
    · have h := h.2 c4
      refine lv_aload_n hx hb dX10_land_12 rfl (lv_at hl 0 rfl) ?_
      refine lv_iconst (v := 1) hx hb dX10_land_13 (by decide) ?_
      refine x_calli hw (x_runV (ci := 10) C hw (m_X10_none l C.2.2.2.2.2.2.2.2.1 hX h) (xoX_0 hX) rfl (x_gV xw_343 xw_344 xw_345 xw_2 xw_346) rfl rfl qX10_none ⟨(Nat.le_of_ble_eq_true rfl), (Nat.le_of_ble_eq_true rfl)⟩ rfl hl.1 rfl (Nat.le_of_ble_eq_true rfl) dX10_land_14) (fun r16 u15 H locs hw h => ?_)
      exact x_iret C hw h dX10_land_17
set_option maxHeartbeats 4000000 in
set_option maxRecDepth 100000 in
theorem m_X10_land (l : Launch) {g : xG} (hD : x_D g) (hX : xpX g) {a1 : Int32} {u : xM} {Qf : Int32 → xM → Prop} (h : p_X10_land a1 u Qf) : Met l yX10_land (Cond.code yX10_land cX10_land 3 (some .int) :: wsL_law) (x_rm 7 161) (va_Pc [.ref (xad g 0), .int a1] (x_B g u)) (x_Qi g Qf) 0 0 (x_A g) := by
  refine Met.ofW (cc := cX10_land) (maxL := 3) (ret := (some .int)) (by decide) rfl ?_
  intro p e s m args below meth c s₁ B hml hv
  obtain ⟨rfl, hB⟩ := hv
  obtain ⟨C, hw⟩ := x_start B hml hD hB
  have hl := lv_entry [.ref (xad g 0), .int a1] (n := 3) (Nat.le_of_ble_eq_true rfl)
  rw [lg_entry_eq]
  exact s_X10_land C hX hw hl h
set_option maxHeartbeats 4000000 in
set_option maxRecDepth 100000 in
theorem s_X4_add {o : Nat} {Qf : xM → Prop} {a1 : Int32} {a2 : Int32} {a3 : Int32} (C : x_C p s m args meth c g RX4 cX4_add 4 none) (ho : xpN g o) {u : xM} {H : Heap} {locs : List Loc} {ls : Array Slot} (hw : x_W g s.heap H locs u) (hl : lv_has ls 4 [(0, .ref (xad g o)), (1, .int a1), (2, .int a2), (3, .int a3)]) (h : p_X4_add o a1 a2 a3 u Qf) : W p l e (x_rm 0 0) s m args below meth c H locs 0 0 (MQ below (x_Qv g Qf) args s 0 0 (x_A g)) (F0 m 0 ls []) := by
  unfold p_X4_add at h
  have hx := C.1
  have hb := C.2.1
  refine lv_aload_n hx hb dX4_add_0 rfl (lv_at hl 0 rfl) ?_
  refine x_geti (ci := 4) C hw 2 (xoN_0 ho) rfl inlX4 (by decide) rfl rfl xw_621 dX4_add_1 ?_
  refine lv_bipush (v := 60) hx hb dX4_add_4 (by decide) ?_
  refine lv_icmp_lt (tgt := 10) hx hb dX4_add_6 (by decide) (fun c1 => ?_) (fun c1 => ?_)
  · have h := h.1 c1
    refine lv_aload_n hx hb dX4_add_10 rfl (lv_at hl 0 rfl) ?_
    refine x_getr (ci := 4) C hw 3 (xoN_0 ho) rfl inlX4 (by decide) rfl rfl (xrN_0_3 ho) xw_103 dX4_add_11 ?_
    refine lv_aload_n hx hb dX4_add_14 rfl (lv_at hl 0 rfl) ?_
    refine x_geti (ci := 4) C hw 2 (xoN_0 ho) rfl inlX4 (by decide) rfl rfl xw_621 dX4_add_15 ?_
    refine lv_iload_n hx hb dX4_add_18 rfl (lv_at hl 1 rfl) ?_
    have c2 := h.1
    have h := h.2
    obtain ⟨u3, eu3⟩ : ∃ q : xM, q = si u (o + 1) (gi u o 2).toNatClampNeg a1 := ⟨_, rfl⟩
    have h := h u3 eu3
    refine x_iast C hw (xoN_1 ho) c2 dX4_add_19 eu3 (fun H locs hw => ?_)
    refine lv_aload_n hx hb dX4_add_20 rfl (lv_at hl 0 rfl) ?_
    refine x_getr (ci := 4) C hw 4 (xoN_0 ho) rfl inlX4 (by decide) rfl rfl (xrN_0_4 ho) xw_104 dX4_add_21 ?_
    refine lv_aload_n hx hb dX4_add_24 rfl (lv_at hl 0 rfl) ?_
    refine x_geti (ci := 4) C hw 2 (xoN_0 ho) rfl inlX4 (by decide) rfl rfl xw_621 dX4_add_25 ?_
    refine lv_iload_n hx hb dX4_add_28 rfl (lv_at hl 2 rfl) ?_
    have c4 := h.1
    have h := h.2
    obtain ⟨u5, eu5⟩ : ∃ q : xM, q = si u3 (o + 2) (gi u3 o 2).toNatClampNeg a2 := ⟨_, rfl⟩
    have h := h u5 eu5
    refine x_iast C hw (xoN_2 ho) c4 dX4_add_29 eu5 (fun H locs hw => ?_)
    refine lv_aload_n hx hb dX4_add_30 rfl (lv_at hl 0 rfl) ?_
    refine x_getr (ci := 4) C hw 5 (xoN_0 ho) rfl inlX4 (by decide) rfl rfl (xrN_0_5 ho) xw_105 dX4_add_31 ?_
    refine lv_aload_n hx hb dX4_add_34 rfl (lv_at hl 0 rfl) ?_
    refine x_geti (ci := 4) C hw 2 (xoN_0 ho) rfl inlX4 (by decide) rfl rfl xw_621 dX4_add_35 ?_
    refine lv_iload_n hx hb dX4_add_38 rfl (lv_at hl 3 rfl) ?_
    have c6 := h.1
    have h := h.2
    obtain ⟨u7, eu7⟩ : ∃ q : xM, q = si u5 (o + 3) (gi u5 o 2).toNatClampNeg a3 := ⟨_, rfl⟩
    have h := h u7 eu7
    refine x_iast C hw (xoN_3 ho) c6 dX4_add_39 eu7 (fun H locs hw => ?_)
    refine lv_aload_n hx hb dX4_add_40 rfl (lv_at hl 0 rfl) ?_
    refine x_getr (ci := 4) C hw 6 (xoN_0 ho) rfl inlX4 (by decide) rfl rfl (xrN_0_6 ho) xw_106 dX4_add_41 ?_
    refine lv_aload_n hx hb dX4_add_44 rfl (lv_at hl 0 rfl) ?_
    refine x_geti (ci := 4) C hw 2 (xoN_0 ho) rfl inlX4 (by decide) rfl rfl xw_621 dX4_add_45 ?_
    refine lv_iconst (v := -1) hx hb dX4_add_48 (by decide) ?_
    have c8 := h.1
    have h := h.2
    obtain ⟨u9, eu9⟩ : ∃ q : xM, q = si u7 (o + 4) (gi u7 o 2).toNatClampNeg (-1 : Int32) := ⟨_, rfl⟩
    have h := h u9 eu9
    refine x_iast C hw (xoN_4 ho) c8 dX4_add_49 eu9 (fun H locs hw => ?_)
    refine lv_aload_n hx hb dX4_add_50 rfl (lv_at hl 0 rfl) ?_
    refine lv_dup hx hb dX4_add_51 rfl ?_
    refine x_geti (ci := 4) C hw 2 (xoN_0 ho) rfl inlX4 (by decide) rfl rfl xw_621 dX4_add_52 ?_
    refine lv_iconst (v := 1) hx hb dX4_add_55 (by decide) ?_
    refine lv_iadd hx hb dX4_add_56 ?_
    obtain ⟨u10, eu10⟩ : ∃ q : xM, q = si u9 o 2 ((gi u9 o 2) + (1 : Int32)) := ⟨_, rfl⟩
    have h := h u10 eu10
    refine x_puti (ci := 4) (ty := .int) C hw 2 (xoN_0 ho) rfl inlX4 tyX4_ok nmX4 (by decide) rfl rfl xw_621 rfl (by decide +kernel) rfl rfl dX4_add_57 eu10 (fun H locs hw => ?_)
    exact x_vret C hw h dX4_add_60
  · have h := h.2 c1
    exact x_vret C hw h dX4_add_9
set_option maxHeartbeats 4000000 in
set_option maxRecDepth 100000 in
theorem m_X4_add (l : Launch) {g : xG} (hD : x_D g) {o : Nat} (ho : xpN g o) {a1 : Int32} {a2 : Int32} {a3 : Int32} {u : xM} {Qf : xM → Prop} (h : p_X4_add o a1 a2 a3 u Qf) : Met l yX4_add (Cond.code yX4_add cX4_add 4 none :: wsL_law) (x_rm 0 0) (va_Pc [.ref (xad g o), .int a1, .int a2, .int a3] (x_B g u)) (x_Qv g Qf) 0 0 (x_A g) := by
  refine Met.ofW (cc := cX4_add) (maxL := 4) (ret := none) (by decide) rfl ?_
  intro p e s m args below meth c s₁ B hml hv
  obtain ⟨rfl, hB⟩ := hv
  obtain ⟨C, hw⟩ := x_start B hml hD hB
  have hl := lv_entry [.ref (xad g o), .int a1, .int a2, .int a3] (n := 4) (Nat.le_of_ble_eq_true rfl)
  rw [lg_entry_eq]
  exact s_X4_add C ho hw hl h
set_option maxHeartbeats 4000000 in
set_option maxRecDepth 100000 in
theorem s_X4_pair {o : Nat} {Qf : xM → Prop} {a1 : Int32} {a2 : Int32} (C : x_C p s m args meth c g RX4 cX4_pair 3 none) (ho : xpN g o) {u : xM} {H : Heap} {locs : List Loc} {ls : Array Slot} (hw : x_W g s.heap H locs u) (hl : lv_has ls 3 [(0, .ref (xad g o)), (1, .int a1), (2, .int a2)]) (h : p_X4_pair o a1 a2 u Qf) : W p l e (x_rm 0 0) s m args below meth c H locs 0 0 (MQ below (x_Qv g Qf) args s 0 0 (x_A g)) (F0 m 0 ls []) := by
  unfold p_X4_pair at h
  have hx := C.1
  have hb := C.2.1
  refine lv_iload_n hx hb dX4_pair_0 rfl (lv_at hl 1 rfl) ?_
  refine lv_if_lt (tgt := 38) hx hb dX4_pair_1 (by decide) (fun c1 => ?_) (fun c1 => ?_)
  · have h := h.1 c1
    exact x_vret C hw h dX4_pair_38
  · have h := h.2 c1
    refine lv_iload_n hx hb dX4_pair_4 rfl (lv_at hl 1 rfl) ?_
    refine lv_aload_n hx hb dX4_pair_5 rfl (lv_at hl 0 rfl) ?_
    refine x_geti (ci := 4) C hw 2 (xoN_0 ho) rfl inlX4 (by decide) rfl rfl xw_621 dX4_pair_6 ?_
    refine lv_icmp_ge (tgt := 38) hx hb dX4_pair_9 (by decide) (fun c2 => ?_) (fun c2 => ?_)
    · have h := h.1 c2
      exact x_vret C hw h dX4_pair_38
    · have h := h.2 c2
      refine lv_iload_n hx hb dX4_pair_12 rfl (lv_at hl 2 rfl) ?_
      refine lv_if_lt (tgt := 38) hx hb dX4_pair_13 (by decide) (fun c3 => ?_) (fun c3 => ?_)
      · have h := h.1 c3
        exact x_vret C hw h dX4_pair_38
      · have h := h.2 c3
        refine lv_iload_n hx hb dX4_pair_16 rfl (lv_at hl 2 rfl) ?_
        refine lv_aload_n hx hb dX4_pair_17 rfl (lv_at hl 0 rfl) ?_
        refine x_geti (ci := 4) C hw 2 (xoN_0 ho) rfl inlX4 (by decide) rfl rfl xw_621 dX4_pair_18 ?_
        refine lv_icmp_ge (tgt := 38) hx hb dX4_pair_21 (by decide) (fun c4 => ?_) (fun c4 => ?_)
        · have h := h.1 c4
          exact x_vret C hw h dX4_pair_38
        · have h := h.2 c4
          refine lv_aload_n hx hb dX4_pair_24 rfl (lv_at hl 0 rfl) ?_
          refine x_getr (ci := 4) C hw 6 (xoN_0 ho) rfl inlX4 (by decide) rfl rfl (xrN_0_6 ho) xw_106 dX4_pair_25 ?_
          refine lv_iload_n hx hb dX4_pair_28 rfl (lv_at hl 1 rfl) ?_
          refine lv_iload_n hx hb dX4_pair_29 rfl (lv_at hl 2 rfl) ?_
          have c5 := h.1
          have h := h.2
          obtain ⟨u6, eu6⟩ : ∃ q : xM, q = si u (o + 4) a1.toNatClampNeg a2 := ⟨_, rfl⟩
          have h := h u6 eu6
          refine x_iast C hw (xoN_4 ho) c5 dX4_pair_30 eu6 (fun H locs hw => ?_)
          refine lv_aload_n hx hb dX4_pair_31 rfl (lv_at hl 0 rfl) ?_
          refine x_getr (ci := 4) C hw 6 (xoN_0 ho) rfl inlX4 (by decide) rfl rfl (xrN_0_6 ho) xw_106 dX4_pair_32 ?_
          refine lv_iload_n hx hb dX4_pair_35 rfl (lv_at hl 2 rfl) ?_
          refine lv_iload_n hx hb dX4_pair_36 rfl (lv_at hl 1 rfl) ?_
          have c7 := h.1
          have h := h.2
          obtain ⟨u8, eu8⟩ : ∃ q : xM, q = si u6 (o + 4) a2.toNatClampNeg a1 := ⟨_, rfl⟩
          have h := h u8 eu8
          refine x_iast C hw (xoN_4 ho) c7 dX4_pair_37 eu8 (fun H locs hw => ?_)
          exact x_vret C hw h dX4_pair_38
set_option maxHeartbeats 4000000 in
set_option maxRecDepth 100000 in
theorem m_X4_pair (l : Launch) {g : xG} (hD : x_D g) {o : Nat} (ho : xpN g o) {a1 : Int32} {a2 : Int32} {u : xM} {Qf : xM → Prop} (h : p_X4_pair o a1 a2 u Qf) : Met l yX4_pair (Cond.code yX4_pair cX4_pair 3 none :: wsL_law) (x_rm 0 0) (va_Pc [.ref (xad g o), .int a1, .int a2] (x_B g u)) (x_Qv g Qf) 0 0 (x_A g) := by
  refine Met.ofW (cc := cX4_pair) (maxL := 3) (ret := none) (by decide) rfl ?_
  intro p e s m args below meth c s₁ B hml hv
  obtain ⟨rfl, hB⟩ := hv
  obtain ⟨C, hw⟩ := x_start B hml hD hB
  have hl := lv_entry [.ref (xad g o), .int a1, .int a2] (n := 3) (Nat.le_of_ble_eq_true rfl)
  rw [lg_entry_eq]
  exact s_X4_pair C ho hw hl h
set_option maxHeartbeats 4000000 in
set_option maxRecDepth 100000 in
theorem s_X5_readEnd {Qf : Bool → xM → Prop} (C : x_C p s m args meth c g RX5 cX5_readEnd 1 (some .boolean)) (hX : xpX g) {u : xM} {H : Heap} {locs : List Loc} {ls : Array Slot} (hw : x_W g s.heap H locs u) (hl : lv_has ls 1 [(0, .ref (xad g 32))]) (h : p_X5_readEnd  u Qf) : W p l e (x_rm 1 23) s m args below meth c H locs 0 0 (MQ below (x_Qz g Qf) args s 0 0 (x_A g)) (F0 m 0 ls []) := by
  unfold p_X5_readEnd at h
  have hx := C.1
  have hb := C.2.1
  refine lv_aload_n hx hb dX5_readEnd_0 rfl (lv_at hl 0 rfl) ?_
  refine x_geti (ci := 5) C hw 3 (xoX_32 hX) rfl inlX5 (by decide) rfl rfl xw_746 dX5_readEnd_1 ?_
  refine lv_if_le (tgt := 15) hx hb dX5_readEnd_4 (by decide) (fun c1 => ?_) (fun c1 => ?_)
  · have h := h.1 c1
    refine lv_aload_n hx hb dX5_readEnd_15 rfl (lv_at hl 0 rfl) ?_
    refine x_getr (ci := 5) C hw 0 (xoX_32 hX) rfl inlX5 (by decide) rfl rfl xrX_32_0 xw_201 dX5_readEnd_16 ?_
    refine lv_iconst (v := 2) hx hb dX5_readEnd_19 (by decide) ?_
    refine x_callz hw (x_runV (ci := 8) C hw (m_X8_wrong l C.2.2.2.2.2.2.2.2.1 (xpT_40 hX) h) (xoT_0 (xpT_40 hX)) rfl (x_gV xw_757 xw_494 xw_495 xw_122 xw_496) rfl rfl qX8_wrong ⟨(Nat.le_of_ble_eq_true rfl), (Nat.le_of_ble_eq_true rfl)⟩ rfl hl.1 rfl (Nat.le_of_ble_eq_true rfl) dX5_readEnd_20) (fun r3 u2 H locs hw h => ?_)
    exact x_zret _ C hw h rfl dX5_readEnd_23
  · have h := h.2 c1
    refine lv_aload_n hx hb dX5_readEnd_7 rfl (lv_at hl 0 rfl) ?_
    refine x_geti (ci := 5) C hw 3 (xoX_32 hX) rfl inlX5 (by decide) rfl rfl xw_746 dX5_readEnd_8 ?_
    refine lv_iconst (v := 3) hx hb dX5_readEnd_11 (by decide) ?_
    refine lv_icmp_le (tgt := 24) hx hb dX5_readEnd_12 (by decide) (fun c4 => ?_) (fun c4 => ?_)
    · have h := h.1 c4
      refine lv_aload_n hx hb dX5_readEnd_24 rfl (lv_at hl 0 rfl) ?_
      refine x_getr (ci := 5) C hw 0 (xoX_32 hX) rfl inlX5 (by decide) rfl rfl xrX_32_0 xw_201 dX5_readEnd_25 ?_
      refine x_callv hw (x_runV (ci := 8) C hw (m_X8_advance l C.2.2.2.2.2.2.2.2.1 (xpT_40 hX) h) (xoT_0 (xpT_40 hX)) rfl (x_gV xw_758 xw_469 xw_470 xw_122 xw_471) rfl rfl qX8_advance ⟨(Nat.le_of_ble_eq_true rfl), (Nat.le_of_ble_eq_true rfl)⟩ rfl hl.1 rfl (Nat.le_of_ble_eq_true rfl) dX5_readEnd_28) (fun u5 H locs hw h => ?_)
      refine lv_aload_n hx hb dX5_readEnd_31 rfl (lv_at hl 0 rfl) ?_
      refine lv_dup hx hb dX5_readEnd_32 rfl ?_
      refine x_geti (ci := 5) C hw 3 (xoX_32 hX) rfl inlX5 (by decide) rfl rfl xw_746 dX5_readEnd_33 ?_
      refine lv_iconst (v := 1) hx hb dX5_readEnd_36 (by decide) ?_
      refine lv_isub hx hb dX5_readEnd_37 ?_
      obtain ⟨u6, eu6⟩ : ∃ q : xM, q = si u5 32 3 ((gi u5 32 3) - (1 : Int32)) := ⟨_, rfl⟩
      have h := h u6 eu6
      refine x_puti (ci := 5) (ty := .int) C hw 3 (xoX_32 hX) rfl inlX5 tyX5_ok nmX5 (by decide) rfl rfl xw_746 rfl (by decide +kernel) rfl rfl dX5_readEnd_38 eu6 (fun H locs hw => ?_)
      refine lv_aload_n hx hb dX5_readEnd_41 rfl (lv_at hl 0 rfl) ?_
      refine x_getr (ci := 5) C hw 1 (xoX_32 hX) rfl inlX5 (by decide) rfl rfl xrX_32_1 xw_203 dX5_readEnd_42 ?_
      refine lv_bipush (v := 12) hx hb dX5_readEnd_45 (by decide) ?_
      refine lv_iconst (v := -1) hx hb dX5_readEnd_47 (by decide) ?_
      refine lv_iconst (v := 0) hx hb dX5_readEnd_48 (by decide) ?_
      refine x_callv hw (x_runV (ci := 4) C hw (m_X4_add l C.2.2.2.2.2.2.2.2.1 (xpN_63 hX) h) (xoN_0 (xpN_63 hX)) rfl (x_gV xw_759 xw_760 xw_761 xw_19 xw_762) rfl rfl qX4_add ⟨(Nat.le_of_ble_eq_true rfl), (Nat.le_of_ble_eq_true rfl)⟩ rfl hl.1 rfl (Nat.le_of_ble_eq_true rfl) dX5_readEnd_49) (fun u7 H locs hw h => ?_)
      refine lv_aload_n hx hb dX5_readEnd_52 rfl (lv_at hl 0 rfl) ?_
      refine x_getr (ci := 5) C hw 1 (xoX_32 hX) rfl inlX5 (by decide) rfl rfl xrX_32_1 xw_203 dX5_readEnd_53 ?_
      refine lv_aload_n hx hb dX5_readEnd_56 rfl (lv_at hl 0 rfl) ?_
      refine x_getr (ci := 5) C hw 2 (xoX_32 hX) rfl inlX5 (by decide) rfl rfl xrX_32_2 xw_204 dX5_readEnd_57 ?_
      refine lv_aload_n hx hb dX5_readEnd_60 rfl (lv_at hl 0 rfl) ?_
      refine x_geti (ci := 5) C hw 3 (xoX_32 hX) rfl inlX5 (by decide) rfl rfl xw_746 dX5_readEnd_61 ?_
      have c8 := h.1
      have h := h.2
      refine x_iald C hw (xoX_33 hX) c8 dX5_readEnd_64 ?_
      refine lv_aload_n hx hb dX5_readEnd_65 rfl (lv_at hl 0 rfl) ?_
      refine x_getr (ci := 5) C hw 1 (xoX_32 hX) rfl inlX5 (by decide) rfl rfl xrX_32_1 xw_203 dX5_readEnd_66 ?_
      refine x_geti (ci := 4) C hw 2 (xoN_0 (xpN_63 hX)) rfl inlX4 (by decide) rfl rfl xw_756 dX5_readEnd_69 ?_
      refine lv_iconst (v := 1) hx hb dX5_readEnd_72 (by decide) ?_
      refine lv_isub hx hb dX5_readEnd_73 ?_
      refine x_callv hw (x_runV (ci := 4) C hw (m_X4_pair l C.2.2.2.2.2.2.2.2.1 (xpN_63 hX) h) (xoN_0 (xpN_63 hX)) rfl (x_gV xw_763 xw_764 xw_765 xw_19 xw_766) rfl rfl qX4_pair ⟨(Nat.le_of_ble_eq_true rfl), (Nat.le_of_ble_eq_true rfl)⟩ rfl hl.1 rfl (Nat.le_of_ble_eq_true rfl) dX5_readEnd_74) (fun u9 H locs hw h => ?_)
      refine lv_iconst (v := 1) hx hb dX5_readEnd_77 (by decide) ?_
      exact x_zret true C hw h rfl dX5_readEnd_78
    · have h := h.2 c4
      refine lv_aload_n hx hb dX5_readEnd_15 rfl (lv_at hl 0 rfl) ?_
      refine x_getr (ci := 5) C hw 0 (xoX_32 hX) rfl inlX5 (by decide) rfl rfl xrX_32_0 xw_201 dX5_readEnd_16 ?_
      refine lv_iconst (v := 2) hx hb dX5_readEnd_19 (by decide) ?_
      refine x_callz hw (x_runV (ci := 8) C hw (m_X8_wrong l C.2.2.2.2.2.2.2.2.1 (xpT_40 hX) h) (xoT_0 (xpT_40 hX)) rfl (x_gV xw_757 xw_494 xw_495 xw_122 xw_496) rfl rfl qX8_wrong ⟨(Nat.le_of_ble_eq_true rfl), (Nat.le_of_ble_eq_true rfl)⟩ rfl hl.1 rfl (Nat.le_of_ble_eq_true rfl) dX5_readEnd_20) (fun r11 u10 H locs hw h => ?_)
      exact x_zret _ C hw h rfl dX5_readEnd_23
set_option maxHeartbeats 4000000 in
set_option maxRecDepth 100000 in
theorem m_X5_readEnd (l : Launch) {g : xG} (hD : x_D g) (hX : xpX g) {u : xM} {Qf : Bool → xM → Prop} (h : p_X5_readEnd  u Qf) : Met l yX5_readEnd (Cond.code yX5_readEnd cX5_readEnd 1 (some .boolean) :: wsL_law) (x_rm 1 23) (va_Pc [.ref (xad g 32)] (x_B g u)) (x_Qz g Qf) 0 0 (x_A g) := by
  refine Met.ofW (cc := cX5_readEnd) (maxL := 1) (ret := (some .boolean)) (by decide) rfl ?_
  intro p e s m args below meth c s₁ B hml hv
  obtain ⟨rfl, hB⟩ := hv
  obtain ⟨C, hw⟩ := x_start B hml hD hB
  have hl := lv_entry [.ref (xad g 32)] (n := 1) (Nat.le_of_ble_eq_true rfl)
  rw [lg_entry_eq]
  exact s_X5_readEnd C hX hw hl h
set_option maxHeartbeats 4000000 in
set_option maxRecDepth 100000 in
theorem s_X5_beginsStep {Qf : Bool → xM → Prop} {a1 : Int32} (C : x_C p s m args meth c g RX5 cX5_beginsStep 1 (some .boolean)) {u : xM} {H : Heap} {locs : List Loc} {ls : Array Slot} (hw : x_W g s.heap H locs u) (hl : lv_has ls 1 [(0, .int a1)]) (h : p_X5_beginsStep a1 u Qf) : W p l e (x_rm 0 0) s m args below meth c H locs 0 0 (MQ below (x_Qz g Qf) args s 0 0 (x_A g)) (F0 m 0 ls []) := by
  unfold p_X5_beginsStep at h
  have hx := C.1
  have hb := C.2.1
  refine lv_iload_n hx hb dX5_beginsStep_0 rfl (lv_at hl 0 rfl) ?_
  by_cases c1 : a1 = 17
  · refine lv_tableIn (off := 59) (tgt := 60) hx hb dX5_beginsStep_1 (by rw [c1]; decide) (by rw [c1]; decide) (by rw [c1]; rfl) (by decide) ?_
    have h := h.1 c1
    refine lv_iconst (v := 1) hx hb dX5_beginsStep_60 (by decide) ?_
    exact x_zret true C hw h rfl dX5_beginsStep_61
  by_cases c2 : a1 = 18
  · refine lv_tableIn (off := 59) (tgt := 60) hx hb dX5_beginsStep_1 (by rw [c2]; decide) (by rw [c2]; decide) (by rw [c2]; rfl) (by decide) ?_
    have h := h.2.1 c2
    refine lv_iconst (v := 1) hx hb dX5_beginsStep_60 (by decide) ?_
    exact x_zret true C hw h rfl dX5_beginsStep_61
  by_cases c3 : a1 = 19
  · refine lv_tableIn (off := 59) (tgt := 60) hx hb dX5_beginsStep_1 (by rw [c3]; decide) (by rw [c3]; decide) (by rw [c3]; rfl) (by decide) ?_
    have h := h.2.2.1 c3
    refine lv_iconst (v := 1) hx hb dX5_beginsStep_60 (by decide) ?_
    exact x_zret true C hw h rfl dX5_beginsStep_61
  by_cases c4 : a1 = 20
  · refine lv_tableIn (off := 59) (tgt := 60) hx hb dX5_beginsStep_1 (by rw [c4]; decide) (by rw [c4]; decide) (by rw [c4]; rfl) (by decide) ?_
    have h := h.2.2.2.1 c4
    refine lv_iconst (v := 1) hx hb dX5_beginsStep_60 (by decide) ?_
    exact x_zret true C hw h rfl dX5_beginsStep_61
  by_cases c5 : a1 = 21
  · refine lv_tableIn (off := 59) (tgt := 60) hx hb dX5_beginsStep_1 (by rw [c5]; decide) (by rw [c5]; decide) (by rw [c5]; rfl) (by decide) ?_
    have h := h.2.2.2.2.1 c5
    refine lv_iconst (v := 1) hx hb dX5_beginsStep_60 (by decide) ?_
    exact x_zret true C hw h rfl dX5_beginsStep_61
  by_cases c6 : a1 = 22
  · refine lv_tableIn (off := 59) (tgt := 60) hx hb dX5_beginsStep_1 (by rw [c6]; decide) (by rw [c6]; decide) (by rw [c6]; rfl) (by decide) ?_
    have h := h.2.2.2.2.2.1 c6
    refine lv_iconst (v := 1) hx hb dX5_beginsStep_60 (by decide) ?_
    exact x_zret true C hw h rfl dX5_beginsStep_61
  by_cases c7 : a1 = 23
  · refine lv_tableIn (off := 61) (tgt := 62) hx hb dX5_beginsStep_1 (by rw [c7]; decide) (by rw [c7]; decide) (by rw [c7]; rfl) (by decide) ?_
    have h := h.2.2.2.2.2.2.1 c7
    refine lv_iconst (v := 0) hx hb dX5_beginsStep_62 (by decide) ?_
    exact x_zret false C hw h rfl dX5_beginsStep_63
  by_cases c8 : a1 = 24
  · refine lv_tableIn (off := 61) (tgt := 62) hx hb dX5_beginsStep_1 (by rw [c8]; decide) (by rw [c8]; decide) (by rw [c8]; rfl) (by decide) ?_
    have h := h.2.2.2.2.2.2.2.1 c8
    refine lv_iconst (v := 0) hx hb dX5_beginsStep_62 (by decide) ?_
    exact x_zret false C hw h rfl dX5_beginsStep_63
  by_cases c9 : a1 = 25
  · refine lv_tableIn (off := 59) (tgt := 60) hx hb dX5_beginsStep_1 (by rw [c9]; decide) (by rw [c9]; decide) (by rw [c9]; rfl) (by decide) ?_
    have h := h.2.2.2.2.2.2.2.2.1 c9
    refine lv_iconst (v := 1) hx hb dX5_beginsStep_60 (by decide) ?_
    exact x_zret true C hw h rfl dX5_beginsStep_61
  by_cases c10 : a1 = 26
  · refine lv_tableIn (off := 61) (tgt := 62) hx hb dX5_beginsStep_1 (by rw [c10]; decide) (by rw [c10]; decide) (by rw [c10]; rfl) (by decide) ?_
    have h := h.2.2.2.2.2.2.2.2.2.1 c10
    refine lv_iconst (v := 0) hx hb dX5_beginsStep_62 (by decide) ?_
    exact x_zret false C hw h rfl dX5_beginsStep_63
  by_cases c11 : a1 = 27
  · refine lv_tableIn (off := 59) (tgt := 60) hx hb dX5_beginsStep_1 (by rw [c11]; decide) (by rw [c11]; decide) (by rw [c11]; rfl) (by decide) ?_
    have h := h.2.2.2.2.2.2.2.2.2.2.1 c11
    refine lv_iconst (v := 1) hx hb dX5_beginsStep_60 (by decide) ?_
    exact x_zret true C hw h rfl dX5_beginsStep_61
  have ec1 : a1.toInt ≠ 17 := fun z => c1 (Int32.toInt_inj.mp (z.trans (by decide)))
  have ec2 : a1.toInt ≠ 18 := fun z => c2 (Int32.toInt_inj.mp (z.trans (by decide)))
  have ec3 : a1.toInt ≠ 19 := fun z => c3 (Int32.toInt_inj.mp (z.trans (by decide)))
  have ec4 : a1.toInt ≠ 20 := fun z => c4 (Int32.toInt_inj.mp (z.trans (by decide)))
  have ec5 : a1.toInt ≠ 21 := fun z => c5 (Int32.toInt_inj.mp (z.trans (by decide)))
  have ec6 : a1.toInt ≠ 22 := fun z => c6 (Int32.toInt_inj.mp (z.trans (by decide)))
  have ec7 : a1.toInt ≠ 23 := fun z => c7 (Int32.toInt_inj.mp (z.trans (by decide)))
  have ec8 : a1.toInt ≠ 24 := fun z => c8 (Int32.toInt_inj.mp (z.trans (by decide)))
  have ec9 : a1.toInt ≠ 25 := fun z => c9 (Int32.toInt_inj.mp (z.trans (by decide)))
  have ec10 : a1.toInt ≠ 26 := fun z => c10 (Int32.toInt_inj.mp (z.trans (by decide)))
  have ec11 : a1.toInt ≠ 27 := fun z => c11 (Int32.toInt_inj.mp (z.trans (by decide)))
  refine lv_tableOut (tgt := 62) hx hb dX5_beginsStep_1 (by omega) (by decide) ?_
  have h := h.2.2.2.2.2.2.2.2.2.2.2 c1 c2 c3 c4 c5 c6 c7 c8 c9 c10 c11
  refine lv_iconst (v := 0) hx hb dX5_beginsStep_62 (by decide) ?_
  exact x_zret false C hw h rfl dX5_beginsStep_63
set_option maxHeartbeats 4000000 in
set_option maxRecDepth 100000 in
theorem m_X5_beginsStep (l : Launch) {g : xG} (hD : x_D g) {a1 : Int32} {u : xM} {Qf : Bool → xM → Prop} (h : p_X5_beginsStep a1 u Qf) : Met l yX5_beginsStep (Cond.code yX5_beginsStep cX5_beginsStep 1 (some .boolean) :: wsL_law) (x_rm 0 0) (va_Pc [.int a1] (x_B g u)) (x_Qz g Qf) 0 0 (x_A g) := by
  refine Met.ofW (cc := cX5_beginsStep) (maxL := 1) (ret := (some .boolean)) (by decide) rfl ?_
  intro p e s m args below meth c s₁ B hml hv
  obtain ⟨rfl, hB⟩ := hv
  obtain ⟨C, hw⟩ := x_start B hml hD hB
  have hl := lv_entry [.int a1] (n := 1) (Nat.le_of_ble_eq_true rfl)
  rw [lg_entry_eq]
  exact s_X5_beginsStep C hw hl h
set_option maxHeartbeats 4000000 in
set_option maxRecDepth 100000 in
theorem s_X5_goWithin {Qf : Bool → xM → Prop} (C : x_C p s m args meth c g RX5 cX5_goWithin 1 (some .boolean)) (hX : xpX g) {u : xM} {H : Heap} {locs : List Loc} {ls : Array Slot} (hw : x_W g s.heap H locs u) (hl : lv_has ls 1 [(0, .ref (xad g 32))]) (h : p_X5_goWithin  u Qf) : W p l e (x_rm 1 21) s m args below meth c H locs 0 0 (MQ below (x_Qz g Qf) args s 0 0 (x_A g)) (F0 m 0 ls []) := by
  unfold p_X5_goWithin at h
  have hx := C.1
  have hb := C.2.1
  refine lv_aload_n hx hb dX5_goWithin_0 rfl (lv_at hl 0 rfl) ?_
  refine x_geti (ci := 5) C hw 3 (xoX_32 hX) rfl inlX5 (by decide) rfl rfl xw_746 dX5_goWithin_1 ?_
  refine lv_iconst (v := 3) hx hb dX5_goWithin_4 (by decide) ?_
  refine lv_icmp_lt (tgt := 18) hx hb dX5_goWithin_5 (by decide) (fun c1 => ?_) (fun c1 => ?_)
  · have h := h.1 c1
    refine lv_aload_n hx hb dX5_goWithin_18 rfl (lv_at hl 0 rfl) ?_
    refine x_getr (ci := 5) C hw 2 (xoX_32 hX) rfl inlX5 (by decide) rfl rfl xrX_32_2 xw_204 dX5_goWithin_19 ?_
    refine lv_aload_n hx hb dX5_goWithin_22 rfl (lv_at hl 0 rfl) ?_
    refine x_geti (ci := 5) C hw 3 (xoX_32 hX) rfl inlX5 (by decide) rfl rfl xw_746 dX5_goWithin_23 ?_
    refine lv_aload_n hx hb dX5_goWithin_26 rfl (lv_at hl 0 rfl) ?_
    refine x_getr (ci := 5) C hw 1 (xoX_32 hX) rfl inlX5 (by decide) rfl rfl xrX_32_1 xw_203 dX5_goWithin_27 ?_
    refine x_geti (ci := 4) C hw 2 (xoN_0 (xpN_63 hX)) rfl inlX4 (by decide) rfl rfl xw_756 dX5_goWithin_30 ?_
    have c2 := h.1
    have h := h.2
    obtain ⟨u3, eu3⟩ : ∃ q : xM, q = si u 33 (gi u 32 3).toNatClampNeg (gi u 63 2) := ⟨_, rfl⟩
    have h := h u3 eu3
    refine x_iast C hw (xoX_33 hX) c2 dX5_goWithin_33 eu3 (fun H locs hw => ?_)
    refine lv_aload_n hx hb dX5_goWithin_34 rfl (lv_at hl 0 rfl) ?_
    refine lv_dup hx hb dX5_goWithin_35 rfl ?_
    refine x_geti (ci := 5) C hw 3 (xoX_32 hX) rfl inlX5 (by decide) rfl rfl xw_746 dX5_goWithin_36 ?_
    refine lv_iconst (v := 1) hx hb dX5_goWithin_39 (by decide) ?_
    refine lv_iadd hx hb dX5_goWithin_40 ?_
    obtain ⟨u4, eu4⟩ : ∃ q : xM, q = si u3 32 3 ((gi u3 32 3) + (1 : Int32)) := ⟨_, rfl⟩
    have h := h u4 eu4
    refine x_puti (ci := 5) (ty := .int) C hw 3 (xoX_32 hX) rfl inlX5 tyX5_ok nmX5 (by decide) rfl rfl xw_746 rfl (by decide +kernel) rfl rfl dX5_goWithin_41 eu4 (fun H locs hw => ?_)
    refine lv_iconst (v := 1) hx hb dX5_goWithin_44 (by decide) ?_
    exact x_zret true C hw h rfl dX5_goWithin_45
  · have h := h.2 c1
    refine lv_aload_n hx hb dX5_goWithin_8 rfl (lv_at hl 0 rfl) ?_
    refine x_getr (ci := 5) C hw 0 (xoX_32 hX) rfl inlX5 (by decide) rfl rfl xrX_32_0 xw_201 dX5_goWithin_9 ?_
    refine lv_bipush (v := 7) hx hb dX5_goWithin_12 (by decide) ?_
    refine x_callz hw (x_runV (ci := 8) C hw (m_X8_wrong l C.2.2.2.2.2.2.2.2.1 (xpT_40 hX) h) (xoT_0 (xpT_40 hX)) rfl (x_gV xw_757 xw_494 xw_495 xw_122 xw_496) rfl rfl qX8_wrong ⟨(Nat.le_of_ble_eq_true rfl), (Nat.le_of_ble_eq_true rfl)⟩ rfl hl.1 rfl (Nat.le_of_ble_eq_true rfl) dX5_goWithin_14) (fun r6 u5 H locs hw h => ?_)
    exact x_zret _ C hw h rfl dX5_goWithin_17
set_option maxHeartbeats 4000000 in
set_option maxRecDepth 100000 in
theorem m_X5_goWithin (l : Launch) {g : xG} (hD : x_D g) (hX : xpX g) {u : xM} {Qf : Bool → xM → Prop} (h : p_X5_goWithin  u Qf) : Met l yX5_goWithin (Cond.code yX5_goWithin cX5_goWithin 1 (some .boolean) :: wsL_law) (x_rm 1 21) (va_Pc [.ref (xad g 32)] (x_B g u)) (x_Qz g Qf) 0 0 (x_A g) := by
  refine Met.ofW (cc := cX5_goWithin) (maxL := 1) (ret := (some .boolean)) (by decide) rfl ?_
  intro p e s m args below meth c s₁ B hml hv
  obtain ⟨rfl, hB⟩ := hv
  obtain ⟨C, hw⟩ := x_start B hml hD hB
  have hl := lv_entry [.ref (xad g 32)] (n := 1) (Nat.le_of_ble_eq_true rfl)
  rw [lg_entry_eq]
  exact s_X5_goWithin C hX hw hl h
set_option maxHeartbeats 4000000 in
set_option maxRecDepth 100000 in
theorem s_X5_mayBegin_L81 {Qf : Bool → xM → Prop} (C : x_C p s m args meth c g RX5 cX5_mayBegin 1 (some .boolean)) (hX : xpX g) {u : xM} {H : Heap} {locs : List Loc} {ls : Array Slot} (hw : x_W g s.heap H locs u) (hl : lv_has ls 1 [(0, .ref (xad g 32))]) (h : p_X5_mayBegin_L81 Qf  u) : W p l e (x_rm 2 41) s m args below meth c H locs 0 0 (MQ below (x_Qz g Qf) args s 0 0 (x_A g)) (F0 m 81 ls []) := by
  unfold p_X5_mayBegin_L81 at h
  have hx := C.1
  have hb := C.2.1
  refine lv_aload_n hx hb dX5_mayBegin_81 rfl (lv_at hl 0 rfl) ?_
  refine x_callz hw (x_runV (ci := 5) C hw (m_X5_goWithin l C.2.2.2.2.2.2.2.2.1 hX h) (xoX_32 hX) rfl (x_gV xw_775 xw_776 xw_777 xw_32 xw_778) rfl rfl qX5_goWithin ⟨(Nat.le_of_ble_eq_true rfl), (Nat.le_of_ble_eq_true rfl)⟩ rfl hl.1 rfl (Nat.le_of_ble_eq_true rfl) dX5_mayBegin_82) (fun r2 u1 H locs hw h => ?_)
  refine lv_if_eq (tgt := 92) hx hb dX5_mayBegin_85 (by decide) (fun c3 => ?_) (fun c3 => ?_)
  · have h := h.1 (xb_f c3)
    refine lv_iconst (v := 0) hx hb dX5_mayBegin_92 (by decide) ?_
    exact x_zret false C hw h rfl dX5_mayBegin_93
  · have h := h.2 (xb_t c3)
    refine lv_iconst (v := 1) hx hb dX5_mayBegin_88 (by decide) ?_
    refine lv_goto (tgt := 93) hx hb dX5_mayBegin_89 (by decide) ?_
    exact x_zret true C hw h rfl dX5_mayBegin_93
set_option maxHeartbeats 4000000 in
set_option maxRecDepth 100000 in
theorem s_X5_mayBegin {Qf : Bool → xM → Prop} (C : x_C p s m args meth c g RX5 cX5_mayBegin 1 (some .boolean)) (hX : xpX g) {u : xM} {H : Heap} {locs : List Loc} {ls : Array Slot} (hw : x_W g s.heap H locs u) (hl : lv_has ls 1 [(0, .ref (xad g 32))]) (h : p_X5_mayBegin  u Qf) : W p l e (x_rm 2 41) s m args below meth c H locs 0 0 (MQ below (x_Qz g Qf) args s 0 0 (x_A g)) (F0 m 0 ls []) := by
  unfold p_X5_mayBegin at h
  have hx := C.1
  have hb := C.2.1
  refine lv_aload_n hx hb dX5_mayBegin_0 rfl (lv_at hl 0 rfl) ?_
  refine x_getr (ci := 5) C hw 0 (xoX_32 hX) rfl inlX5 (by decide) rfl rfl xrX_32_0 xw_201 dX5_mayBegin_1 ?_
  refine x_geti (ci := 8) C hw 11 (xoT_0 (xpT_40 hX)) rfl inlX8 (by decide) rfl rfl xw_747 dX5_mayBegin_4 ?_
  refine x_callz hw (x_runS C hw (m_X5_beginsStep l C.2.2.2.2.2.2.2.2.1  h) (x_gS xw_772 xw_773 xw_32 xw_774) rfl rfl qX5_beginsStep ⟨(Nat.le_of_ble_eq_true rfl), (Nat.le_of_ble_eq_true rfl)⟩ rfl hl.1 rfl (Nat.le_of_ble_eq_true rfl) dX5_mayBegin_7) (fun r2 u1 H locs hw h => ?_)
  refine lv_if_ne (tgt := 22) hx hb dX5_mayBegin_10 (by decide) (fun c3 => ?_) (fun c3 => ?_)
  · have h := h.1 (xb_t c3)
    refine lv_aload_n hx hb dX5_mayBegin_22 rfl (lv_at hl 0 rfl) ?_
    refine x_getr (ci := 5) C hw 1 (xoX_32 hX) rfl inlX5 (by decide) rfl rfl xrX_32_1 xw_203 dX5_mayBegin_23 ?_
    refine x_geti (ci := 4) C hw 1 (xoN_0 (xpN_63 hX)) rfl inlX4 (by decide) rfl rfl xw_771 dX5_mayBegin_26 ?_
    refine lv_bipush (v := 30) hx hb dX5_mayBegin_29 (by decide) ?_
    refine lv_icmp_lt (tgt := 44) hx hb dX5_mayBegin_31 (by decide) (fun c4 => ?_) (fun c4 => ?_)
    · have h := h.1 c4
      refine lv_aload_n hx hb dX5_mayBegin_44 rfl (lv_at hl 0 rfl) ?_
      refine x_getr (ci := 5) C hw 1 (xoX_32 hX) rfl inlX5 (by decide) rfl rfl xrX_32_1 xw_203 dX5_mayBegin_45 ?_
      refine lv_dup hx hb dX5_mayBegin_48 rfl ?_
      refine x_geti (ci := 4) C hw 1 (xoN_0 (xpN_63 hX)) rfl inlX4 (by decide) rfl rfl xw_771 dX5_mayBegin_49 ?_
      refine lv_iconst (v := 1) hx hb dX5_mayBegin_52 (by decide) ?_
      refine lv_iadd hx hb dX5_mayBegin_53 ?_
      obtain ⟨u5, eu5⟩ : ∃ q : xM, q = si u1 63 1 ((gi u1 63 1) + (1 : Int32)) := ⟨_, rfl⟩
      have h := h u5 eu5
      refine x_puti (ci := 4) (ty := .int) C hw 1 (xoN_0 (xpN_63 hX)) rfl inlX4 tyX4_ok nmX4 (by decide) rfl rfl xw_771 rfl (by decide +kernel) rfl rfl dX5_mayBegin_54 eu5 (fun H locs hw => ?_)
      refine lv_aload_n hx hb dX5_mayBegin_57 rfl (lv_at hl 0 rfl) ?_
      refine x_getr (ci := 5) C hw 0 (xoX_32 hX) rfl inlX5 (by decide) rfl rfl xrX_32_0 xw_201 dX5_mayBegin_58 ?_
      refine x_geti (ci := 8) C hw 11 (xoT_0 (xpT_40 hX)) rfl inlX8 (by decide) rfl rfl xw_747 dX5_mayBegin_61 ?_
      refine lv_bipush (v := 22) hx hb dX5_mayBegin_64 (by decide) ?_
      refine lv_icmp_eq (tgt := 81) hx hb dX5_mayBegin_66 (by decide) (fun c6 => ?_) (fun c6 => ?_)
      · have h := h.1 c6
        exact s_X5_mayBegin_L81 C hX hw (lv_sub hl [0] rfl) h
      · have h := h.2 c6
        refine lv_aload_n hx hb dX5_mayBegin_69 rfl (lv_at hl 0 rfl) ?_
        refine x_getr (ci := 5) C hw 0 (xoX_32 hX) rfl inlX5 (by decide) rfl rfl xrX_32_0 xw_201 dX5_mayBegin_70 ?_
        refine x_geti (ci := 8) C hw 11 (xoT_0 (xpT_40 hX)) rfl inlX8 (by decide) rfl rfl xw_747 dX5_mayBegin_73 ?_
        refine lv_bipush (v := 25) hx hb dX5_mayBegin_76 (by decide) ?_
        refine lv_icmp_ne (tgt := 88) hx hb dX5_mayBegin_78 (by decide) (fun c7 => ?_) (fun c7 => ?_)
        · have h := h.1 c7
          refine lv_iconst (v := 1) hx hb dX5_mayBegin_88 (by decide) ?_
          refine lv_goto (tgt := 93) hx hb dX5_mayBegin_89 (by decide) ?_
          exact x_zret true C hw h rfl dX5_mayBegin_93
        · have h := h.2 c7
          exact s_X5_mayBegin_L81 C hX hw (lv_sub hl [0] rfl) h
    · have h := h.2 c4
      refine lv_aload_n hx hb dX5_mayBegin_34 rfl (lv_at hl 0 rfl) ?_
      refine x_getr (ci := 5) C hw 0 (xoX_32 hX) rfl inlX5 (by decide) rfl rfl xrX_32_0 xw_201 dX5_mayBegin_35 ?_
      refine lv_bipush (v := 6) hx hb dX5_mayBegin_38 (by decide) ?_
      refine x_callz hw (x_runV (ci := 8) C hw (m_X8_wrong l C.2.2.2.2.2.2.2.2.1 (xpT_40 hX) h) (xoT_0 (xpT_40 hX)) rfl (x_gV xw_757 xw_494 xw_495 xw_122 xw_496) rfl rfl qX8_wrong ⟨(Nat.le_of_ble_eq_true rfl), (Nat.le_of_ble_eq_true rfl)⟩ rfl hl.1 rfl (Nat.le_of_ble_eq_true rfl) dX5_mayBegin_40) (fun r9 u8 H locs hw h => ?_)
      exact x_zret _ C hw h rfl dX5_mayBegin_43
  · have h := h.2 (xb_f c3)
    refine lv_aload_n hx hb dX5_mayBegin_13 rfl (lv_at hl 0 rfl) ?_
    refine x_getr (ci := 5) C hw 0 (xoX_32 hX) rfl inlX5 (by decide) rfl rfl xrX_32_0 xw_201 dX5_mayBegin_14 ?_
    refine lv_iconst (v := 2) hx hb dX5_mayBegin_17 (by decide) ?_
    refine x_callz hw (x_runV (ci := 8) C hw (m_X8_wrong l C.2.2.2.2.2.2.2.2.1 (xpT_40 hX) h) (xoT_0 (xpT_40 hX)) rfl (x_gV xw_757 xw_494 xw_495 xw_122 xw_496) rfl rfl qX8_wrong ⟨(Nat.le_of_ble_eq_true rfl), (Nat.le_of_ble_eq_true rfl)⟩ rfl hl.1 rfl (Nat.le_of_ble_eq_true rfl) dX5_mayBegin_18) (fun r11 u10 H locs hw h => ?_)
    exact x_zret _ C hw h rfl dX5_mayBegin_21
set_option maxHeartbeats 4000000 in
set_option maxRecDepth 100000 in
theorem m_X5_mayBegin (l : Launch) {g : xG} (hD : x_D g) (hX : xpX g) {u : xM} {Qf : Bool → xM → Prop} (h : p_X5_mayBegin  u Qf) : Met l yX5_mayBegin (Cond.code yX5_mayBegin cX5_mayBegin 1 (some .boolean) :: wsL_law) (x_rm 2 41) (va_Pc [.ref (xad g 32)] (x_B g u)) (x_Qz g Qf) 0 0 (x_A g) := by
  refine Met.ofW (cc := cX5_mayBegin) (maxL := 1) (ret := (some .boolean)) (by decide) rfl ?_
  intro p e s m args below meth c s₁ B hml hv
  obtain ⟨rfl, hB⟩ := hv
  obtain ⟨C, hw⟩ := x_start B hml hD hB
  have hl := lv_entry [.ref (xad g 32)] (n := 1) (Nat.le_of_ble_eq_true rfl)
  rw [lg_entry_eq]
  exact s_X5_mayBegin C hX hw hl h
set_option maxHeartbeats 4000000 in
set_option maxRecDepth 100000 in
theorem s_X5_addNumber {Qf : Bool → xM → Prop} {a1 : Int32} {a2 : Int32} (C : x_C p s m args meth c g RX5 cX5_addNumber 4 (some .boolean)) (hX : xpX g) {u : xM} {H : Heap} {locs : List Loc} {ls : Array Slot} (hw : x_W g s.heap H locs u) (hl : lv_has ls 4 [(0, .ref (xad g 32)), (1, .int a1), (2, .int a2)]) (h : p_X5_addNumber a1 a2 u Qf) : W p l e (x_rm 2 44) s m args below meth c H locs 0 0 (MQ below (x_Qz g Qf) args s 0 0 (x_A g)) (F0 m 0 ls []) := by
  unfold p_X5_addNumber at h
  have hx := C.1
  have hb := C.2.1
  refine lv_aload_n hx hb dX5_addNumber_0 rfl (lv_at hl 0 rfl) ?_
  refine x_getr (ci := 5) C hw 0 (xoX_32 hX) rfl inlX5 (by decide) rfl rfl xrX_32_0 xw_201 dX5_addNumber_1 ?_
  refine lv_iconst (v := 1) hx hb dX5_addNumber_4 (by decide) ?_
  refine lv_iload_n hx hb dX5_addNumber_5 rfl (lv_at hl 2 rfl) ?_
  refine x_calli hw (x_runV (ci := 8) C hw (m_X8_takeNumber l C.2.2.2.2.2.2.2.2.1 (xpT_40 hX) h) (xoT_0 (xpT_40 hX)) rfl (x_gV xw_787 xw_524 xw_525 xw_122 xw_526) rfl rfl qX8_takeNumber ⟨(Nat.le_of_ble_eq_true rfl), (Nat.le_of_ble_eq_true rfl)⟩ rfl hl.1 rfl (Nat.le_of_ble_eq_true rfl) dX5_addNumber_6) (fun r2 u1 H locs hw h => ?_)
  refine lv_istore_n (lv' := [(3, .int r2), (0, .ref (xad g 32)), (1, .int a1), (2, .int a2)]) hx hb dX5_addNumber_9 rfl hl (by decide) rfl (fun ls hl => ?_)
  refine lv_aload_n hx hb dX5_addNumber_10 rfl (lv_at hl 1 rfl) ?_
  refine x_getr (ci := 5) C hw 1 (xoX_32 hX) rfl inlX5 (by decide) rfl rfl xrX_32_1 xw_203 dX5_addNumber_11 ?_
  refine lv_iload_n hx hb dX5_addNumber_14 rfl (lv_at hl 2 rfl) ?_
  refine lv_iconst (v := -1) hx hb dX5_addNumber_15 (by decide) ?_
  refine lv_iload_n hx hb dX5_addNumber_16 rfl (lv_at hl 0 rfl) ?_
  refine x_callv hw (x_runV (ci := 4) C hw (m_X4_add l C.2.2.2.2.2.2.2.2.1 (xpN_63 hX) h) (xoN_0 (xpN_63 hX)) rfl (x_gV xw_759 xw_760 xw_761 xw_19 xw_762) rfl rfl qX4_add ⟨(Nat.le_of_ble_eq_true rfl), (Nat.le_of_ble_eq_true rfl)⟩ rfl hl.1 rfl (Nat.le_of_ble_eq_true rfl) dX5_addNumber_17) (fun u3 H locs hw h => ?_)
  refine lv_iload_n hx hb dX5_addNumber_20 rfl (lv_at hl 0 rfl) ?_
  refine lv_iconst (v := -1) hx hb dX5_addNumber_21 (by decide) ?_
  refine lv_icmp_eq (tgt := 29) hx hb dX5_addNumber_22 (by decide) (fun c4 => ?_) (fun c4 => ?_)
  · have h := h.1 c4
    refine lv_iconst (v := 0) hx hb dX5_addNumber_29 (by decide) ?_
    exact x_zret false C hw h rfl dX5_addNumber_30
  · have h := h.2 c4
    refine lv_iconst (v := 1) hx hb dX5_addNumber_25 (by decide) ?_
    refine lv_goto (tgt := 30) hx hb dX5_addNumber_26 (by decide) ?_
    exact x_zret true C hw h rfl dX5_addNumber_30
set_option maxHeartbeats 4000000 in
set_option maxRecDepth 100000 in
theorem m_X5_addNumber (l : Launch) {g : xG} (hD : x_D g) (hX : xpX g) {a1 : Int32} {a2 : Int32} {u : xM} {Qf : Bool → xM → Prop} (h : p_X5_addNumber a1 a2 u Qf) : Met l yX5_addNumber (Cond.code yX5_addNumber cX5_addNumber 4 (some .boolean) :: wsL_law) (x_rm 2 44) (va_Pc [.ref (xad g 32), .int a1, .int a2] (x_B g u)) (x_Qz g Qf) 0 0 (x_A g) := by
  refine Met.ofW (cc := cX5_addNumber) (maxL := 4) (ret := (some .boolean)) (by decide) rfl ?_
  intro p e s m args below meth c s₁ B hml hv
  obtain ⟨rfl, hB⟩ := hv
  obtain ⟨C, hw⟩ := x_start B hml hD hB
  have hl := lv_entry [.ref (xad g 32), .int a1, .int a2] (n := 4) (Nat.le_of_ble_eq_true rfl)
  rw [lg_entry_eq]
  exact s_X5_addNumber C hX hw hl h
set_option maxHeartbeats 4000000 in
set_option maxRecDepth 100000 in
theorem s_X5_addDoor {o2 : Nat} {Qf : Bool → xM → Prop} {a1 : Int32} (C : x_C p s m args meth c g RX5 cX5_addDoor 4 (some .boolean)) (hX : xpX g) (ho2 : xpL g o2) {u : xM} {H : Heap} {locs : List Loc} {ls : Array Slot} (hw : x_W g s.heap H locs u) (hl : lv_has ls 4 [(0, .ref (xad g 32)), (1, .int a1), (2, .ref (xad g o2))]) (h : p_X5_addDoor a1 o2 u Qf) : W p l e (x_rm 3 67) s m args below meth c H locs 0 0 (MQ below (x_Qz g Qf) args s 0 0 (x_A g)) (F0 m 0 ls []) := by
  unfold p_X5_addDoor at h
  have hx := C.1
  have hb := C.2.1
  refine lv_aload_n hx hb dX5_addDoor_0 rfl (lv_at hl 0 rfl) ?_
  refine x_getr (ci := 5) C hw 0 (xoX_32 hX) rfl inlX5 (by decide) rfl rfl xrX_32_0 xw_201 dX5_addDoor_1 ?_
  refine lv_aload_n hx hb dX5_addDoor_4 rfl (lv_at hl 2 rfl) ?_
  refine x_calli hw (x_runV (ci := 8) C hw (m_X8_takeDoor l C.2.2.2.2.2.2.2.2.1 (xpT_40 hX) ho2 h) (xoT_0 (xpT_40 hX)) rfl (x_gV xw_792 xw_580 xw_581 xw_122 xw_582) rfl rfl qX8_takeDoor ⟨(Nat.le_of_ble_eq_true rfl), (Nat.le_of_ble_eq_true rfl)⟩ rfl hl.1 rfl (Nat.le_of_ble_eq_true rfl) dX5_addDoor_5) (fun r2 u1 H locs hw h => ?_)
  refine lv_istore_n (lv' := [(3, .int r2), (0, .ref (xad g 32)), (1, .int a1), (2, .ref (xad g o2))]) hx hb dX5_addDoor_8 rfl hl (by decide) rfl (fun ls hl => ?_)
  refine lv_aload_n hx hb dX5_addDoor_9 rfl (lv_at hl 1 rfl) ?_
  refine x_getr (ci := 5) C hw 1 (xoX_32 hX) rfl inlX5 (by decide) rfl rfl xrX_32_1 xw_203 dX5_addDoor_10 ?_
  refine lv_iload_n hx hb dX5_addDoor_13 rfl (lv_at hl 2 rfl) ?_
  refine lv_iload_n hx hb dX5_addDoor_14 rfl (lv_at hl 0 rfl) ?_
  refine lv_iconst (v := 0) hx hb dX5_addDoor_15 (by decide) ?_
  refine x_callv hw (x_runV (ci := 4) C hw (m_X4_add l C.2.2.2.2.2.2.2.2.1 (xpN_63 hX) h) (xoN_0 (xpN_63 hX)) rfl (x_gV xw_759 xw_760 xw_761 xw_19 xw_762) rfl rfl qX4_add ⟨(Nat.le_of_ble_eq_true rfl), (Nat.le_of_ble_eq_true rfl)⟩ rfl hl.1 rfl (Nat.le_of_ble_eq_true rfl) dX5_addDoor_16) (fun u3 H locs hw h => ?_)
  refine lv_iload_n hx hb dX5_addDoor_19 rfl (lv_at hl 0 rfl) ?_
  refine lv_iconst (v := -1) hx hb dX5_addDoor_20 (by decide) ?_
  refine lv_icmp_eq (tgt := 28) hx hb dX5_addDoor_21 (by decide) (fun c4 => ?_) (fun c4 => ?_)
  · have h := h.1 c4
    refine lv_iconst (v := 0) hx hb dX5_addDoor_28 (by decide) ?_
    exact x_zret false C hw h rfl dX5_addDoor_29
  · have h := h.2 c4
    refine lv_iconst (v := 1) hx hb dX5_addDoor_24 (by decide) ?_
    refine lv_goto (tgt := 29) hx hb dX5_addDoor_25 (by decide) ?_
    exact x_zret true C hw h rfl dX5_addDoor_29
set_option maxHeartbeats 4000000 in
set_option maxRecDepth 100000 in
theorem m_X5_addDoor (l : Launch) {g : xG} (hD : x_D g) {o2 : Nat} (hX : xpX g) (ho2 : xpL g o2) {a1 : Int32} {u : xM} {Qf : Bool → xM → Prop} (h : p_X5_addDoor a1 o2 u Qf) : Met l yX5_addDoor (Cond.code yX5_addDoor cX5_addDoor 4 (some .boolean) :: wsL_law) (x_rm 3 67) (va_Pc [.ref (xad g 32), .int a1, .ref (xad g o2)] (x_B g u)) (x_Qz g Qf) 0 0 (x_A g) := by
  refine Met.ofW (cc := cX5_addDoor) (maxL := 4) (ret := (some .boolean)) (by decide) rfl ?_
  intro p e s m args below meth c s₁ B hml hv
  obtain ⟨rfl, hB⟩ := hv
  obtain ⟨C, hw⟩ := x_start B hml hD hB
  have hl := lv_entry [.ref (xad g 32), .int a1, .ref (xad g o2)] (n := 4) (Nat.le_of_ble_eq_true rfl)
  rw [lg_entry_eq]
  exact s_X5_addDoor C hX ho2 hw hl h
set_option maxHeartbeats 4000000 in
set_option maxRecDepth 100000 in
theorem s_X5_addBail {o1 : Nat} {Qf : Bool → xM → Prop} (C : x_C p s m args meth c g RX5 cX5_addBail 4 (some .boolean)) (hX : xpX g) (ho1 : xpL g o1) {u : xM} {H : Heap} {locs : List Loc} {ls : Array Slot} (hw : x_W g s.heap H locs u) (hl : lv_has ls 4 [(0, .ref (xad g 32)), (1, .ref (xad g o1))]) (h : p_X5_addBail o1 u Qf) : W p l e (x_rm 3 67) s m args below meth c H locs 0 0 (MQ below (x_Qz g Qf) args s 0 0 (x_A g)) (F0 m 0 ls []) := by
  unfold p_X5_addBail at h
  have hx := C.1
  have hb := C.2.1
  refine lv_aload_n hx hb dX5_addBail_0 rfl (lv_at hl 0 rfl) ?_
  refine x_getr (ci := 5) C hw 0 (xoX_32 hX) rfl inlX5 (by decide) rfl rfl xrX_32_0 xw_201 dX5_addBail_1 ?_
  refine lv_aload_n hx hb dX5_addBail_4 rfl (lv_at hl 1 rfl) ?_
  refine x_calli hw (x_runV (ci := 8) C hw (m_X8_takeRoom l C.2.2.2.2.2.2.2.2.1 (xpT_40 hX) ho1 h) (xoT_0 (xpT_40 hX)) rfl (x_gV xw_797 xw_567 xw_568 xw_122 xw_569) rfl rfl qX8_takeRoom ⟨(Nat.le_of_ble_eq_true rfl), (Nat.le_of_ble_eq_true rfl)⟩ rfl hl.1 rfl (Nat.le_of_ble_eq_true rfl) dX5_addBail_5) (fun r2 u1 H locs hw h => ?_)
  refine lv_istore_n (lv' := [(2, .int r2), (0, .ref (xad g 32)), (1, .ref (xad g o1))]) hx hb dX5_addBail_8 rfl hl (by decide) rfl (fun ls hl => ?_)
  refine lv_iload_n hx hb dX5_addBail_9 rfl (lv_at hl 0 rfl) ?_
  refine lv_iconst (v := -1) hx hb dX5_addBail_10 (by decide) ?_
  refine lv_icmp_ne (tgt := 16) hx hb dX5_addBail_11 (by decide) (fun c3 => ?_) (fun c3 => ?_)
  · have h := h.1 c3
    refine lv_aload_n hx hb dX5_addBail_16 rfl (lv_at hl 1 rfl) ?_
    refine x_getr (ci := 5) C hw 0 (xoX_32 hX) rfl inlX5 (by decide) rfl rfl xrX_32_0 xw_201 dX5_addBail_17 ?_
    refine lv_iconst (v := 1) hx hb dX5_addBail_20 (by decide) ?_
    refine lv_sipush (v := 999) hx hb dX5_addBail_21 (by decide) ?_
    refine x_calli hw (x_runV (ci := 8) C hw (m_X8_takeNumber l C.2.2.2.2.2.2.2.2.1 (xpT_40 hX) h) (xoT_0 (xpT_40 hX)) rfl (x_gV xw_787 xw_524 xw_525 xw_122 xw_526) rfl rfl qX8_takeNumber ⟨(Nat.le_of_ble_eq_true rfl), (Nat.le_of_ble_eq_true rfl)⟩ rfl hl.1 rfl (Nat.le_of_ble_eq_true rfl) dX5_addBail_24) (fun r5 u4 H locs hw h => ?_)
    refine lv_istore_n (lv' := [(3, .int r5), (2, .int r2), (0, .ref (xad g 32)), (1, .ref (xad g o1))]) hx hb dX5_addBail_27 rfl hl (by decide) rfl (fun ls hl => ?_)
    refine lv_aload_n hx hb dX5_addBail_28 rfl (lv_at hl 2 rfl) ?_
    refine x_getr (ci := 5) C hw 1 (xoX_32 hX) rfl inlX5 (by decide) rfl rfl xrX_32_1 xw_203 dX5_addBail_29 ?_
    refine lv_iconst (v := 3) hx hb dX5_addBail_32 (by decide) ?_
    refine lv_iload_n hx hb dX5_addBail_33 rfl (lv_at hl 1 rfl) ?_
    refine lv_iload_n hx hb dX5_addBail_34 rfl (lv_at hl 0 rfl) ?_
    refine x_callv hw (x_runV (ci := 4) C hw (m_X4_add l C.2.2.2.2.2.2.2.2.1 (xpN_63 hX) h) (xoN_0 (xpN_63 hX)) rfl (x_gV xw_759 xw_760 xw_761 xw_19 xw_762) rfl rfl qX4_add ⟨(Nat.le_of_ble_eq_true rfl), (Nat.le_of_ble_eq_true rfl)⟩ rfl hl.1 rfl (Nat.le_of_ble_eq_true rfl) dX5_addBail_35) (fun u6 H locs hw h => ?_)
    refine lv_iload_n hx hb dX5_addBail_38 rfl (lv_at hl 0 rfl) ?_
    refine lv_iconst (v := -1) hx hb dX5_addBail_39 (by decide) ?_
    refine lv_icmp_eq (tgt := 47) hx hb dX5_addBail_40 (by decide) (fun c7 => ?_) (fun c7 => ?_)
    · have h := h.1 c7
      refine lv_iconst (v := 0) hx hb dX5_addBail_47 (by decide) ?_
      exact x_zret false C hw h rfl dX5_addBail_48
    · have h := h.2 c7
      refine lv_iconst (v := 1) hx hb dX5_addBail_43 (by decide) ?_
      refine lv_goto (tgt := 48) hx hb dX5_addBail_44 (by decide) ?_
      exact x_zret true C hw h rfl dX5_addBail_48
  · have h := h.2 c3
    refine lv_iconst (v := 0) hx hb dX5_addBail_14 (by decide) ?_
    exact x_zret false C hw h rfl dX5_addBail_15
set_option maxHeartbeats 4000000 in
set_option maxRecDepth 100000 in
theorem m_X5_addBail (l : Launch) {g : xG} (hD : x_D g) {o1 : Nat} (hX : xpX g) (ho1 : xpL g o1) {u : xM} {Qf : Bool → xM → Prop} (h : p_X5_addBail o1 u Qf) : Met l yX5_addBail (Cond.code yX5_addBail cX5_addBail 4 (some .boolean) :: wsL_law) (x_rm 3 67) (va_Pc [.ref (xad g 32), .ref (xad g o1)] (x_B g u)) (x_Qz g Qf) 0 0 (x_A g) := by
  refine Met.ofW (cc := cX5_addBail) (maxL := 4) (ret := (some .boolean)) (by decide) rfl ?_
  intro p e s m args below meth c s₁ B hml hv
  obtain ⟨rfl, hB⟩ := hv
  obtain ⟨C, hw⟩ := x_start B hml hD hB
  have hl := lv_entry [.ref (xad g 32), .ref (xad g o1)] (n := 4) (Nat.le_of_ble_eq_true rfl)
  rw [lg_entry_eq]
  exact s_X5_addBail C hX ho1 hw hl h
set_option maxHeartbeats 4000000 in
set_option maxRecDepth 100000 in
theorem s_X5_addBare {Qf : Bool → xM → Prop} {a1 : Int32} (C : x_C p s m args meth c g RX5 cX5_addBare 2 (some .boolean)) (hX : xpX g) {u : xM} {H : Heap} {locs : List Loc} {ls : Array Slot} (hw : x_W g s.heap H locs u) (hl : lv_has ls 2 [(0, .ref (xad g 32)), (1, .int a1)]) (h : p_X5_addBare a1 u Qf) : W p l e (x_rm 1 23) s m args below meth c H locs 0 0 (MQ below (x_Qz g Qf) args s 0 0 (x_A g)) (F0 m 0 ls []) := by
  unfold p_X5_addBare at h
  have hx := C.1
  have hb := C.2.1
  refine lv_aload_n hx hb dX5_addBare_0 rfl (lv_at hl 0 rfl) ?_
  refine x_getr (ci := 5) C hw 1 (xoX_32 hX) rfl inlX5 (by decide) rfl rfl xrX_32_1 xw_203 dX5_addBare_1 ?_
  refine lv_iload_n hx hb dX5_addBare_4 rfl (lv_at hl 1 rfl) ?_
  refine lv_iconst (v := -1) hx hb dX5_addBare_5 (by decide) ?_
  refine lv_iconst (v := 0) hx hb dX5_addBare_6 (by decide) ?_
  refine x_callv hw (x_runV (ci := 4) C hw (m_X4_add l C.2.2.2.2.2.2.2.2.1 (xpN_63 hX) h) (xoN_0 (xpN_63 hX)) rfl (x_gV xw_759 xw_760 xw_761 xw_19 xw_762) rfl rfl qX4_add ⟨(Nat.le_of_ble_eq_true rfl), (Nat.le_of_ble_eq_true rfl)⟩ rfl hl.1 rfl (Nat.le_of_ble_eq_true rfl) dX5_addBare_7) (fun u1 H locs hw h => ?_)
  refine lv_iconst (v := 1) hx hb dX5_addBare_10 (by decide) ?_
  exact x_zret true C hw h rfl dX5_addBare_11
set_option maxHeartbeats 4000000 in
set_option maxRecDepth 100000 in
theorem m_X5_addBare (l : Launch) {g : xG} (hD : x_D g) (hX : xpX g) {a1 : Int32} {u : xM} {Qf : Bool → xM → Prop} (h : p_X5_addBare a1 u Qf) : Met l yX5_addBare (Cond.code yX5_addBare cX5_addBare 2 (some .boolean) :: wsL_law) (x_rm 1 23) (va_Pc [.ref (xad g 32), .int a1] (x_B g u)) (x_Qz g Qf) 0 0 (x_A g) := by
  refine Met.ofW (cc := cX5_addBare) (maxL := 2) (ret := (some .boolean)) (by decide) rfl ?_
  intro p e s m args below meth c s₁ B hml hv
  obtain ⟨rfl, hB⟩ := hv
  obtain ⟨C, hw⟩ := x_start B hml hD hB
  have hl := lv_entry [.ref (xad g 32), .int a1] (n := 2) (Nat.le_of_ble_eq_true rfl)
  rw [lg_entry_eq]
  exact s_X5_addBare C hX hw hl h
set_option maxHeartbeats 4000000 in
set_option maxRecDepth 100000 in
theorem s_X5_kindOf {Qf : Int32 → xM → Prop} {a1 : Int32} (C : x_C p s m args meth c g RX5 cX5_kindOf 1 (some .int)) {u : xM} {H : Heap} {locs : List Loc} {ls : Array Slot} (hw : x_W g s.heap H locs u) (hl : lv_has ls 1 [(0, .int a1)]) (h : p_X5_kindOf a1 u Qf) : W p l e (x_rm 0 0) s m args below meth c H locs 0 0 (MQ below (x_Qi g Qf) args s 0 0 (x_A g)) (F0 m 0 ls []) := by
  unfold p_X5_kindOf at h
  have hx := C.1
  have hb := C.2.1
  refine lv_iload_n hx hb dX5_kindOf_0 rfl (lv_at hl 0 rfl) ?_
  by_cases c1 : a1 = 60
  · refine lv_tableIn (off := 27) (tgt := 28) hx hb dX5_kindOf_1 (by rw [c1]; decide) (by rw [c1]; decide) (by rw [c1]; rfl) (by decide) ?_
    have h := h.1 c1
    refine lv_bipush (v := 7) hx hb dX5_kindOf_28 (by decide) ?_
    exact x_iret C hw h dX5_kindOf_30
  by_cases c2 : a1 = 61
  · refine lv_tableIn (off := 33) (tgt := 34) hx hb dX5_kindOf_1 (by rw [c2]; decide) (by rw [c2]; decide) (by rw [c2]; rfl) (by decide) ?_
    have h := h.2.1 c2
    refine lv_bipush (v := 9) hx hb dX5_kindOf_34 (by decide) ?_
    exact x_iret C hw h dX5_kindOf_36
  by_cases c3 : a1 = 62
  · refine lv_tableIn (off := 30) (tgt := 31) hx hb dX5_kindOf_1 (by rw [c3]; decide) (by rw [c3]; decide) (by rw [c3]; rfl) (by decide) ?_
    have h := h.2.2.1 c3
    refine lv_bipush (v := 8) hx hb dX5_kindOf_31 (by decide) ?_
    exact x_iret C hw h dX5_kindOf_33
  have ec1 : a1.toInt ≠ 60 := fun z => c1 (Int32.toInt_inj.mp (z.trans (by decide)))
  have ec2 : a1.toInt ≠ 61 := fun z => c2 (Int32.toInt_inj.mp (z.trans (by decide)))
  have ec3 : a1.toInt ≠ 62 := fun z => c3 (Int32.toInt_inj.mp (z.trans (by decide)))
  refine lv_tableOut (tgt := 37) hx hb dX5_kindOf_1 (by omega) (by decide) ?_
  have h := h.2.2.2 c1 c2 c3
  refine lv_iconst (v := -1) hx hb dX5_kindOf_37 (by decide) ?_
  exact x_iret C hw h dX5_kindOf_38
set_option maxHeartbeats 4000000 in
set_option maxRecDepth 100000 in
theorem m_X5_kindOf (l : Launch) {g : xG} (hD : x_D g) {a1 : Int32} {u : xM} {Qf : Int32 → xM → Prop} (h : p_X5_kindOf a1 u Qf) : Met l yX5_kindOf (Cond.code yX5_kindOf cX5_kindOf 1 (some .int) :: wsL_law) (x_rm 0 0) (va_Pc [.int a1] (x_B g u)) (x_Qi g Qf) 0 0 (x_A g) := by
  refine Met.ofW (cc := cX5_kindOf) (maxL := 1) (ret := (some .int)) (by decide) rfl ?_
  intro p e s m args below meth c s₁ B hml hv
  obtain ⟨rfl, hB⟩ := hv
  obtain ⟨C, hw⟩ := x_start B hml hD hB
  have hl := lv_entry [.int a1] (n := 1) (Nat.le_of_ble_eq_true rfl)
  rw [lg_entry_eq]
  exact s_X5_kindOf C hw hl h
set_option maxHeartbeats 4000000 in
set_option maxRecDepth 100000 in
theorem s_X5_addDepth {Qf : Bool → xM → Prop} {a1 : Int32} (C : x_C p s m args meth c g RX5 cX5_addDepth 4 (some .boolean)) (hX : xpX g) {u : xM} {H : Heap} {locs : List Loc} {ls : Array Slot} (hw : x_W g s.heap H locs u) (hl : lv_has ls 4 [(0, .ref (xad g 32)), (1, .int a1)]) (h : p_X5_addDepth a1 u Qf) : W p l e (x_rm 2 44) s m args below meth c H locs 0 0 (MQ below (x_Qz g Qf) args s 0 0 (x_A g)) (F0 m 0 ls []) := by
  unfold p_X5_addDepth at h
  have hx := C.1
  have hb := C.2.1
  refine lv_aload_n hx hb dX5_addDepth_0 rfl (lv_at hl 0 rfl) ?_
  refine x_getr (ci := 5) C hw 0 (xoX_32 hX) rfl inlX5 (by decide) rfl rfl xrX_32_0 xw_201 dX5_addDepth_1 ?_
  refine x_geti (ci := 8) C hw 13 (xoT_0 (xpT_40 hX)) rfl inlX8 (by decide) rfl rfl xw_810 dX5_addDepth_4 ?_
  refine x_calli hw (x_runS C hw (m_X5_kindOf l C.2.2.2.2.2.2.2.2.1  h) (x_gS xw_811 xw_812 xw_32 xw_813) rfl rfl qX5_kindOf ⟨(Nat.le_of_ble_eq_true rfl), (Nat.le_of_ble_eq_true rfl)⟩ rfl hl.1 rfl (Nat.le_of_ble_eq_true rfl) dX5_addDepth_7) (fun r2 u1 H locs hw h => ?_)
  refine lv_istore_n (lv' := [(2, .int r2), (0, .ref (xad g 32)), (1, .int a1)]) hx hb dX5_addDepth_10 rfl hl (by decide) rfl (fun ls hl => ?_)
  refine lv_iload_n hx hb dX5_addDepth_11 rfl (lv_at hl 0 rfl) ?_
  refine lv_iconst (v := -1) hx hb dX5_addDepth_12 (by decide) ?_
  refine lv_icmp_ne (tgt := 25) hx hb dX5_addDepth_13 (by decide) (fun c3 => ?_) (fun c3 => ?_)
  · have h := h.1 c3
    refine lv_aload_n hx hb dX5_addDepth_25 rfl (lv_at hl 1 rfl) ?_
    refine x_getr (ci := 5) C hw 0 (xoX_32 hX) rfl inlX5 (by decide) rfl rfl xrX_32_0 xw_201 dX5_addDepth_26 ?_
    refine x_callv hw (x_runV (ci := 8) C hw (m_X8_advance l C.2.2.2.2.2.2.2.2.1 (xpT_40 hX) h) (xoT_0 (xpT_40 hX)) rfl (x_gV xw_758 xw_469 xw_470 xw_122 xw_471) rfl rfl qX8_advance ⟨(Nat.le_of_ble_eq_true rfl), (Nat.le_of_ble_eq_true rfl)⟩ rfl hl.1 rfl (Nat.le_of_ble_eq_true rfl) dX5_addDepth_29) (fun u4 H locs hw h => ?_)
    refine lv_aload_n hx hb dX5_addDepth_32 rfl (lv_at hl 1 rfl) ?_
    refine x_getr (ci := 5) C hw 0 (xoX_32 hX) rfl inlX5 (by decide) rfl rfl xrX_32_0 xw_201 dX5_addDepth_33 ?_
    refine lv_iconst (v := 0) hx hb dX5_addDepth_36 (by decide) ?_
    refine lv_sipush (v := 9999) hx hb dX5_addDepth_37 (by decide) ?_
    refine x_calli hw (x_runV (ci := 8) C hw (m_X8_takeNumber l C.2.2.2.2.2.2.2.2.1 (xpT_40 hX) h) (xoT_0 (xpT_40 hX)) rfl (x_gV xw_787 xw_524 xw_525 xw_122 xw_526) rfl rfl qX8_takeNumber ⟨(Nat.le_of_ble_eq_true rfl), (Nat.le_of_ble_eq_true rfl)⟩ rfl hl.1 rfl (Nat.le_of_ble_eq_true rfl) dX5_addDepth_40) (fun r6 u5 H locs hw h => ?_)
    refine lv_istore_n (lv' := [(3, .int r6), (2, .int r2), (0, .ref (xad g 32)), (1, .int a1)]) hx hb dX5_addDepth_43 rfl hl (by decide) rfl (fun ls hl => ?_)
    refine lv_aload_n hx hb dX5_addDepth_44 rfl (lv_at hl 2 rfl) ?_
    refine x_getr (ci := 5) C hw 1 (xoX_32 hX) rfl inlX5 (by decide) rfl rfl xrX_32_1 xw_203 dX5_addDepth_45 ?_
    refine lv_iload_n hx hb dX5_addDepth_48 rfl (lv_at hl 1 rfl) ?_
    refine lv_iload_n hx hb dX5_addDepth_49 rfl (lv_at hl 3 rfl) ?_
    refine lv_iload_n hx hb dX5_addDepth_50 rfl (lv_at hl 0 rfl) ?_
    refine x_callv hw (x_runV (ci := 4) C hw (m_X4_add l C.2.2.2.2.2.2.2.2.1 (xpN_63 hX) h) (xoN_0 (xpN_63 hX)) rfl (x_gV xw_759 xw_760 xw_761 xw_19 xw_762) rfl rfl qX4_add ⟨(Nat.le_of_ble_eq_true rfl), (Nat.le_of_ble_eq_true rfl)⟩ rfl hl.1 rfl (Nat.le_of_ble_eq_true rfl) dX5_addDepth_51) (fun u7 H locs hw h => ?_)
    refine lv_iload_n hx hb dX5_addDepth_54 rfl (lv_at hl 0 rfl) ?_
    refine lv_iconst (v := -1) hx hb dX5_addDepth_55 (by decide) ?_
    refine lv_icmp_eq (tgt := 63) hx hb dX5_addDepth_56 (by decide) (fun c8 => ?_) (fun c8 => ?_)
    · have h := h.1 c8
      refine lv_iconst (v := 0) hx hb dX5_addDepth_63 (by decide) ?_
      exact x_zret false C hw h rfl dX5_addDepth_64
    · have h := h.2 c8
      refine lv_iconst (v := 1) hx hb dX5_addDepth_59 (by decide) ?_
      refine lv_goto (tgt := 64) hx hb dX5_addDepth_60 (by decide) ?_
      exact x_zret true C hw h rfl dX5_addDepth_64
  · have h := h.2 c3
    refine lv_aload_n hx hb dX5_addDepth_16 rfl (lv_at hl 1 rfl) ?_
    refine x_getr (ci := 5) C hw 0 (xoX_32 hX) rfl inlX5 (by decide) rfl rfl xrX_32_0 xw_201 dX5_addDepth_17 ?_
    refine lv_iconst (v := 2) hx hb dX5_addDepth_20 (by decide) ?_
    refine x_callz hw (x_runV (ci := 8) C hw (m_X8_wrong l C.2.2.2.2.2.2.2.2.1 (xpT_40 hX) h) (xoT_0 (xpT_40 hX)) rfl (x_gV xw_757 xw_494 xw_495 xw_122 xw_496) rfl rfl qX8_wrong ⟨(Nat.le_of_ble_eq_true rfl), (Nat.le_of_ble_eq_true rfl)⟩ rfl hl.1 rfl (Nat.le_of_ble_eq_true rfl) dX5_addDepth_21) (fun r10 u9 H locs hw h => ?_)
    exact x_zret _ C hw h rfl dX5_addDepth_24
set_option maxHeartbeats 4000000 in
set_option maxRecDepth 100000 in
theorem m_X5_addDepth (l : Launch) {g : xG} (hD : x_D g) (hX : xpX g) {a1 : Int32} {u : xM} {Qf : Bool → xM → Prop} (h : p_X5_addDepth a1 u Qf) : Met l yX5_addDepth (Cond.code yX5_addDepth cX5_addDepth 4 (some .boolean) :: wsL_law) (x_rm 2 44) (va_Pc [.ref (xad g 32), .int a1] (x_B g u)) (x_Qz g Qf) 0 0 (x_A g) := by
  refine Met.ofW (cc := cX5_addDepth) (maxL := 4) (ret := (some .boolean)) (by decide) rfl ?_
  intro p e s m args below meth c s₁ B hml hv
  obtain ⟨rfl, hB⟩ := hv
  obtain ⟨C, hw⟩ := x_start B hml hD hB
  have hl := lv_entry [.ref (xad g 32), .int a1] (n := 4) (Nat.le_of_ble_eq_true rfl)
  rw [lg_entry_eq]
  exact s_X5_addDepth C hX hw hl h
set_option maxHeartbeats 4000000 in
set_option maxRecDepth 100000 in
theorem s_X5_readTest_L35 {o1 : Nat} {Qf : Bool → xM → Prop} (C : x_C p s m args meth c g RX5 cX5_readTest 4 (some .boolean)) (hX : xpX g) (ho1 : xpL g o1) {v2 : Int32} {u : xM} {H : Heap} {locs : List Loc} {ls : Array Slot} (hw : x_W g s.heap H locs u) (hl : lv_has ls 4 [(0, .ref (xad g 32)), (1, .ref (xad g o1)), (2, .int v2)]) (h : p_X5_readTest_L35 o1 Qf v2 u) : W p l e (x_rm 4 90) s m args below meth c H locs 0 0 (MQ below (x_Qz g Qf) args s 0 0 (x_A g)) (F0 m 35 ls []) := by
  unfold p_X5_readTest_L35 at h
  have hx := C.1
  have hb := C.2.1
  refine lv_aload_n hx hb dX5_readTest_35 rfl (lv_at hl 0 rfl) ?_
  refine x_getr (ci := 5) C hw 0 (xoX_32 hX) rfl inlX5 (by decide) rfl rfl xrX_32_0 xw_201 dX5_readTest_36 ?_
  refine x_callv hw (x_runV (ci := 8) C hw (m_X8_advance l C.2.2.2.2.2.2.2.2.1 (xpT_40 hX) h) (xoT_0 (xpT_40 hX)) rfl (x_gV xw_758 xw_469 xw_470 xw_122 xw_471) rfl rfl qX8_advance ⟨(Nat.le_of_ble_eq_true rfl), (Nat.le_of_ble_eq_true rfl)⟩ rfl hl.1 rfl (Nat.le_of_ble_eq_true rfl) dX5_readTest_39) (fun u1 H locs hw h => ?_)
  refine lv_iload_n hx hb dX5_readTest_42 rfl (lv_at hl 2 rfl) ?_
  refine lv_bipush (v := 18) hx hb dX5_readTest_43 (by decide) ?_
  refine lv_icmp_ne (tgt := 56) hx hb dX5_readTest_45 (by decide) (fun c2 => ?_) (fun c2 => ?_)
  · have h := h.1 c2
    refine lv_aload_n hx hb dX5_readTest_56 rfl (lv_at hl 0 rfl) ?_
    refine x_getr (ci := 5) C hw 0 (xoX_32 hX) rfl inlX5 (by decide) rfl rfl xrX_32_0 xw_201 dX5_readTest_57 ?_
    refine lv_aload_n hx hb dX5_readTest_60 rfl (lv_at hl 1 rfl) ?_
    refine x_calli hw (x_runV (ci := 8) C hw (m_X8_takeRoom l C.2.2.2.2.2.2.2.2.1 (xpT_40 hX) ho1 h) (xoT_0 (xpT_40 hX)) rfl (x_gV xw_797 xw_567 xw_568 xw_122 xw_569) rfl rfl qX8_takeRoom ⟨(Nat.le_of_ble_eq_true rfl), (Nat.le_of_ble_eq_true rfl)⟩ rfl hl.1 rfl (Nat.le_of_ble_eq_true rfl) dX5_readTest_61) (fun r4 u3 H locs hw h => ?_)
    refine lv_istore_n (lv' := [(3, .int r4), (0, .ref (xad g 32)), (1, .ref (xad g o1)), (2, .int v2)]) hx hb dX5_readTest_64 rfl hl (by decide) rfl (fun ls hl => ?_)
    refine lv_iload_n hx hb dX5_readTest_65 rfl (lv_at hl 0 rfl) ?_
    refine lv_iconst (v := -1) hx hb dX5_readTest_66 (by decide) ?_
    refine lv_icmp_ne (tgt := 72) hx hb dX5_readTest_67 (by decide) (fun c5 => ?_) (fun c5 => ?_)
    · have h := h.1 c5
      refine lv_iload_n hx hb dX5_readTest_72 rfl (lv_at hl 3 rfl) ?_
      refine lv_bipush (v := 24) hx hb dX5_readTest_73 (by decide) ?_
      refine lv_icmp_ne (tgt := 84) hx hb dX5_readTest_75 (by decide) (fun c6 => ?_) (fun c6 => ?_)
      · have h := h.1 c6
        refine lv_aload_n hx hb dX5_readTest_84 rfl (lv_at hl 1 rfl) ?_
        refine x_getr (ci := 5) C hw 1 (xoX_32 hX) rfl inlX5 (by decide) rfl rfl xrX_32_1 xw_203 dX5_readTest_85 ?_
        refine lv_iconst (v := 5) hx hb dX5_readTest_88 (by decide) ?_
        refine lv_iload_n hx hb dX5_readTest_89 rfl (lv_at hl 0 rfl) ?_
        refine lv_iconst (v := 0) hx hb dX5_readTest_90 (by decide) ?_
        refine x_callv hw (x_runV (ci := 4) C hw (m_X4_add l C.2.2.2.2.2.2.2.2.1 (xpN_63 hX) h) (xoN_0 (xpN_63 hX)) rfl (x_gV xw_759 xw_760 xw_761 xw_19 xw_762) rfl rfl qX4_add ⟨(Nat.le_of_ble_eq_true rfl), (Nat.le_of_ble_eq_true rfl)⟩ rfl hl.1 rfl (Nat.le_of_ble_eq_true rfl) dX5_readTest_91) (fun u7 H locs hw h => ?_)
        refine lv_iconst (v := 1) hx hb dX5_readTest_94 (by decide) ?_
        exact x_zret true C hw h rfl dX5_readTest_95
      · have h := h.2 c6
        refine lv_aload_n hx hb dX5_readTest_78 rfl (lv_at hl 1 rfl) ?_
        refine lv_iload_n hx hb dX5_readTest_79 rfl (lv_at hl 0 rfl) ?_
        refine x_callz hw (x_runV (ci := 5) C hw (m_X5_addDepth l C.2.2.2.2.2.2.2.2.1 hX h) (xoX_32 hX) rfl (x_gV xw_806 xw_807 xw_808 xw_32 xw_809) rfl rfl qX5_addDepth ⟨(Nat.le_of_ble_eq_true rfl), (Nat.le_of_ble_eq_true rfl)⟩ rfl hl.1 rfl (Nat.le_of_ble_eq_true rfl) dX5_readTest_80) (fun r9 u8 H locs hw h => ?_)
        exact x_zret _ C hw h rfl dX5_readTest_83
    · have h := h.2 c5
      refine lv_iconst (v := 0) hx hb dX5_readTest_70 (by decide) ?_
      exact x_zret false C hw h rfl dX5_readTest_71
  · have h := h.2 c2
    refine lv_aload_n hx hb dX5_readTest_48 rfl (lv_at hl 0 rfl) ?_
    refine lv_bipush (v := 6) hx hb dX5_readTest_49 (by decide) ?_
    refine lv_aload_n hx hb dX5_readTest_51 rfl (lv_at hl 1 rfl) ?_
    refine x_callz hw (x_runV (ci := 5) C hw (m_X5_addDoor l C.2.2.2.2.2.2.2.2.1 hX ho1 h) (xoX_32 hX) rfl (x_gV xw_788 xw_789 xw_790 xw_32 xw_791) rfl rfl qX5_addDoor ⟨(Nat.le_of_ble_eq_true rfl), (Nat.le_of_ble_eq_true rfl)⟩ rfl hl.1 rfl (Nat.le_of_ble_eq_true rfl) dX5_readTest_52) (fun r11 u10 H locs hw h => ?_)
    exact x_zret _ C hw h rfl dX5_readTest_55
set_option maxHeartbeats 4000000 in
set_option maxRecDepth 100000 in
theorem s_X5_readTest {o1 : Nat} {Qf : Bool → xM → Prop} (C : x_C p s m args meth c g RX5 cX5_readTest 4 (some .boolean)) (hX : xpX g) (ho1 : xpL g o1) {u : xM} {H : Heap} {locs : List Loc} {ls : Array Slot} (hw : x_W g s.heap H locs u) (hl : lv_has ls 4 [(0, .ref (xad g 32)), (1, .ref (xad g o1))]) (h : p_X5_readTest o1 u Qf) : W p l e (x_rm 4 90) s m args below meth c H locs 0 0 (MQ below (x_Qz g Qf) args s 0 0 (x_A g)) (F0 m 0 ls []) := by
  unfold p_X5_readTest at h
  have hx := C.1
  have hb := C.2.1
  refine lv_aload_n hx hb dX5_readTest_0 rfl (lv_at hl 0 rfl) ?_
  refine x_getr (ci := 5) C hw 0 (xoX_32 hX) rfl inlX5 (by decide) rfl rfl xrX_32_0 xw_201 dX5_readTest_1 ?_
  refine x_geti (ci := 8) C hw 11 (xoT_0 (xpT_40 hX)) rfl inlX8 (by decide) rfl rfl xw_747 dX5_readTest_4 ?_
  refine lv_topi (fun x1 ex1 => ?_)
  have h := h x1 ex1
  refine lv_istore_n (lv' := [(2, .int x1), (0, .ref (xad g 32)), (1, .ref (xad g o1))]) hx hb dX5_readTest_7 rfl hl (by decide) rfl (fun ls hl => ?_)
  refine lv_iload_n hx hb dX5_readTest_8 rfl (lv_at hl 0 rfl) ?_
  refine lv_bipush (v := 23) hx hb dX5_readTest_9 (by decide) ?_
  refine lv_icmp_eq (tgt := 35) hx hb dX5_readTest_11 (by decide) (fun c2 => ?_) (fun c2 => ?_)
  · have h := h.1 c2
    exact s_X5_readTest_L35 C hX ho1 hw (lv_sub hl [1, 2, 0] rfl) h
  · have h := h.2 c2
    refine lv_iload_n hx hb dX5_readTest_14 rfl (lv_at hl 0 rfl) ?_
    refine lv_bipush (v := 18) hx hb dX5_readTest_15 (by decide) ?_
    refine lv_icmp_eq (tgt := 35) hx hb dX5_readTest_17 (by decide) (fun c3 => ?_) (fun c3 => ?_)
    · have h := h.1 c3
      exact s_X5_readTest_L35 C hX ho1 hw (lv_sub hl [1, 2, 0] rfl) h
    · have h := h.2 c3
      refine lv_iload_n hx hb dX5_readTest_20 rfl (lv_at hl 0 rfl) ?_
      refine lv_bipush (v := 24) hx hb dX5_readTest_21 (by decide) ?_
      refine lv_icmp_eq (tgt := 35) hx hb dX5_readTest_23 (by decide) (fun c4 => ?_) (fun c4 => ?_)
      · have h := h.1 c4
        exact s_X5_readTest_L35 C hX ho1 hw (lv_sub hl [1, 2, 0] rfl) h
      · have h := h.2 c4
        refine lv_aload_n hx hb dX5_readTest_26 rfl (lv_at hl 1 rfl) ?_
        refine x_getr (ci := 5) C hw 0 (xoX_32 hX) rfl inlX5 (by decide) rfl rfl xrX_32_0 xw_201 dX5_readTest_27 ?_
        refine lv_iconst (v := 2) hx hb dX5_readTest_30 (by decide) ?_
        refine x_callz hw (x_runV (ci := 8) C hw (m_X8_wrong l C.2.2.2.2.2.2.2.2.1 (xpT_40 hX) h) (xoT_0 (xpT_40 hX)) rfl (x_gV xw_757 xw_494 xw_495 xw_122 xw_496) rfl rfl qX8_wrong ⟨(Nat.le_of_ble_eq_true rfl), (Nat.le_of_ble_eq_true rfl)⟩ rfl hl.1 rfl (Nat.le_of_ble_eq_true rfl) dX5_readTest_31) (fun r6 u5 H locs hw h => ?_)
        exact x_zret _ C hw h rfl dX5_readTest_34
set_option maxHeartbeats 4000000 in
set_option maxRecDepth 100000 in
theorem m_X5_readTest (l : Launch) {g : xG} (hD : x_D g) {o1 : Nat} (hX : xpX g) (ho1 : xpL g o1) {u : xM} {Qf : Bool → xM → Prop} (h : p_X5_readTest o1 u Qf) : Met l yX5_readTest (Cond.code yX5_readTest cX5_readTest 4 (some .boolean) :: wsL_law) (x_rm 4 90) (va_Pc [.ref (xad g 32), .ref (xad g o1)] (x_B g u)) (x_Qz g Qf) 0 0 (x_A g) := by
  refine Met.ofW (cc := cX5_readTest) (maxL := 4) (ret := (some .boolean)) (by decide) rfl ?_
  intro p e s m args below meth c s₁ B hml hv
  obtain ⟨rfl, hB⟩ := hv
  obtain ⟨C, hw⟩ := x_start B hml hD hB
  have hl := lv_entry [.ref (xad g 32), .ref (xad g o1)] (n := 4) (Nat.le_of_ble_eq_true rfl)
  rw [lg_entry_eq]
  exact s_X5_readTest C hX ho1 hw hl h
set_option maxHeartbeats 4000000 in
set_option maxRecDepth 100000 in
theorem s_X5_readStep {o1 : Nat} {Qf : Bool → xM → Prop} (C : x_C p s m args meth c g RX5 cX5_readStep 3 (some .boolean)) (hX : xpX g) (ho1 : xpL g o1) {u : xM} {H : Heap} {locs : List Loc} {ls : Array Slot} (hw : x_W g s.heap H locs u) (hl : lv_has ls 3 [(0, .ref (xad g 32)), (1, .ref (xad g o1))]) (h : p_X5_readStep o1 u Qf) : W p l e (x_rm 5 113) s m args below meth c H locs 0 0 (MQ below (x_Qz g Qf) args s 0 0 (x_A g)) (F0 m 0 ls []) := by
  unfold p_X5_readStep at h
  have hx := C.1
  have hb := C.2.1
  refine lv_aload_n hx hb dX5_readStep_0 rfl (lv_at hl 0 rfl) ?_
  refine x_getr (ci := 5) C hw 0 (xoX_32 hX) rfl inlX5 (by decide) rfl rfl xrX_32_0 xw_201 dX5_readStep_1 ?_
  refine x_geti (ci := 8) C hw 11 (xoT_0 (xpT_40 hX)) rfl inlX8 (by decide) rfl rfl xw_747 dX5_readStep_4 ?_
  refine lv_topi (fun x1 ex1 => ?_)
  have h := h x1 ex1
  refine lv_istore_n (lv' := [(2, .int x1), (0, .ref (xad g 32)), (1, .ref (xad g o1))]) hx hb dX5_readStep_7 rfl hl (by decide) rfl (fun ls hl => ?_)
  refine lv_aload_n hx hb dX5_readStep_8 rfl (lv_at hl 1 rfl) ?_
  refine x_getr (ci := 5) C hw 0 (xoX_32 hX) rfl inlX5 (by decide) rfl rfl xrX_32_0 xw_201 dX5_readStep_9 ?_
  refine x_callv hw (x_runV (ci := 8) C hw (m_X8_advance l C.2.2.2.2.2.2.2.2.1 (xpT_40 hX) h) (xoT_0 (xpT_40 hX)) rfl (x_gV xw_758 xw_469 xw_470 xw_122 xw_471) rfl rfl qX8_advance ⟨(Nat.le_of_ble_eq_true rfl), (Nat.le_of_ble_eq_true rfl)⟩ rfl hl.1 rfl (Nat.le_of_ble_eq_true rfl) dX5_readStep_12) (fun u2 H locs hw h => ?_)
  refine lv_iload_n hx hb dX5_readStep_15 rfl (lv_at hl 0 rfl) ?_
  by_cases c3 : x1 = 17
  · refine lv_tableIn (off := 52) (tgt := 68) hx hb dX5_readStep_16 (by rw [c3]; decide) (by rw [c3]; decide) (by rw [c3]; rfl) (by decide) ?_
    have h := h.1 c3
    refine lv_aload_n hx hb dX5_readStep_68 rfl (lv_at hl 1 rfl) ?_
    refine lv_iconst (v := 0) hx hb dX5_readStep_69 (by decide) ?_
    refine lv_bipush (v := 12) hx hb dX5_readStep_70 (by decide) ?_
    refine x_callz hw (x_runV (ci := 5) C hw (m_X5_addNumber l C.2.2.2.2.2.2.2.2.1 hX h) (xoX_32 hX) rfl (x_gV xw_783 xw_784 xw_785 xw_32 xw_786) rfl rfl qX5_addNumber ⟨(Nat.le_of_ble_eq_true rfl), (Nat.le_of_ble_eq_true rfl)⟩ rfl hl.1 rfl (Nat.le_of_ble_eq_true rfl) dX5_readStep_72) (fun r5 u4 H locs hw h => ?_)
    exact x_zret _ C hw h rfl dX5_readStep_75
  by_cases c6 : x1 = 18
  · refine lv_tableIn (off := 60) (tgt := 76) hx hb dX5_readStep_16 (by rw [c6]; decide) (by rw [c6]; decide) (by rw [c6]; rfl) (by decide) ?_
    have h := h.2.1 c6
    refine lv_aload_n hx hb dX5_readStep_76 rfl (lv_at hl 1 rfl) ?_
    refine lv_iconst (v := 1) hx hb dX5_readStep_77 (by decide) ?_
    refine lv_aload_n hx hb dX5_readStep_78 rfl (lv_at hl 2 rfl) ?_
    refine x_callz hw (x_runV (ci := 5) C hw (m_X5_addDoor l C.2.2.2.2.2.2.2.2.1 hX ho1 h) (xoX_32 hX) rfl (x_gV xw_788 xw_789 xw_790 xw_32 xw_791) rfl rfl qX5_addDoor ⟨(Nat.le_of_ble_eq_true rfl), (Nat.le_of_ble_eq_true rfl)⟩ rfl hl.1 rfl (Nat.le_of_ble_eq_true rfl) dX5_readStep_79) (fun r8 u7 H locs hw h => ?_)
    exact x_zret _ C hw h rfl dX5_readStep_82
  by_cases c9 : x1 = 19
  · refine lv_tableIn (off := 67) (tgt := 83) hx hb dX5_readStep_16 (by rw [c9]; decide) (by rw [c9]; decide) (by rw [c9]; rfl) (by decide) ?_
    have h := h.2.2.1 c9
    refine lv_aload_n hx hb dX5_readStep_83 rfl (lv_at hl 1 rfl) ?_
    refine lv_iconst (v := 2) hx hb dX5_readStep_84 (by decide) ?_
    refine lv_aload_n hx hb dX5_readStep_85 rfl (lv_at hl 2 rfl) ?_
    refine x_callz hw (x_runV (ci := 5) C hw (m_X5_addDoor l C.2.2.2.2.2.2.2.2.1 hX ho1 h) (xoX_32 hX) rfl (x_gV xw_788 xw_789 xw_790 xw_32 xw_791) rfl rfl qX5_addDoor ⟨(Nat.le_of_ble_eq_true rfl), (Nat.le_of_ble_eq_true rfl)⟩ rfl hl.1 rfl (Nat.le_of_ble_eq_true rfl) dX5_readStep_86) (fun r11 u10 H locs hw h => ?_)
    exact x_zret _ C hw h rfl dX5_readStep_89
  by_cases c12 : x1 = 20
  · refine lv_tableIn (off := 74) (tgt := 90) hx hb dX5_readStep_16 (by rw [c12]; decide) (by rw [c12]; decide) (by rw [c12]; rfl) (by decide) ?_
    have h := h.2.2.2.1 c12
    refine lv_aload_n hx hb dX5_readStep_90 rfl (lv_at hl 1 rfl) ?_
    refine lv_aload_n hx hb dX5_readStep_91 rfl (lv_at hl 2 rfl) ?_
    refine x_callz hw (x_runV (ci := 5) C hw (m_X5_addBail l C.2.2.2.2.2.2.2.2.1 hX ho1 h) (xoX_32 hX) rfl (x_gV xw_793 xw_794 xw_795 xw_32 xw_796) rfl rfl qX5_addBail ⟨(Nat.le_of_ble_eq_true rfl), (Nat.le_of_ble_eq_true rfl)⟩ rfl hl.1 rfl (Nat.le_of_ble_eq_true rfl) dX5_readStep_92) (fun r14 u13 H locs hw h => ?_)
    exact x_zret _ C hw h rfl dX5_readStep_95
  by_cases c15 : x1 = 21
  · refine lv_tableIn (off := 80) (tgt := 96) hx hb dX5_readStep_16 (by rw [c15]; decide) (by rw [c15]; decide) (by rw [c15]; rfl) (by decide) ?_
    have h := h.2.2.2.2.1 c15
    refine lv_aload_n hx hb dX5_readStep_96 rfl (lv_at hl 1 rfl) ?_
    refine lv_iconst (v := 4) hx hb dX5_readStep_97 (by decide) ?_
    refine x_callz hw (x_runV (ci := 5) C hw (m_X5_addBare l C.2.2.2.2.2.2.2.2.1 hX h) (xoX_32 hX) rfl (x_gV xw_798 xw_799 xw_800 xw_32 xw_801) rfl rfl qX5_addBare ⟨(Nat.le_of_ble_eq_true rfl), (Nat.le_of_ble_eq_true rfl)⟩ rfl hl.1 rfl (Nat.le_of_ble_eq_true rfl) dX5_readStep_98) (fun r17 u16 H locs hw h => ?_)
    exact x_zret _ C hw h rfl dX5_readStep_101
  by_cases c18 : x1 = 22
  · refine lv_tableIn (off := 86) (tgt := 102) hx hb dX5_readStep_16 (by rw [c18]; decide) (by rw [c18]; decide) (by rw [c18]; rfl) (by decide) ?_
    have h := h.2.2.2.2.2.1 c18
    refine lv_aload_n hx hb dX5_readStep_102 rfl (lv_at hl 1 rfl) ?_
    refine lv_aload_n hx hb dX5_readStep_103 rfl (lv_at hl 2 rfl) ?_
    refine x_callz hw (x_runV (ci := 5) C hw (m_X5_readTest l C.2.2.2.2.2.2.2.2.1 hX ho1 h) (xoX_32 hX) rfl (x_gV xw_802 xw_803 xw_804 xw_32 xw_805) rfl rfl qX5_readTest ⟨(Nat.le_of_ble_eq_true rfl), (Nat.le_of_ble_eq_true rfl)⟩ rfl hl.1 rfl (Nat.le_of_ble_eq_true rfl) dX5_readStep_104) (fun r20 u19 H locs hw h => ?_)
    exact x_zret _ C hw h rfl dX5_readStep_107
  by_cases c21 : x1 = 23
  · refine lv_tableIn (off := 101) (tgt := 117) hx hb dX5_readStep_16 (by rw [c21]; decide) (by rw [c21]; decide) (by rw [c21]; rfl) (by decide) ?_
    have h := h.2.2.2.2.2.2.1 c21
    refine lv_aload_n hx hb dX5_readStep_117 rfl (lv_at hl 1 rfl) ?_
    refine lv_bipush (v := 11) hx hb dX5_readStep_118 (by decide) ?_
    refine x_callz hw (x_runV (ci := 5) C hw (m_X5_addBare l C.2.2.2.2.2.2.2.2.1 hX h) (xoX_32 hX) rfl (x_gV xw_798 xw_799 xw_800 xw_32 xw_801) rfl rfl qX5_addBare ⟨(Nat.le_of_ble_eq_true rfl), (Nat.le_of_ble_eq_true rfl)⟩ rfl hl.1 rfl (Nat.le_of_ble_eq_true rfl) dX5_readStep_120) (fun r23 u22 H locs hw h => ?_)
    exact x_zret _ C hw h rfl dX5_readStep_123
  by_cases c24 : x1 = 24
  · refine lv_tableIn (off := 101) (tgt := 117) hx hb dX5_readStep_16 (by rw [c24]; decide) (by rw [c24]; decide) (by rw [c24]; rfl) (by decide) ?_
    have h := h.2.2.2.2.2.2.2.1 c24
    refine lv_aload_n hx hb dX5_readStep_117 rfl (lv_at hl 1 rfl) ?_
    refine lv_bipush (v := 11) hx hb dX5_readStep_118 (by decide) ?_
    refine x_callz hw (x_runV (ci := 5) C hw (m_X5_addBare l C.2.2.2.2.2.2.2.2.1 hX h) (xoX_32 hX) rfl (x_gV xw_798 xw_799 xw_800 xw_32 xw_801) rfl rfl qX5_addBare ⟨(Nat.le_of_ble_eq_true rfl), (Nat.le_of_ble_eq_true rfl)⟩ rfl hl.1 rfl (Nat.le_of_ble_eq_true rfl) dX5_readStep_120) (fun r26 u25 H locs hw h => ?_)
    exact x_zret _ C hw h rfl dX5_readStep_123
  by_cases c27 : x1 = 25
  · refine lv_tableIn (off := 92) (tgt := 108) hx hb dX5_readStep_16 (by rw [c27]; decide) (by rw [c27]; decide) (by rw [c27]; rfl) (by decide) ?_
    have h := h.2.2.2.2.2.2.2.2.1 c27
    refine lv_aload_n hx hb dX5_readStep_108 rfl (lv_at hl 1 rfl) ?_
    refine lv_bipush (v := 10) hx hb dX5_readStep_109 (by decide) ?_
    refine lv_bipush (v := 99) hx hb dX5_readStep_111 (by decide) ?_
    refine x_callz hw (x_runV (ci := 5) C hw (m_X5_addNumber l C.2.2.2.2.2.2.2.2.1 hX h) (xoX_32 hX) rfl (x_gV xw_783 xw_784 xw_785 xw_32 xw_786) rfl rfl qX5_addNumber ⟨(Nat.le_of_ble_eq_true rfl), (Nat.le_of_ble_eq_true rfl)⟩ rfl hl.1 rfl (Nat.le_of_ble_eq_true rfl) dX5_readStep_113) (fun r29 u28 H locs hw h => ?_)
    exact x_zret _ C hw h rfl dX5_readStep_116
  have ec3 : x1.toInt ≠ 17 := fun z => c3 (Int32.toInt_inj.mp (z.trans (by decide)))
  have ec6 : x1.toInt ≠ 18 := fun z => c6 (Int32.toInt_inj.mp (z.trans (by decide)))
  have ec9 : x1.toInt ≠ 19 := fun z => c9 (Int32.toInt_inj.mp (z.trans (by decide)))
  have ec12 : x1.toInt ≠ 20 := fun z => c12 (Int32.toInt_inj.mp (z.trans (by decide)))
  have ec15 : x1.toInt ≠ 21 := fun z => c15 (Int32.toInt_inj.mp (z.trans (by decide)))
  have ec18 : x1.toInt ≠ 22 := fun z => c18 (Int32.toInt_inj.mp (z.trans (by decide)))
  have ec21 : x1.toInt ≠ 23 := fun z => c21 (Int32.toInt_inj.mp (z.trans (by decide)))
  have ec24 : x1.toInt ≠ 24 := fun z => c24 (Int32.toInt_inj.mp (z.trans (by decide)))
  have ec27 : x1.toInt ≠ 25 := fun z => c27 (Int32.toInt_inj.mp (z.trans (by decide)))
  refine lv_tableOut (tgt := 117) hx hb dX5_readStep_16 (by omega) (by decide) ?_
  have h := h.2.2.2.2.2.2.2.2.2 c3 c6 c9 c12 c15 c18 c21 c24 c27
  refine lv_aload_n hx hb dX5_readStep_117 rfl (lv_at hl 1 rfl) ?_
  refine lv_bipush (v := 11) hx hb dX5_readStep_118 (by decide) ?_
  refine x_callz hw (x_runV (ci := 5) C hw (m_X5_addBare l C.2.2.2.2.2.2.2.2.1 hX h) (xoX_32 hX) rfl (x_gV xw_798 xw_799 xw_800 xw_32 xw_801) rfl rfl qX5_addBare ⟨(Nat.le_of_ble_eq_true rfl), (Nat.le_of_ble_eq_true rfl)⟩ rfl hl.1 rfl (Nat.le_of_ble_eq_true rfl) dX5_readStep_120) (fun r31 u30 H locs hw h => ?_)
  exact x_zret _ C hw h rfl dX5_readStep_123
set_option maxHeartbeats 4000000 in
set_option maxRecDepth 100000 in
theorem m_X5_readStep (l : Launch) {g : xG} (hD : x_D g) {o1 : Nat} (hX : xpX g) (ho1 : xpL g o1) {u : xM} {Qf : Bool → xM → Prop} (h : p_X5_readStep o1 u Qf) : Met l yX5_readStep (Cond.code yX5_readStep cX5_readStep 3 (some .boolean) :: wsL_law) (x_rm 5 113) (va_Pc [.ref (xad g 32), .ref (xad g o1)] (x_B g u)) (x_Qz g Qf) 0 0 (x_A g) := by
  refine Met.ofW (cc := cX5_readStep) (maxL := 3) (ret := (some .boolean)) (by decide) rfl ?_
  intro p e s m args below meth c s₁ B hml hv
  obtain ⟨rfl, hB⟩ := hv
  obtain ⟨C, hw⟩ := x_start B hml hD hB
  have hl := lv_entry [.ref (xad g 32), .ref (xad g o1)] (n := 3) (Nat.le_of_ble_eq_true rfl)
  rw [lg_entry_eq]
  exact s_X5_readStep C hX ho1 hw hl h
set_option maxHeartbeats 4000000 in
set_option maxRecDepth 100000 in
theorem s_X5_readAll_L106 {o3 : Nat} {Qf : Bool → xM → Prop} (C : x_C p s m args meth c g RX5 cX5_readAll 6 (some .boolean)) (hX : xpX g) (ho3 : xpL g o3) {u : xM} {H : Heap} {locs : List Loc} {ls : Array Slot} (hw : x_W g s.heap H locs u) (hl : lv_has ls 6 [(0, .ref (xad g 32))]) (h : p_X5_readAll_L106 o3 Qf  u) : W p l e (x_rm 6 135) s m args below meth c H locs 0 0 (MQ below (x_Qz g Qf) args s 0 0 (x_A g)) (F0 m 106 ls []) := by
  unfold p_X5_readAll_L106 at h
  have hx := C.1
  have hb := C.2.1
  refine lv_aload_n hx hb dX5_readAll_106 rfl (lv_at hl 0 rfl) ?_
  refine x_geti (ci := 5) C hw 3 (xoX_32 hX) rfl inlX5 (by decide) rfl rfl xw_746 dX5_readAll_107 ?_
  refine lv_if_le (tgt := 122) hx hb dX5_readAll_110 (by decide) (fun c1 => ?_) (fun c1 => ?_)
  · have h := h.1 c1
    refine lv_aload_n hx hb dX5_readAll_122 rfl (lv_at hl 0 rfl) ?_
    refine x_getr (ci := 5) C hw 1 (xoX_32 hX) rfl inlX5 (by decide) rfl rfl xrX_32_1 xw_203 dX5_readAll_123 ?_
    refine lv_iconst (v := 1) hx hb dX5_readAll_126 (by decide) ?_
    obtain ⟨u2, eu2⟩ : ∃ q : xM, q = si u 63 0 (1 : Int32) := ⟨_, rfl⟩
    have h := h u2 eu2
    refine x_puti (ci := 4) (ty := .boolean) C hw 0 (xoN_0 (xpN_63 hX)) rfl inlX4 tyX4_ok nmX4 (by decide) rfl rfl xw_748 rfl (by decide +kernel) rfl rfl dX5_readAll_127 eu2 (fun H locs hw => ?_)
    refine lv_iconst (v := 1) hx hb dX5_readAll_130 (by decide) ?_
    exact x_zret true C hw h rfl dX5_readAll_131
  · have h := h.2 c1
    refine lv_aload_n hx hb dX5_readAll_113 rfl (lv_at hl 0 rfl) ?_
    refine x_getr (ci := 5) C hw 0 (xoX_32 hX) rfl inlX5 (by decide) rfl rfl xrX_32_0 xw_201 dX5_readAll_114 ?_
    refine lv_iconst (v := 2) hx hb dX5_readAll_117 (by decide) ?_
    refine x_callz hw (x_runV (ci := 8) C hw (m_X8_wrong l C.2.2.2.2.2.2.2.2.1 (xpT_40 hX) h) (xoT_0 (xpT_40 hX)) rfl (x_gV xw_757 xw_494 xw_495 xw_122 xw_496) rfl rfl qX8_wrong ⟨(Nat.le_of_ble_eq_true rfl), (Nat.le_of_ble_eq_true rfl)⟩ rfl hl.1 rfl (Nat.le_of_ble_eq_true rfl) dX5_readAll_118) (fun r4 u3 H locs hw h => ?_)
    exact x_zret _ C hw h rfl dX5_readAll_121
set_option maxHeartbeats 4000000 in
set_option maxRecDepth 100000 in
theorem s_X5_readAll_L81 {o3 : Nat} {Qf : Bool → xM → Prop} {K24 : Int32 → xM → Prop} (C : x_C p s m args meth c g RX5 cX5_readAll 6 (some .boolean)) (hX : xpX g) (ho3 : xpL g o3) (hK24 : ∀ {v4 : Int32} {u : xM} {H : Heap} {locs : List Loc} {ls : Array Slot}, x_W g s.heap H locs u → lv_has ls 6 [(0, .ref (xad g 32)), (3, .ref (xad g o3)), (4, .int v4)] → K24 v4 u → W p l e (x_rm 6 135) s m args below meth c H locs 0 0 (MQ below (x_Qz g Qf) args s 0 0 (x_A g)) (F0 m 24 ls [])) {v4 : Int32} {w0 : Bool} {u : xM} {H : Heap} {locs : List Loc} {ls : Array Slot} (hw : x_W g s.heap H locs u) (hl : lv_has ls 6 [(0, .ref (xad g 32)), (3, .ref (xad g o3)), (4, .int v4)]) (h : p_X5_readAll_L81 o3 Qf K24 v4 w0 u) : W p l e (x_rm 6 135) s m args below meth c H locs 0 0 (MQ below (x_Qz g Qf) args s 0 0 (x_A g)) (F0 m 81 ls [.int (xb w0)]) := by
  unfold p_X5_readAll_L81 at h
  have hx := C.1
  have hb := C.2.1
  refine lv_istore (lv' := [(5, .int (xb w0)), (0, .ref (xad g 32)), (3, .ref (xad g o3)), (4, .int v4)]) hx hb dX5_readAll_81 hl (by decide) rfl (fun ls hl => ?_)
  refine lv_iload hx hb dX5_readAll_83 (lv_at hl 0 rfl) ?_
  refine lv_if_eq (tgt := 98) hx hb dX5_readAll_85 (by decide) (fun c1 => ?_) (fun c1 => ?_)
  · have h := h.1 (xb_f c1)
    refine lv_iconst (v := 0) hx hb dX5_readAll_98 (by decide) ?_
    exact x_zret false C hw h rfl dX5_readAll_99
  · have h := h.2 (xb_t c1)
    refine lv_aload_n hx hb dX5_readAll_88 rfl (lv_at hl 1 rfl) ?_
    refine x_getr (ci := 5) C hw 0 (xoX_32 hX) rfl inlX5 (by decide) rfl rfl xrX_32_0 xw_201 dX5_readAll_89 ?_
    refine x_callz hw (x_runV (ci := 8) C hw (m_X8_takeStop l C.2.2.2.2.2.2.2.2.1 (xpT_40 hX) h) (xoT_0 (xpT_40 hX)) rfl (x_gV xw_814 xw_533 xw_534 xw_122 xw_535) rfl rfl qX8_takeStop ⟨(Nat.le_of_ble_eq_true rfl), (Nat.le_of_ble_eq_true rfl)⟩ rfl hl.1 rfl (Nat.le_of_ble_eq_true rfl) dX5_readAll_92) (fun r3 u2 H locs hw h => ?_)
    refine lv_if_ne (tgt := 100) hx hb dX5_readAll_95 (by decide) (fun c4 => ?_) (fun c4 => ?_)
    · have h := h.1 (xb_t c4)
      obtain ⟨x5, ex5⟩ : ∃ y : Int32, y = v4 + 1 := ⟨_, rfl⟩
      have h := h x5 ex5
      refine lv_iinc (v := x5) (lv' := [(4, .int x5), (5, .int (xb w0)), (0, .ref (xad g 32)), (3, .ref (xad g o3))]) hx hb dX5_readAll_100 hl (k := 3) rfl (by rw [ex5]; rfl) (by decide) rfl (fun ls hl => ?_)
      refine lv_goto (tgt := 24) hx hb dX5_readAll_103 (by decide) ?_
      exact hK24 hw (lv_sub hl [2, 3, 0] rfl) h
    · have h := h.2 (xb_f c4)
      refine lv_iconst (v := 0) hx hb dX5_readAll_98 (by decide) ?_
      exact x_zret false C hw h rfl dX5_readAll_99
set_option maxHeartbeats 4000000 in
set_option maxRecDepth 100000 in
theorem s_X5_readAll_L80 {o3 : Nat} {Qf : Bool → xM → Prop} {K24 : Int32 → xM → Prop} (C : x_C p s m args meth c g RX5 cX5_readAll 6 (some .boolean)) (hX : xpX g) (ho3 : xpL g o3) (hK24 : ∀ {v4 : Int32} {u : xM} {H : Heap} {locs : List Loc} {ls : Array Slot}, x_W g s.heap H locs u → lv_has ls 6 [(0, .ref (xad g 32)), (3, .ref (xad g o3)), (4, .int v4)] → K24 v4 u → W p l e (x_rm 6 135) s m args below meth c H locs 0 0 (MQ below (x_Qz g Qf) args s 0 0 (x_A g)) (F0 m 24 ls [])) {v4 : Int32} {u : xM} {H : Heap} {locs : List Loc} {ls : Array Slot} (hw : x_W g s.heap H locs u) (hl : lv_has ls 6 [(0, .ref (xad g 32)), (3, .ref (xad g o3)), (4, .int v4)]) (h : p_X5_readAll_L80 o3 Qf K24 v4 u) : W p l e (x_rm 6 135) s m args below meth c H locs 0 0 (MQ below (x_Qz g Qf) args s 0 0 (x_A g)) (F0 m 80 ls []) := by
  unfold p_X5_readAll_L80 at h
  have hx := C.1
  have hb := C.2.1
  refine lv_iconst (v := 0) hx hb dX5_readAll_80 (by decide) ?_
  exact s_X5_readAll_L81 C hX ho3 hK24 hw (lv_sub hl [0, 1, 2] rfl) h
set_option maxHeartbeats 4000000 in
set_option maxRecDepth 100000 in
theorem s_X5_readAll_L24 {o3 : Nat} {Qf : Bool → xM → Prop} (C : x_C p s m args meth c g RX5 cX5_readAll 6 (some .boolean)) (hX : xpX g) (ho3 : xpL g o3) : ∀ (nn : Nat) {v4 : Int32} {u : xM} {H : Heap} {locs : List Loc} {ls : Array Slot} (hw : x_W g s.heap H locs u) (hl : lv_has ls 6 [(0, .ref (xad g 32)), (3, .ref (xad g o3)), (4, .int v4)]) (h : p_X5_readAll_L24 o3 Qf nn v4 u), W p l e (x_rm 6 135) s m args below meth c H locs 0 0 (MQ below (x_Qz g Qf) args s 0 0 (x_A g)) (F0 m 24 ls []) := by
  intro nn
  induction nn with
  | zero => intro v4 u H locs ls hw hl h; exact h.elim
  | succ nn ih =>
    intro v4 u H locs ls hw hl h
    unfold p_X5_readAll_L24 at h
    have hx := C.1
    have hb := C.2.1
    refine lv_iload hx hb dX5_readAll_24 (lv_at hl 2 rfl) ?_
    refine lv_sipush (v := 300) hx hb dX5_readAll_26 (by decide) ?_
    refine lv_icmp_gt (tgt := 106) hx hb dX5_readAll_29 (by decide) (fun c1 => ?_) (fun c1 => ?_)
    · have h := h.1 c1
      exact s_X5_readAll_L106 C hX ho3 hw (lv_sub hl [0] rfl) h
    · have h := h.2 c1
      refine lv_aload_n hx hb dX5_readAll_32 rfl (lv_at hl 0 rfl) ?_
      refine x_getr (ci := 5) C hw 0 (xoX_32 hX) rfl inlX5 (by decide) rfl rfl xrX_32_0 xw_201 dX5_readAll_33 ?_
      refine x_callz hw (x_runV (ci := 8) C hw (m_X8_isAtEnd l C.2.2.2.2.2.2.2.2.1 (xpT_40 hX) h) (xoT_0 (xpT_40 hX)) rfl (x_gV xw_751 xw_479 xw_480 xw_122 xw_481) rfl rfl qX8_isAtEnd ⟨(Nat.le_of_ble_eq_true rfl), (Nat.le_of_ble_eq_true rfl)⟩ rfl hl.1 rfl (Nat.le_of_ble_eq_true rfl) dX5_readAll_36) (fun r3 u2 H locs hw h => ?_)
      refine lv_if_ne (tgt := 106) hx hb dX5_readAll_39 (by decide) (fun c4 => ?_) (fun c4 => ?_)
      · have h := h.1 (xb_t c4)
        exact s_X5_readAll_L106 C hX ho3 hw (lv_sub hl [0] rfl) h
      · have h := h.2 (xb_f c4)
        refine lv_aload_n hx hb dX5_readAll_42 rfl (lv_at hl 0 rfl) ?_
        refine x_getr (ci := 5) C hw 0 (xoX_32 hX) rfl inlX5 (by decide) rfl rfl xrX_32_0 xw_201 dX5_readAll_43 ?_
        refine x_geti (ci := 8) C hw 11 (xoT_0 (xpT_40 hX)) rfl inlX8 (by decide) rfl rfl xw_747 dX5_readAll_46 ?_
        refine lv_bipush (v := 26) hx hb dX5_readAll_49 (by decide) ?_
        refine lv_icmp_ne (tgt := 61) hx hb dX5_readAll_51 (by decide) (fun c5 => ?_) (fun c5 => ?_)
        · have h := h.1 c5
          refine lv_aload_n hx hb dX5_readAll_61 rfl (lv_at hl 0 rfl) ?_
          refine x_callz hw (x_runV (ci := 5) C hw (m_X5_mayBegin l C.2.2.2.2.2.2.2.2.1 hX h) (xoX_32 hX) rfl (x_gV xw_767 xw_768 xw_769 xw_32 xw_770) rfl rfl qX5_mayBegin ⟨(Nat.le_of_ble_eq_true rfl), (Nat.le_of_ble_eq_true rfl)⟩ rfl hl.1 rfl (Nat.le_of_ble_eq_true rfl) dX5_readAll_62) (fun r7 u6 H locs hw h => ?_)
          refine lv_if_eq (tgt := 80) hx hb dX5_readAll_65 (by decide) (fun c8 => ?_) (fun c8 => ?_)
          · have h := h.1 (xb_f c8)
            exact s_X5_readAll_L80 C hX ho3 (fun hw hl h => ih hw hl h) hw (lv_sub hl [0, 1, 2] rfl) h
          · have h := h.2 (xb_t c8)
            refine lv_aload_n hx hb dX5_readAll_68 rfl (lv_at hl 0 rfl) ?_
            refine lv_aload_n hx hb dX5_readAll_69 rfl (lv_at hl 1 rfl) ?_
            refine x_callz hw (x_runV (ci := 5) C hw (m_X5_readStep l C.2.2.2.2.2.2.2.2.1 hX ho3 h) (xoX_32 hX) rfl (x_gV xw_779 xw_780 xw_781 xw_32 xw_782) rfl rfl qX5_readStep ⟨(Nat.le_of_ble_eq_true rfl), (Nat.le_of_ble_eq_true rfl)⟩ rfl hl.1 rfl (Nat.le_of_ble_eq_true rfl) dX5_readAll_70) (fun r10 u9 H locs hw h => ?_)
            refine lv_if_eq (tgt := 80) hx hb dX5_readAll_73 (by decide) (fun c11 => ?_) (fun c11 => ?_)
            · have h := h.1 (xb_f c11)
              exact s_X5_readAll_L80 C hX ho3 (fun hw hl h => ih hw hl h) hw (lv_sub hl [0, 1, 2] rfl) h
            · have h := h.2 (xb_t c11)
              refine lv_iconst (v := 1) hx hb dX5_readAll_76 (by decide) ?_
              refine lv_goto (tgt := 81) hx hb dX5_readAll_77 (by decide) ?_
              exact s_X5_readAll_L81 C hX ho3 (fun hw hl h => ih hw hl h) hw (lv_sub hl [0, 1, 2] rfl) h
        · have h := h.2 c5
          refine lv_aload_n hx hb dX5_readAll_54 rfl (lv_at hl 0 rfl) ?_
          refine x_callz hw (x_runV (ci := 5) C hw (m_X5_readEnd l C.2.2.2.2.2.2.2.2.1 hX h) (xoX_32 hX) rfl (x_gV xw_752 xw_753 xw_754 xw_32 xw_755) rfl rfl qX5_readEnd ⟨(Nat.le_of_ble_eq_true rfl), (Nat.le_of_ble_eq_true rfl)⟩ rfl hl.1 rfl (Nat.le_of_ble_eq_true rfl) dX5_readAll_55) (fun r13 u12 H locs hw h => ?_)
          refine lv_goto (tgt := 81) hx hb dX5_readAll_58 (by decide) ?_
          exact s_X5_readAll_L81 C hX ho3 (fun hw hl h => ih hw hl h) hw (lv_sub hl [0, 1, 2] rfl) h
set_option maxHeartbeats 4000000 in
set_option maxRecDepth 100000 in
theorem s_X5_readAll {o3 : Nat} {Qf : Bool → xM → Prop} {a2 : Int32} (C : x_C p s m args meth c g RX5 cX5_readAll 6 (some .boolean)) (hX : xpX g) (ho3 : xpL g o3) {u : xM} {H : Heap} {locs : List Loc} {ls : Array Slot} (hw : x_W g s.heap H locs u) (hl : lv_has ls 6 [(0, .ref (xad g 32)), (1, .ref (xad g 4)), (2, .int a2), (3, .ref (xad g o3))]) (h : p_X5_readAll a2 o3 u Qf) : W p l e (x_rm 6 135) s m args below meth c H locs 0 0 (MQ below (x_Qz g Qf) args s 0 0 (x_A g)) (F0 m 0 ls []) := by
  unfold p_X5_readAll at h
  have hx := C.1
  have hb := C.2.1
  refine lv_aload_n hx hb dX5_readAll_0 rfl (lv_at hl 0 rfl) ?_
  refine x_getr (ci := 5) C hw 1 (xoX_32 hX) rfl inlX5 (by decide) rfl rfl xrX_32_1 xw_203 dX5_readAll_1 ?_
  refine x_callv hw (x_runV (ci := 4) C hw (m_X4_forget l C.2.2.2.2.2.2.2.2.1 (xpN_63 hX) h) (xoN_0 (xpN_63 hX)) rfl (x_gV xw_749 xw_616 xw_617 xw_19 xw_618) rfl rfl qX4_forget ⟨(Nat.le_of_ble_eq_true rfl), (Nat.le_of_ble_eq_true rfl)⟩ rfl hl.1 rfl (Nat.le_of_ble_eq_true rfl) dX5_readAll_4) (fun u1 H locs hw h => ?_)
  refine lv_aload_n hx hb dX5_readAll_7 rfl (lv_at hl 0 rfl) ?_
  refine lv_iconst (v := 0) hx hb dX5_readAll_8 (by decide) ?_
  obtain ⟨u2, eu2⟩ : ∃ q : xM, q = si u1 32 3 (0 : Int32) := ⟨_, rfl⟩
  have h := h u2 eu2
  refine x_puti (ci := 5) (ty := .int) C hw 3 (xoX_32 hX) rfl inlX5 tyX5_ok nmX5 (by decide) rfl rfl xw_746 rfl (by decide +kernel) rfl rfl dX5_readAll_9 eu2 (fun H locs hw => ?_)
  refine lv_aload_n hx hb dX5_readAll_12 rfl (lv_at hl 0 rfl) ?_
  refine x_getr (ci := 5) C hw 0 (xoX_32 hX) rfl inlX5 (by decide) rfl rfl xrX_32_0 xw_201 dX5_readAll_13 ?_
  refine lv_aload_n hx hb dX5_readAll_16 rfl (lv_at hl 1 rfl) ?_
  refine lv_iload_n hx hb dX5_readAll_17 rfl (lv_at hl 2 rfl) ?_
  refine x_callv hw (x_runV (ci := 8) C hw (m_X8_begin l C.2.2.2.2.2.2.2.2.1 (xpT_40 hX) hX h) (xoT_0 (xpT_40 hX)) rfl (x_gV xw_750 xw_428 xw_429 xw_122 xw_430) rfl rfl qX8_begin ⟨(Nat.le_of_ble_eq_true rfl), (Nat.le_of_ble_eq_true rfl)⟩ rfl hl.1 rfl (Nat.le_of_ble_eq_true rfl) dX5_readAll_18) (fun u3 H locs hw h => ?_)
  refine lv_iconst (v := 0) hx hb dX5_readAll_21 (by decide) ?_
  refine lv_istore (lv' := [(4, .int 0), (0, .ref (xad g 32)), (1, .ref (xad g 4)), (2, .int a2), (3, .ref (xad g o3))]) hx hb dX5_readAll_22 hl (by decide) rfl (fun ls hl => ?_)
  obtain ⟨n9, h⟩ := h
  exact s_X5_readAll_L24 C hX ho3 n9 hw (lv_sub hl [1, 4, 0] rfl) h
set_option maxHeartbeats 4000000 in
set_option maxRecDepth 100000 in
theorem m_X5_readAll (l : Launch) {g : xG} (hD : x_D g) {o3 : Nat} (hX : xpX g) (ho3 : xpL g o3) {a2 : Int32} {u : xM} {Qf : Bool → xM → Prop} (h : p_X5_readAll a2 o3 u Qf) : Met l yX5_readAll (Cond.code yX5_readAll cX5_readAll 6 (some .boolean) :: wsL_law) (x_rm 6 135) (va_Pc [.ref (xad g 32), .ref (xad g 4), .int a2, .ref (xad g o3)] (x_B g u)) (x_Qz g Qf) 0 0 (x_A g) := by
  refine Met.ofW (cc := cX5_readAll) (maxL := 6) (ret := (some .boolean)) (by decide) rfl ?_
  intro p e s m args below meth c s₁ B hml hv
  obtain ⟨rfl, hB⟩ := hv
  obtain ⟨C, hw⟩ := x_start B hml hD hB
  have hl := lv_entry [.ref (xad g 32), .ref (xad g 4), .int a2, .ref (xad g o3)] (n := 6) (Nat.le_of_ble_eq_true rfl)
  rw [lg_entry_eq]
  exact s_X5_readAll C hX ho3 hw hl h
set_option maxHeartbeats 4000000 in
set_option maxRecDepth 100000 in
theorem s_X4_copyFrom {o : Nat} {o1 : Nat} {Qf : xM → Prop} (C : x_C p s m args meth c g RX4 cX4_copyFrom 2 none) (ho : xpN g o) (ho1 : xpN g o1) {u : xM} {H : Heap} {locs : List Loc} {ls : Array Slot} (hw : x_W g s.heap H locs u) (hl : lv_has ls 2 [(0, .ref (xad g o)), (1, .ref (xad g o1))]) (h : p_X4_copyFrom o o1 u Qf) : W p l e (x_rm 1 80) s m args below meth c H locs 0 0 (MQ below (x_Qv g Qf) args s 0 0 (x_A g)) (F0 m 0 ls []) := by
  unfold p_X4_copyFrom at h
  have hx := C.1
  have hb := C.2.1
  refine lv_aload_n hx hb dX4_copyFrom_0 rfl (lv_at hl 0 rfl) ?_
  refine lv_aload_n hx hb dX4_copyFrom_1 rfl (lv_at hl 1 rfl) ?_
  refine x_geti (ci := 4) C hw 0 (xoN_0 ho1) rfl inlX4 (by decide) rfl rfl xw_619 dX4_copyFrom_2 ?_
  have c1 := h.1
  have h := h.2
  obtain ⟨u2, eu2⟩ : ∃ q : xM, q = si u o 0 (gi u o1 0) := ⟨_, rfl⟩
  have h := h u2 eu2
  refine x_puti (ci := 4) (ty := .boolean) C hw 0 (xoN_0 ho) rfl inlX4 tyX4_ok nmX4 (by decide) rfl rfl xw_619 rfl (by decide +kernel) (x_nz1 c1).1 (x_nz1 c1).2 dX4_copyFrom_5 eu2 (fun H locs hw => ?_)
  refine lv_aload_n hx hb dX4_copyFrom_8 rfl (lv_at hl 0 rfl) ?_
  refine lv_aload_n hx hb dX4_copyFrom_9 rfl (lv_at hl 1 rfl) ?_
  refine x_geti (ci := 4) C hw 1 (xoN_0 ho1) rfl inlX4 (by decide) rfl rfl xw_620 dX4_copyFrom_10 ?_
  obtain ⟨u3, eu3⟩ : ∃ q : xM, q = si u2 o 1 (gi u2 o1 1) := ⟨_, rfl⟩
  have h := h u3 eu3
  refine x_puti (ci := 4) (ty := .int) C hw 1 (xoN_0 ho) rfl inlX4 tyX4_ok nmX4 (by decide) rfl rfl xw_620 rfl (by decide +kernel) rfl rfl dX4_copyFrom_13 eu3 (fun H locs hw => ?_)
  refine lv_aload_n hx hb dX4_copyFrom_16 rfl (lv_at hl 0 rfl) ?_
  refine lv_aload_n hx hb dX4_copyFrom_17 rfl (lv_at hl 1 rfl) ?_
  refine x_geti (ci := 4) C hw 2 (xoN_0 ho1) rfl inlX4 (by decide) rfl rfl xw_621 dX4_copyFrom_18 ?_
  obtain ⟨u4, eu4⟩ : ∃ q : xM, q = si u3 o 2 (gi u3 o1 2) := ⟨_, rfl⟩
  have h := h u4 eu4
  refine x_puti (ci := 4) (ty := .int) C hw 2 (xoN_0 ho) rfl inlX4 tyX4_ok nmX4 (by decide) rfl rfl xw_621 rfl (by decide +kernel) rfl rfl dX4_copyFrom_21 eu4 (fun H locs hw => ?_)
  refine lv_aload_n hx hb dX4_copyFrom_24 rfl (lv_at hl 1 rfl) ?_
  refine x_getr (ci := 4) C hw 3 (xoN_0 ho1) rfl inlX4 (by decide) rfl rfl (xrN_0_3 ho1) xw_103 dX4_copyFrom_25 ?_
  refine lv_iconst (v := 0) hx hb dX4_copyFrom_28 (by decide) ?_
  refine lv_aload_n hx hb dX4_copyFrom_29 rfl (lv_at hl 0 rfl) ?_
  refine x_getr (ci := 4) C hw 3 (xoN_0 ho) rfl inlX4 (by decide) rfl rfl (xrN_0_3 ho) xw_103 dX4_copyFrom_30 ?_
  refine lv_iconst (v := 0) hx hb dX4_copyFrom_33 (by decide) ?_
  refine lv_bipush (v := 60) hx hb dX4_copyFrom_34 (by decide) ?_
  obtain ⟨u5, eu5⟩ : ∃ q : xM, q = cpi u4 (o1 + 1) 0 (o + 1) 0 60 := ⟨_, rfl⟩
  have h := h u5 eu5
  refine x_cpyi C hl.1 xw_819 hw (xoN_1 ho1) (xoN_1 ho) ⟨by decide, by decide, by decide, by decide, by decide⟩ (Nat.le_of_ble_eq_true rfl) (Nat.le_of_ble_eq_true rfl) dX4_copyFrom_36 eu5 (fun H locs hw => ?_)
  refine lv_aload_n hx hb dX4_copyFrom_39 rfl (lv_at hl 1 rfl) ?_
  refine x_getr (ci := 4) C hw 4 (xoN_0 ho1) rfl inlX4 (by decide) rfl rfl (xrN_0_4 ho1) xw_104 dX4_copyFrom_40 ?_
  refine lv_iconst (v := 0) hx hb dX4_copyFrom_43 (by decide) ?_
  refine lv_aload_n hx hb dX4_copyFrom_44 rfl (lv_at hl 0 rfl) ?_
  refine x_getr (ci := 4) C hw 4 (xoN_0 ho) rfl inlX4 (by decide) rfl rfl (xrN_0_4 ho) xw_104 dX4_copyFrom_45 ?_
  refine lv_iconst (v := 0) hx hb dX4_copyFrom_48 (by decide) ?_
  refine lv_bipush (v := 60) hx hb dX4_copyFrom_49 (by decide) ?_
  obtain ⟨u6, eu6⟩ : ∃ q : xM, q = cpi u5 (o1 + 2) 0 (o + 2) 0 60 := ⟨_, rfl⟩
  have h := h u6 eu6
  refine x_cpyi C hl.1 xw_819 hw (xoN_2 ho1) (xoN_2 ho) ⟨by decide, by decide, by decide, by decide, by decide⟩ (Nat.le_of_ble_eq_true rfl) (Nat.le_of_ble_eq_true rfl) dX4_copyFrom_51 eu6 (fun H locs hw => ?_)
  refine lv_aload_n hx hb dX4_copyFrom_54 rfl (lv_at hl 1 rfl) ?_
  refine x_getr (ci := 4) C hw 5 (xoN_0 ho1) rfl inlX4 (by decide) rfl rfl (xrN_0_5 ho1) xw_105 dX4_copyFrom_55 ?_
  refine lv_iconst (v := 0) hx hb dX4_copyFrom_58 (by decide) ?_
  refine lv_aload_n hx hb dX4_copyFrom_59 rfl (lv_at hl 0 rfl) ?_
  refine x_getr (ci := 4) C hw 5 (xoN_0 ho) rfl inlX4 (by decide) rfl rfl (xrN_0_5 ho) xw_105 dX4_copyFrom_60 ?_
  refine lv_iconst (v := 0) hx hb dX4_copyFrom_63 (by decide) ?_
  refine lv_bipush (v := 60) hx hb dX4_copyFrom_64 (by decide) ?_
  obtain ⟨u7, eu7⟩ : ∃ q : xM, q = cpi u6 (o1 + 3) 0 (o + 3) 0 60 := ⟨_, rfl⟩
  have h := h u7 eu7
  refine x_cpyi C hl.1 xw_819 hw (xoN_3 ho1) (xoN_3 ho) ⟨by decide, by decide, by decide, by decide, by decide⟩ (Nat.le_of_ble_eq_true rfl) (Nat.le_of_ble_eq_true rfl) dX4_copyFrom_66 eu7 (fun H locs hw => ?_)
  refine lv_aload_n hx hb dX4_copyFrom_69 rfl (lv_at hl 1 rfl) ?_
  refine x_getr (ci := 4) C hw 6 (xoN_0 ho1) rfl inlX4 (by decide) rfl rfl (xrN_0_6 ho1) xw_106 dX4_copyFrom_70 ?_
  refine lv_iconst (v := 0) hx hb dX4_copyFrom_73 (by decide) ?_
  refine lv_aload_n hx hb dX4_copyFrom_74 rfl (lv_at hl 0 rfl) ?_
  refine x_getr (ci := 4) C hw 6 (xoN_0 ho) rfl inlX4 (by decide) rfl rfl (xrN_0_6 ho) xw_106 dX4_copyFrom_75 ?_
  refine lv_iconst (v := 0) hx hb dX4_copyFrom_78 (by decide) ?_
  refine lv_bipush (v := 60) hx hb dX4_copyFrom_79 (by decide) ?_
  obtain ⟨u8, eu8⟩ : ∃ q : xM, q = cpi u7 (o1 + 4) 0 (o + 4) 0 60 := ⟨_, rfl⟩
  have h := h u8 eu8
  refine x_cpyi C hl.1 xw_819 hw (xoN_4 ho1) (xoN_4 ho) ⟨by decide, by decide, by decide, by decide, by decide⟩ (Nat.le_of_ble_eq_true rfl) (Nat.le_of_ble_eq_true rfl) dX4_copyFrom_81 eu8 (fun H locs hw => ?_)
  exact x_vret C hw h dX4_copyFrom_84
set_option maxHeartbeats 4000000 in
set_option maxRecDepth 100000 in
theorem m_X4_copyFrom (l : Launch) {g : xG} (hD : x_D g) {o : Nat} {o1 : Nat} (ho : xpN g o) (ho1 : xpN g o1) {u : xM} {Qf : xM → Prop} (h : p_X4_copyFrom o o1 u Qf) : Met l yX4_copyFrom (Cond.code yX4_copyFrom cX4_copyFrom 2 none :: wsL_law) (x_rm 1 80) (va_Pc [.ref (xad g o), .ref (xad g o1)] (x_B g u)) (x_Qv g Qf) 0 0 (x_A g) := by
  refine Met.ofW (cc := cX4_copyFrom) (maxL := 2) (ret := none) (by decide) rfl ?_
  intro p e s m args below meth c s₁ B hml hv
  obtain ⟨rfl, hB⟩ := hv
  obtain ⟨C, hw⟩ := x_start B hml hD hB
  have hl := lv_entry [.ref (xad g o), .ref (xad g o1)] (n := 2) (Nat.le_of_ble_eq_true rfl)
  rw [lg_entry_eq]
  exact s_X4_copyFrom C ho ho1 hw hl h
set_option maxHeartbeats 4000000 in
set_option maxRecDepth 100000 in
theorem s_X10_nights {Qf : Int32 → xM → Prop} {a1 : Int32} (C : x_C p s m args meth c g RX10 cX10_nights 3 (some .int)) (hX : xpX g) {u : xM} {H : Heap} {locs : List Loc} {ls : Array Slot} (hw : x_W g s.heap H locs u) (hl : lv_has ls 3 [(0, .ref (xad g 0)), (1, .int a1)]) (h : p_X10_nights a1 u Qf) : W p l e (x_rm 7 160) s m args below meth c H locs 0 0 (MQ below (x_Qi g Qf) args s 0 0 (x_A g)) (F0 m 0 ls []) := by
  unfold p_X10_nights at h
  have hx := C.1
  have hb := C.2.1
  refine lv_iload_n hx hb dX10_nights_0 rfl (lv_at hl 1 rfl) ?_
  refine lv_if_lt (tgt := 19) hx hb dX10_nights_1 (by decide) (fun c1 => ?_) (fun c1 => ?_)
  · have h := h.1 c1
    refine lv_aload_n hx hb dX10_nights_19 rfl (lv_at hl 0 rfl) ?_
    refine lv_iconst (v := 1) hx hb dX10_nights_20 (by decide) ?_
    refine x_calli hw (x_runV (ci := 10) C hw (m_X10_none l C.2.2.2.2.2.2.2.2.1 hX h) (xoX_0 hX) rfl (x_gV xw_343 xw_344 xw_345 xw_2 xw_346) rfl rfl qX10_none ⟨(Nat.le_of_ble_eq_true rfl), (Nat.le_of_ble_eq_true rfl)⟩ rfl hl.1 rfl (Nat.le_of_ble_eq_true rfl) dX10_nights_21) (fun r3 u2 H locs hw h => ?_)
    exact x_iret C hw h dX10_nights_24
  · have h := h.2 c1
    refine lv_iload_n hx hb dX10_nights_4 rfl (lv_at hl 1 rfl) ?_
    refine lv_aload_n hx hb dX10_nights_5 rfl (lv_at hl 0 rfl) ?_
    refine x_geti (ci := 10) C hw 13 (xoX_0 hX) rfl inlX10 (by decide) rfl rfl xw_378 dX10_nights_6 ?_
    refine lv_icmp_gt (tgt := 19) hx hb dX10_nights_9 (by decide) (fun c4 => ?_) (fun c4 => ?_)
    · have h := h.1 c4
      refine lv_aload_n hx hb dX10_nights_19 rfl (lv_at hl 0 rfl) ?_
      refine lv_iconst (v := 1) hx hb dX10_nights_20 (by decide) ?_
      refine x_calli hw (x_runV (ci := 10) C hw (m_X10_none l C.2.2.2.2.2.2.2.2.1 hX h) (xoX_0 hX) rfl (x_gV xw_343 xw_344 xw_345 xw_2 xw_346) rfl rfl qX10_none ⟨(Nat.le_of_ble_eq_true rfl), (Nat.le_of_ble_eq_true rfl)⟩ rfl hl.1 rfl (Nat.le_of_ble_eq_true rfl) dX10_nights_21) (fun r6 u5 H locs hw h => ?_)
      exact x_iret C hw h dX10_nights_24
    · have h := h.2 c4
      refine lv_iload_n hx hb dX10_nights_12 rfl (lv_at hl 1 rfl) ?_
      refine lv_sipush (v := 300) hx hb dX10_nights_13 (by decide) ?_
      refine lv_icmp_le (tgt := 25) hx hb dX10_nights_16 (by decide) (fun c7 => ?_) (fun c7 => ?_)
      · have h := h.1 c7
        refine lv_aload_n hx hb dX10_nights_25 rfl (lv_at hl 0 rfl) ?_
        refine x_getr (ci := 10) C hw 5 (xoX_0 hX) rfl inlX10 (by decide) rfl rfl xrX_0_5 xw_33 dX10_nights_26 ?_
        refine lv_aload_n hx hb dX10_nights_29 rfl (lv_at hl 0 rfl) ?_
        refine x_getr (ci := 10) C hw 12 (xoX_0 hX) rfl inlX10 (by decide) rfl rfl xrX_0_12 xw_44 dX10_nights_30 ?_
        refine lv_iload_n hx hb dX10_nights_33 rfl (lv_at hl 1 rfl) ?_
        refine lv_aload_n hx hb dX10_nights_34 rfl (lv_at hl 0 rfl) ?_
        refine x_getr (ci := 10) C hw 0 (xoX_0 hX) rfl inlX10 (by decide) rfl rfl xrX_0_0 xw_16 dX10_nights_35 ?_
        refine x_callz hw (x_runV (ci := 5) C hw (m_X5_readAll l C.2.2.2.2.2.2.2.2.1 hX (xpL_83 hX) h) (xoX_32 hX) rfl (x_gV xw_742 xw_743 xw_744 xw_32 xw_745) rfl rfl qX5_readAll ⟨(Nat.le_of_ble_eq_true rfl), (Nat.le_of_ble_eq_true rfl)⟩ rfl hl.1 rfl (Nat.le_of_ble_eq_true rfl) dX10_nights_38) (fun r9 u8 H locs hw h => ?_)
        refine lv_istore_n (lv' := [(2, .int (xb r9)), (0, .ref (xad g 0)), (1, .int a1)]) hx hb dX10_nights_41 rfl hl (by decide) rfl (fun ls hl => ?_)
        refine lv_aload_n hx hb dX10_nights_42 rfl (lv_at hl 1 rfl) ?_
        refine lv_aload_n hx hb dX10_nights_43 rfl (lv_at hl 1 rfl) ?_
        refine x_getr (ci := 10) C hw 5 (xoX_0 hX) rfl inlX10 (by decide) rfl rfl xrX_0_5 xw_33 dX10_nights_44 ?_
        refine x_getr (ci := 5) C hw 0 (xoX_32 hX) rfl inlX5 (by decide) rfl rfl xrX_32_0 xw_739 dX10_nights_47 ?_
        refine x_callv hw (x_runV (ci := 10) C hw (m_X10_emptyTape l C.2.2.2.2.2.2.2.2.1 hX (xpT_40 hX) h) (xoX_0 hX) rfl (x_gV xw_594 xw_595 xw_596 xw_2 xw_597) rfl rfl qX10_emptyTape ⟨(Nat.le_of_ble_eq_true rfl), (Nat.le_of_ble_eq_true rfl)⟩ rfl hl.1 rfl (Nat.le_of_ble_eq_true rfl) dX10_nights_50) (fun u10 H locs hw h => ?_)
        refine lv_iload_n hx hb dX10_nights_53 rfl (lv_at hl 0 rfl) ?_
        refine lv_if_ne (tgt := 64) hx hb dX10_nights_54 (by decide) (fun c11 => ?_) (fun c11 => ?_)
        · have h := h.1 (xb_t c11)
          refine lv_aload_n hx hb dX10_nights_64 rfl (lv_at hl 1 rfl) ?_
          refine x_getr (ci := 10) C hw 1 (xoX_0 hX) rfl inlX10 (by decide) rfl rfl xrX_0_1 xw_20 dX10_nights_65 ?_
          refine lv_aload_n hx hb dX10_nights_68 rfl (lv_at hl 1 rfl) ?_
          refine x_getr (ci := 10) C hw 5 (xoX_0 hX) rfl inlX10 (by decide) rfl rfl xrX_0_5 xw_33 dX10_nights_69 ?_
          refine x_getr (ci := 5) C hw 1 (xoX_32 hX) rfl inlX5 (by decide) rfl rfl xrX_32_1 xw_740 dX10_nights_72 ?_
          refine x_callv hw (x_runV (ci := 4) C hw (m_X4_copyFrom l C.2.2.2.2.2.2.2.2.1 (xpN_58 hX) (xpN_63 hX) h) (xoN_0 (xpN_58 hX)) rfl (x_gV xw_815 xw_816 xw_817 xw_19 xw_818) rfl rfl qX4_copyFrom ⟨(Nat.le_of_ble_eq_true rfl), (Nat.le_of_ble_eq_true rfl)⟩ rfl hl.1 rfl (Nat.le_of_ble_eq_true rfl) dX10_nights_75) (fun u12 H locs hw h => ?_)
          refine lv_aload_n hx hb dX10_nights_78 rfl (lv_at hl 1 rfl) ?_
          refine lv_aload_n hx hb dX10_nights_79 rfl (lv_at hl 1 rfl) ?_
          refine x_getr (ci := 10) C hw 1 (xoX_0 hX) rfl inlX10 (by decide) rfl rfl xrX_0_1 xw_20 dX10_nights_80 ?_
          refine x_geti (ci := 4) C hw 1 (xoN_0 (xpN_58 hX)) rfl inlX4 (by decide) rfl rfl xw_741 dX10_nights_83 ?_
          refine x_calli hw (x_runV (ci := 10) C hw (m_X10_fine l C.2.2.2.2.2.2.2.2.1 hX h) (xoX_0 hX) rfl (x_gV xw_622 xw_623 xw_624 xw_2 xw_625) rfl rfl qX10_fine ⟨(Nat.le_of_ble_eq_true rfl), (Nat.le_of_ble_eq_true rfl)⟩ rfl hl.1 rfl (Nat.le_of_ble_eq_true rfl) dX10_nights_86) (fun r14 u13 H locs hw h => ?_)
          exact x_iret C hw h dX10_nights_89
        · have h := h.2 (xb_f c11)
          refine lv_aload_n hx hb dX10_nights_57 rfl (lv_at hl 1 rfl) ?_
          refine lv_bipush (v := 9) hx hb dX10_nights_58 (by decide) ?_
          refine x_calli hw (x_runV (ci := 10) C hw (m_X10_none l C.2.2.2.2.2.2.2.2.1 hX h) (xoX_0 hX) rfl (x_gV xw_343 xw_344 xw_345 xw_2 xw_346) rfl rfl qX10_none ⟨(Nat.le_of_ble_eq_true rfl), (Nat.le_of_ble_eq_true rfl)⟩ rfl hl.1 rfl (Nat.le_of_ble_eq_true rfl) dX10_nights_60) (fun r16 u15 H locs hw h => ?_)
          exact x_iret C hw h dX10_nights_63
      · have h := h.2 c7
        refine lv_aload_n hx hb dX10_nights_19 rfl (lv_at hl 0 rfl) ?_
        refine lv_iconst (v := 1) hx hb dX10_nights_20 (by decide) ?_
        refine x_calli hw (x_runV (ci := 10) C hw (m_X10_none l C.2.2.2.2.2.2.2.2.1 hX h) (xoX_0 hX) rfl (x_gV xw_343 xw_344 xw_345 xw_2 xw_346) rfl rfl qX10_none ⟨(Nat.le_of_ble_eq_true rfl), (Nat.le_of_ble_eq_true rfl)⟩ rfl hl.1 rfl (Nat.le_of_ble_eq_true rfl) dX10_nights_21) (fun r18 u17 H locs hw h => ?_)
        exact x_iret C hw h dX10_nights_24
set_option maxHeartbeats 4000000 in
set_option maxRecDepth 100000 in
theorem m_X10_nights (l : Launch) {g : xG} (hD : x_D g) (hX : xpX g) {a1 : Int32} {u : xM} {Qf : Int32 → xM → Prop} (h : p_X10_nights a1 u Qf) : Met l yX10_nights (Cond.code yX10_nights cX10_nights 3 (some .int) :: wsL_law) (x_rm 7 160) (va_Pc [.ref (xad g 0), .int a1] (x_B g u)) (x_Qi g Qf) 0 0 (x_A g) := by
  refine Met.ofW (cc := cX10_nights) (maxL := 3) (ret := (some .int)) (by decide) rfl ?_
  intro p e s m args below meth c s₁ B hml hv
  obtain ⟨rfl, hB⟩ := hv
  obtain ⟨C, hw⟩ := x_start B hml hD hB
  have hl := lv_entry [.ref (xad g 0), .int a1] (n := 3) (Nat.le_of_ble_eq_true rfl)
  rw [lg_entry_eq]
  exact s_X10_nights C hX hw hl h
set_option maxHeartbeats 4000000 in
set_option maxRecDepth 100000 in
theorem s_X10_fault {Qf : Int32 → xM → Prop} {a1 : Int32} (C : x_C p s m args meth c g RX10 cX10_fault 2 (some .int)) (hX : xpX g) {u : xM} {H : Heap} {locs : List Loc} {ls : Array Slot} (hw : x_W g s.heap H locs u) (hl : lv_has ls 2 [(0, .ref (xad g 0)), (1, .int a1)]) (h : p_X10_fault a1 u Qf) : W p l e (x_rm 0 0) s m args below meth c H locs 0 0 (MQ below (x_Qi g Qf) args s 0 0 (x_A g)) (F0 m 0 ls []) := by
  unfold p_X10_fault at h
  have hx := C.1
  have hb := C.2.1
  refine lv_iload_n hx hb dX10_fault_0 rfl (lv_at hl 1 rfl) ?_
  refine lv_if_ne (tgt := 9) hx hb dX10_fault_1 (by decide) (fun c1 => ?_) (fun c1 => ?_)
  · have h := h.1 c1
    refine lv_iload_n hx hb dX10_fault_9 rfl (lv_at hl 1 rfl) ?_
    refine lv_iconst (v := 1) hx hb dX10_fault_10 (by decide) ?_
    refine lv_icmp_ne (tgt := 21) hx hb dX10_fault_11 (by decide) (fun c2 => ?_) (fun c2 => ?_)
    · have h := h.1 c2
      refine lv_iconst (v := -1) hx hb dX10_fault_21 (by decide) ?_
      exact x_iret C hw h dX10_fault_22
    · have h := h.2 c2
      refine lv_aload_n hx hb dX10_fault_14 rfl (lv_at hl 0 rfl) ?_
      refine x_geti (ci := 10) C hw 18 (xoX_0 hX) rfl inlX10 (by decide) rfl rfl xw_48 dX10_fault_15 ?_
      refine lv_goto (tgt := 22) hx hb dX10_fault_18 (by decide) ?_
      exact x_iret C hw h dX10_fault_22
  · have h := h.2 c1
    refine lv_aload_n hx hb dX10_fault_4 rfl (lv_at hl 0 rfl) ?_
    refine x_geti (ci := 10) C hw 17 (xoX_0 hX) rfl inlX10 (by decide) rfl rfl xw_47 dX10_fault_5 ?_
    exact x_iret C hw h dX10_fault_8
set_option maxHeartbeats 4000000 in
set_option maxRecDepth 100000 in
theorem m_X10_fault (l : Launch) {g : xG} (hD : x_D g) (hX : xpX g) {a1 : Int32} {u : xM} {Qf : Int32 → xM → Prop} (h : p_X10_fault a1 u Qf) : Met l yX10_fault (Cond.code yX10_fault cX10_fault 2 (some .int) :: wsL_law) (x_rm 0 0) (va_Pc [.ref (xad g 0), .int a1] (x_B g u)) (x_Qi g Qf) 0 0 (x_A g) := by
  refine Met.ofW (cc := cX10_fault) (maxL := 2) (ret := (some .int)) (by decide) rfl ?_
  intro p e s m args below meth c s₁ B hml hv
  obtain ⟨rfl, hB⟩ := hv
  obtain ⟨C, hw⟩ := x_start B hml hD hB
  have hl := lv_entry [.ref (xad g 0), .int a1] (n := 2) (Nat.le_of_ble_eq_true rfl)
  rw [lg_entry_eq]
  exact s_X10_fault C hX hw hl h
set_option maxHeartbeats 4000000 in
set_option maxRecDepth 100000 in
theorem s_X7_allWater_L4 {o : Nat} {Qf : Int32 → xM → Prop} (C : x_C p s m args meth c g RX7 cX7_allWater 3 (some .int)) (ho : xpL g o) : ∀ (nn : Nat) {v1 : Int32} {v2 : Int32} {u : xM} {H : Heap} {locs : List Loc} {ls : Array Slot} (hw : x_W g s.heap H locs u) (hl : lv_has ls 3 [(0, .ref (xad g (o + 1))), (1, .int v1), (2, .int v2)]) (h : p_X7_allWater_L4 o Qf nn v1 v2 u), W p l e (x_rm 0 0) s m args below meth c H locs 0 0 (MQ below (x_Qi g Qf) args s 0 0 (x_A g)) (F0 m 4 ls []) := by
  intro nn
  induction nn with
  | zero => intro v1 v2 u H locs ls hw hl h; exact h.elim
  | succ nn ih =>
    intro v1 v2 u H locs ls hw hl h
    unfold p_X7_allWater_L4 at h
    have hx := C.1
    have hb := C.2.1
    refine lv_iload_n hx hb dX7_allWater_4 rfl (lv_at hl 2 rfl) ?_
    refine lv_aload_n hx hb dX7_allWater_5 rfl (lv_at hl 0 rfl) ?_
    refine x_geti (ci := 7) C hw 0 (xoL_1 ho) rfl inlX7 (by decide) rfl rfl xw_414 dX7_allWater_6 ?_
    refine lv_icmp_ge (tgt := 27) hx hb dX7_allWater_9 (by decide) (fun c1 => ?_) (fun c1 => ?_)
    · have h := h.1 c1
      refine lv_iload_n hx hb dX7_allWater_27 rfl (lv_at hl 1 rfl) ?_
      exact x_iret C hw h dX7_allWater_28
    · have h := h.2 c1
      refine lv_iload_n hx hb dX7_allWater_12 rfl (lv_at hl 1 rfl) ?_
      refine lv_aload_n hx hb dX7_allWater_13 rfl (lv_at hl 0 rfl) ?_
      refine x_getr (ci := 7) C hw 7 (xoL_1 ho) rfl inlX7 (by decide) rfl rfl (xrL_1_7 ho) xw_84 dX7_allWater_14 ?_
      refine lv_iload_n hx hb dX7_allWater_17 rfl (lv_at hl 2 rfl) ?_
      have c2 := h.1
      have h := h.2
      refine x_iald C hw (xoL_7 ho) c2 dX7_allWater_18 ?_
      refine lv_iadd hx hb dX7_allWater_19 ?_
      refine lv_topi (fun x3 ex3 => ?_)
      have h := h x3 ex3
      refine lv_istore_n (lv' := [(1, .int x3), (0, .ref (xad g (o + 1))), (2, .int v2)]) hx hb dX7_allWater_20 rfl hl (by decide) rfl (fun ls hl => ?_)
      obtain ⟨x4, ex4⟩ : ∃ y : Int32, y = v2 + 1 := ⟨_, rfl⟩
      have h := h x4 ex4
      refine lv_iinc (v := x4) (lv' := [(2, .int x4), (1, .int x3), (0, .ref (xad g (o + 1)))]) hx hb dX7_allWater_21 hl (k := 2) rfl (by rw [ex4]; rfl) (by decide) rfl (fun ls hl => ?_)
      refine lv_goto (tgt := 4) hx hb dX7_allWater_24 (by decide) ?_
      exact ih hw (lv_sub hl [2, 1, 0] rfl) h
set_option maxHeartbeats 4000000 in
set_option maxRecDepth 100000 in
theorem s_X7_allWater {o : Nat} {Qf : Int32 → xM → Prop} (C : x_C p s m args meth c g RX7 cX7_allWater 3 (some .int)) (ho : xpL g o) {u : xM} {H : Heap} {locs : List Loc} {ls : Array Slot} (hw : x_W g s.heap H locs u) (hl : lv_has ls 3 [(0, .ref (xad g (o + 1)))]) (h : p_X7_allWater o u Qf) : W p l e (x_rm 0 0) s m args below meth c H locs 0 0 (MQ below (x_Qi g Qf) args s 0 0 (x_A g)) (F0 m 0 ls []) := by
  unfold p_X7_allWater at h
  have hx := C.1
  have hb := C.2.1
  refine lv_iconst (v := 0) hx hb dX7_allWater_0 (by decide) ?_
  refine lv_istore_n (lv' := [(1, .int 0), (0, .ref (xad g (o + 1)))]) hx hb dX7_allWater_1 rfl hl (by decide) rfl (fun ls hl => ?_)
  refine lv_iconst (v := 0) hx hb dX7_allWater_2 (by decide) ?_
  refine lv_istore_n (lv' := [(2, .int 0), (1, .int 0), (0, .ref (xad g (o + 1)))]) hx hb dX7_allWater_3 rfl hl (by decide) rfl (fun ls hl => ?_)
  obtain ⟨n9, h⟩ := h
  exact s_X7_allWater_L4 C ho n9 hw (lv_sub hl [2, 1, 0] rfl) h
set_option maxHeartbeats 4000000 in
set_option maxRecDepth 100000 in
theorem m_X7_allWater (l : Launch) {g : xG} (hD : x_D g) {o : Nat} (ho : xpL g o) {u : xM} {Qf : Int32 → xM → Prop} (h : p_X7_allWater o u Qf) : Met l yX7_allWater (Cond.code yX7_allWater cX7_allWater 3 (some .int) :: wsL_law) (x_rm 0 0) (va_Pc [.ref (xad g (o + 1))] (x_B g u)) (x_Qi g Qf) 0 0 (x_A g) := by
  refine Met.ofW (cc := cX7_allWater) (maxL := 3) (ret := (some .int)) (by decide) rfl ?_
  intro p e s m args below meth c s₁ B hml hv
  obtain ⟨rfl, hB⟩ := hv
  obtain ⟨C, hw⟩ := x_start B hml hD hB
  have hl := lv_entry [.ref (xad g (o + 1))] (n := 3) (Nat.le_of_ble_eq_true rfl)
  rw [lg_entry_eq]
  exact s_X7_allWater C ho hw hl h
set_option maxHeartbeats 4000000 in
set_option maxRecDepth 100000 in
theorem s_X7_depth {o : Nat} {Qf : Int32 → xM → Prop} {a1 : Int32} (C : x_C p s m args meth c g RX7 cX7_depth 2 (some .int)) (ho : xpL g o) {u : xM} {H : Heap} {locs : List Loc} {ls : Array Slot} (hw : x_W g s.heap H locs u) (hl : lv_has ls 2 [(0, .ref (xad g (o + 1))), (1, .int a1)]) (h : p_X7_depth o a1 u Qf) : W p l e (x_rm 0 0) s m args below meth c H locs 0 0 (MQ below (x_Qi g Qf) args s 0 0 (x_A g)) (F0 m 0 ls []) := by
  unfold p_X7_depth at h
  have hx := C.1
  have hb := C.2.1
  refine lv_iload_n hx hb dX7_depth_0 rfl (lv_at hl 1 rfl) ?_
  refine lv_if_lt (tgt := 20) hx hb dX7_depth_1 (by decide) (fun c1 => ?_) (fun c1 => ?_)
  · have h := h.1 c1
    refine lv_iconst (v := 0) hx hb dX7_depth_20 (by decide) ?_
    exact x_iret C hw h dX7_depth_21
  · have h := h.2 c1
    refine lv_iload_n hx hb dX7_depth_4 rfl (lv_at hl 1 rfl) ?_
    refine lv_bipush (v := 7) hx hb dX7_depth_5 (by decide) ?_
    refine lv_icmp_ge (tgt := 20) hx hb dX7_depth_7 (by decide) (fun c2 => ?_) (fun c2 => ?_)
    · have h := h.1 c2
      refine lv_iconst (v := 0) hx hb dX7_depth_20 (by decide) ?_
      exact x_iret C hw h dX7_depth_21
    · have h := h.2 c2
      refine lv_aload_n hx hb dX7_depth_10 rfl (lv_at hl 0 rfl) ?_
      refine x_getr (ci := 7) C hw 4 (xoL_1 ho) rfl inlX7 (by decide) rfl rfl (xrL_1_4 ho) xw_81 dX7_depth_11 ?_
      refine lv_iload_n hx hb dX7_depth_14 rfl (lv_at hl 1 rfl) ?_
      have c3 := h.1
      have h := h.2
      refine x_iald C hw (xoL_4 ho) c3 dX7_depth_15 ?_
      refine lv_iconst (v := 1) hx hb dX7_depth_16 (by decide) ?_
      refine lv_icmp_ge (tgt := 22) hx hb dX7_depth_17 (by decide) (fun c4 => ?_) (fun c4 => ?_)
      · have h := h.1 c4
        refine lv_aload_n hx hb dX7_depth_22 rfl (lv_at hl 0 rfl) ?_
        refine x_getr (ci := 7) C hw 7 (xoL_1 ho) rfl inlX7 (by decide) rfl rfl (xrL_1_7 ho) xw_84 dX7_depth_23 ?_
        refine lv_iload_n hx hb dX7_depth_26 rfl (lv_at hl 1 rfl) ?_
        have c5 := h.1
        have h := h.2
        refine x_iald C hw (xoL_7 ho) c5 dX7_depth_27 ?_
        refine lv_aload_n hx hb dX7_depth_28 rfl (lv_at hl 0 rfl) ?_
        refine x_getr (ci := 7) C hw 4 (xoL_1 ho) rfl inlX7 (by decide) rfl rfl (xrL_1_4 ho) xw_81 dX7_depth_29 ?_
        refine lv_iload_n hx hb dX7_depth_32 rfl (lv_at hl 1 rfl) ?_
        have c6 := h.1
        have h := h.2
        refine x_iald C hw (xoL_4 ho) c6 dX7_depth_33 ?_
        have c7 := h.1
        have h := h.2
        refine lv_idiv hx hb dX7_depth_34 c7 ?_
        exact x_iret C hw h dX7_depth_35
      · have h := h.2 c4
        refine lv_iconst (v := 0) hx hb dX7_depth_20 (by decide) ?_
        exact x_iret C hw h dX7_depth_21
set_option maxHeartbeats 4000000 in
set_option maxRecDepth 100000 in
theorem m_X7_depth (l : Launch) {g : xG} (hD : x_D g) {o : Nat} (ho : xpL g o) {a1 : Int32} {u : xM} {Qf : Int32 → xM → Prop} (h : p_X7_depth o a1 u Qf) : Met l yX7_depth (Cond.code yX7_depth cX7_depth 2 (some .int) :: wsL_law) (x_rm 0 0) (va_Pc [.ref (xad g (o + 1)), .int a1] (x_B g u)) (x_Qi g Qf) 0 0 (x_A g) := by
  refine Met.ofW (cc := cX7_depth) (maxL := 2) (ret := (some .int)) (by decide) rfl ?_
  intro p e s m args below meth c s₁ B hml hv
  obtain ⟨rfl, hB⟩ := hv
  obtain ⟨C, hw⟩ := x_start B hml hD hB
  have hl := lv_entry [.ref (xad g (o + 1)), .int a1] (n := 2) (Nat.le_of_ble_eq_true rfl)
  rw [lg_entry_eq]
  exact s_X7_depth C ho hw hl h
set_option maxHeartbeats 4000000 in
set_option maxRecDepth 100000 in
theorem s_X7_wetOnes_L4 {o : Nat} {Qf : Int32 → xM → Prop} (C : x_C p s m args meth c g RX7 cX7_wetOnes 3 (some .int)) (ho : xpL g o) : ∀ (nn : Nat) {v1 : Int32} {v2 : Int32} {u : xM} {H : Heap} {locs : List Loc} {ls : Array Slot} (hw : x_W g s.heap H locs u) (hl : lv_has ls 3 [(0, .ref (xad g (o + 1))), (1, .int v1), (2, .int v2)]) (h : p_X7_wetOnes_L4 o Qf nn v1 v2 u), W p l e (x_rm 1 21) s m args below meth c H locs 0 0 (MQ below (x_Qi g Qf) args s 0 0 (x_A g)) (F0 m 4 ls []) := by
  intro nn
  induction nn with
  | zero => intro v1 v2 u H locs ls hw hl h; exact h.elim
  | succ nn ih =>
    intro v1 v2 u H locs ls hw hl h
    unfold p_X7_wetOnes_L4 at h
    have hx := C.1
    have hb := C.2.1
    refine lv_iload_n hx hb dX7_wetOnes_4 rfl (lv_at hl 2 rfl) ?_
    refine lv_aload_n hx hb dX7_wetOnes_5 rfl (lv_at hl 0 rfl) ?_
    refine x_geti (ci := 7) C hw 0 (xoL_1 ho) rfl inlX7 (by decide) rfl rfl xw_414 dX7_wetOnes_6 ?_
    refine lv_icmp_ge (tgt := 32) hx hb dX7_wetOnes_9 (by decide) (fun c1 => ?_) (fun c1 => ?_)
    · have h := h.1 c1
      refine lv_iload_n hx hb dX7_wetOnes_32 rfl (lv_at hl 1 rfl) ?_
      exact x_iret C hw h dX7_wetOnes_33
    · have h := h.2 c1
      refine lv_aload_n hx hb dX7_wetOnes_12 rfl (lv_at hl 0 rfl) ?_
      refine lv_iload_n hx hb dX7_wetOnes_13 rfl (lv_at hl 2 rfl) ?_
      refine x_calli hw (x_runV (ci := 7) C hw (m_X7_depth l C.2.2.2.2.2.2.2.2.1 ho h) (xoL_1 ho) rfl (x_gV xw_873 xw_874 xw_875 xw_57 xw_876) rfl rfl qX7_depth ⟨(Nat.le_of_ble_eq_true rfl), (Nat.le_of_ble_eq_true rfl)⟩ rfl hl.1 rfl (Nat.le_of_ble_eq_true rfl) dX7_wetOnes_14) (fun r3 u2 H locs hw h => ?_)
      refine lv_if_le (tgt := 26) hx hb dX7_wetOnes_17 (by decide) (fun c4 => ?_) (fun c4 => ?_)
      · have h := h.1 c4
        obtain ⟨x5, ex5⟩ : ∃ y : Int32, y = v2 + 1 := ⟨_, rfl⟩
        have h := h x5 ex5
        refine lv_iinc (v := x5) (lv' := [(2, .int x5), (0, .ref (xad g (o + 1))), (1, .int v1)]) hx hb dX7_wetOnes_26 hl (k := 2) rfl (by rw [ex5]; rfl) (by decide) rfl (fun ls hl => ?_)
        refine lv_goto (tgt := 4) hx hb dX7_wetOnes_29 (by decide) ?_
        exact ih hw (lv_sub hl [1, 2, 0] rfl) h
      · have h := h.2 c4
        refine lv_iload_n hx hb dX7_wetOnes_20 rfl (lv_at hl 1 rfl) ?_
        refine lv_iconst (v := 1) hx hb dX7_wetOnes_21 (by decide) ?_
        refine lv_iload_n hx hb dX7_wetOnes_22 rfl (lv_at hl 2 rfl) ?_
        refine lv_ishl hx hb dX7_wetOnes_23 ?_
        refine lv_ior hx hb dX7_wetOnes_24 ?_
        refine lv_topi (fun x6 ex6 => ?_)
        have h := h x6 ex6
        refine lv_istore_n (lv' := [(1, .int x6), (0, .ref (xad g (o + 1))), (2, .int v2)]) hx hb dX7_wetOnes_25 rfl hl (by decide) rfl (fun ls hl => ?_)
        obtain ⟨x7, ex7⟩ : ∃ y : Int32, y = v2 + 1 := ⟨_, rfl⟩
        have h := h x7 ex7
        refine lv_iinc (v := x7) (lv' := [(2, .int x7), (1, .int x6), (0, .ref (xad g (o + 1)))]) hx hb dX7_wetOnes_26 hl (k := 2) rfl (by rw [ex7]; rfl) (by decide) rfl (fun ls hl => ?_)
        refine lv_goto (tgt := 4) hx hb dX7_wetOnes_29 (by decide) ?_
        exact ih hw (lv_sub hl [2, 1, 0] rfl) h
set_option maxHeartbeats 4000000 in
set_option maxRecDepth 100000 in
theorem s_X7_wetOnes {o : Nat} {Qf : Int32 → xM → Prop} (C : x_C p s m args meth c g RX7 cX7_wetOnes 3 (some .int)) (ho : xpL g o) {u : xM} {H : Heap} {locs : List Loc} {ls : Array Slot} (hw : x_W g s.heap H locs u) (hl : lv_has ls 3 [(0, .ref (xad g (o + 1)))]) (h : p_X7_wetOnes o u Qf) : W p l e (x_rm 1 21) s m args below meth c H locs 0 0 (MQ below (x_Qi g Qf) args s 0 0 (x_A g)) (F0 m 0 ls []) := by
  unfold p_X7_wetOnes at h
  have hx := C.1
  have hb := C.2.1
  refine lv_iconst (v := 0) hx hb dX7_wetOnes_0 (by decide) ?_
  refine lv_istore_n (lv' := [(1, .int 0), (0, .ref (xad g (o + 1)))]) hx hb dX7_wetOnes_1 rfl hl (by decide) rfl (fun ls hl => ?_)
  refine lv_iconst (v := 0) hx hb dX7_wetOnes_2 (by decide) ?_
  refine lv_istore_n (lv' := [(2, .int 0), (1, .int 0), (0, .ref (xad g (o + 1)))]) hx hb dX7_wetOnes_3 rfl hl (by decide) rfl (fun ls hl => ?_)
  obtain ⟨n9, h⟩ := h
  exact s_X7_wetOnes_L4 C ho n9 hw (lv_sub hl [2, 1, 0] rfl) h
set_option maxHeartbeats 4000000 in
set_option maxRecDepth 100000 in
theorem m_X7_wetOnes (l : Launch) {g : xG} (hD : x_D g) {o : Nat} (ho : xpL g o) {u : xM} {Qf : Int32 → xM → Prop} (h : p_X7_wetOnes o u Qf) : Met l yX7_wetOnes (Cond.code yX7_wetOnes cX7_wetOnes 3 (some .int) :: wsL_law) (x_rm 1 21) (va_Pc [.ref (xad g (o + 1))] (x_B g u)) (x_Qi g Qf) 0 0 (x_A g) := by
  refine Met.ofW (cc := cX7_wetOnes) (maxL := 3) (ret := (some .int)) (by decide) rfl ?_
  intro p e s m args below meth c s₁ B hml hv
  obtain ⟨rfl, hB⟩ := hv
  obtain ⟨C, hw⟩ := x_start B hml hD hB
  have hl := lv_entry [.ref (xad g (o + 1))] (n := 3) (Nat.le_of_ble_eq_true rfl)
  rw [lg_entry_eq]
  exact s_X7_wetOnes C ho hw hl h
set_option maxHeartbeats 4000000 in
set_option maxRecDepth 100000 in
theorem s_X1_openNow {o : Nat} {Qf : Int32 → xM → Prop} (C : x_C p s m args meth c g RX1 cX1_openNow 1 (some .int)) (ho : xpL g o) {u : xM} {H : Heap} {locs : List Loc} {ls : Array Slot} (hw : x_W g s.heap H locs u) (hl : lv_has ls 1 [(0, .ref (xad g o))]) (h : p_X1_openNow o u Qf) : W p l e (x_rm 0 0) s m args below meth c H locs 0 0 (MQ below (x_Qi g Qf) args s 0 0 (x_A g)) (F0 m 0 ls []) := by
  unfold p_X1_openNow at h
  have hx := C.1
  have hb := C.2.1
  refine lv_aload_n hx hb dX1_openNow_0 rfl (lv_at hl 0 rfl) ?_
  refine x_getr (ci := 1) C hw 1 (xoL_0 ho) rfl inlX1 (by decide) rfl rfl (xrL_0_1 ho) xw_62 dX1_openNow_1 ?_
  refine x_geti (ci := 0) C hw 1 (xoL_9 ho) rfl inlX0 (by decide) rfl rfl xw_881 dX1_openNow_4 ?_
  refine lv_aload_n hx hb dX1_openNow_7 rfl (lv_at hl 0 rfl) ?_
  refine x_getr (ci := 1) C hw 1 (xoL_0 ho) rfl inlX1 (by decide) rfl rfl (xrL_0_1 ho) xw_62 dX1_openNow_8 ?_
  refine x_getr (ci := 0) C hw 9 (xoL_9 ho) rfl inlX0 (by decide) rfl rfl (xrL_9_9 ho) xw_882 dX1_openNow_11 ?_
  refine lv_aload_n hx hb dX1_openNow_14 rfl (lv_at hl 0 rfl) ?_
  refine x_geti (ci := 1) C hw 8 (xoL_0 ho) rfl inlX1 (by decide) rfl rfl xw_409 dX1_openNow_15 ?_
  refine lv_bipush (v := 12) hx hb dX1_openNow_18 (by decide) ?_
  refine lv_irem hx hb dX1_openNow_20 (by decide) ?_
  refine lv_topi (fun x1 ex1 => ?_)
  have h := h x1 ex1
  have c2 := h.1
  have h := h.2
  refine x_iald C hw (xoL_16 ho) c2 dX1_openNow_21 ?_
  refine lv_ior hx hb dX1_openNow_22 ?_
  refine lv_aload_n hx hb dX1_openNow_23 rfl (lv_at hl 0 rfl) ?_
  refine x_getr (ci := 1) C hw 1 (xoL_0 ho) rfl inlX1 (by decide) rfl rfl (xrL_0_1 ho) xw_62 dX1_openNow_24 ?_
  refine x_geti (ci := 0) C hw 2 (xoL_9 ho) rfl inlX0 (by decide) rfl rfl xw_883 dX1_openNow_27 ?_
  refine lv_iconst (v := -1) hx hb dX1_openNow_30 (by decide) ?_
  refine lv_ixor hx hb dX1_openNow_31 ?_
  refine lv_iand hx hb dX1_openNow_32 ?_
  exact x_iret C hw h dX1_openNow_33
set_option maxHeartbeats 4000000 in
set_option maxRecDepth 100000 in
theorem m_X1_openNow (l : Launch) {g : xG} (hD : x_D g) {o : Nat} (ho : xpL g o) {u : xM} {Qf : Int32 → xM → Prop} (h : p_X1_openNow o u Qf) : Met l yX1_openNow (Cond.code yX1_openNow cX1_openNow 1 (some .int) :: wsL_law) (x_rm 0 0) (va_Pc [.ref (xad g o)] (x_B g u)) (x_Qi g Qf) 0 0 (x_A g) := by
  refine Met.ofW (cc := cX1_openNow) (maxL := 1) (ret := (some .int)) (by decide) rfl ?_
  intro p e s m args below meth c s₁ B hml hv
  obtain ⟨rfl, hB⟩ := hv
  obtain ⟨C, hw⟩ := x_start B hml hD hB
  have hl := lv_entry [.ref (xad g o)] (n := 1) (Nat.le_of_ble_eq_true rfl)
  rw [lg_entry_eq]
  exact s_X1_openNow C ho hw hl h
end
