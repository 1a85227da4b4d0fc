section
variable {p : Program} {l : Launch} {e : Env} {s : State} {m : MethodId} {args : Array Value} {below : List Frame} {meth : Method} {c : Code} {g : xG}
set_option maxHeartbeats 4000000 in
set_option maxRecDepth 100000 in
theorem s_X3_drawBy {o : Nat} {Qf : Int32 → xM → Prop} {a1 : Int32} (C : x_C p s m args meth c g RX3 cX3_drawBy 2 (some .int)) (ho : xpF g o) {u : xM} {H : Heap} {locs : List Loc} {ls : Array Slot} (hw : x_W g s.heap H locs u) (hl : lv_has ls 2 [(0, .ref (xad g o)), (1, .int a1)]) (h : p_X3_drawBy o a1 u Qf) : W p l e (x_rm 0 0) s m args below meth c H locs 0 0 (MQ below (x_Qi g Qf) args s 0 0 (x_A g)) (F0 m 0 ls []) := by
  unfold p_X3_drawBy at h
  have hx := C.1
  have hb := C.2.1
  refine lv_aload_n hx hb dX3_drawBy_0 rfl (lv_at hl 0 rfl) ?_
  refine lv_aload_n hx hb dX3_drawBy_1 rfl (lv_at hl 0 rfl) ?_
  refine x_geti (ci := 3) C hw 7 (xoF_0 ho) rfl inlX3 (by decide) rfl rfl xw_1844 dX3_drawBy_2 ?_
  refine lv_sipush (v := 3011) hx hb dX3_drawBy_5 (by decide) ?_
  refine lv_imul hx hb dX3_drawBy_8 ?_
  refine lv_sipush (v := 11213) hx hb dX3_drawBy_9 (by decide) ?_
  refine lv_iadd hx hb dX3_drawBy_12 ?_
  refine lv_ldc (v := 65536) hx hb C.2.2.2.1 (C.2.2.2.2.1 _ xw_1890) dX3_drawBy_13 ?_
  refine lv_irem hx hb dX3_drawBy_15 (by decide) ?_
  refine lv_topi (fun x1 ex1 => ?_)
  have h := h x1 ex1
  obtain ⟨u2, eu2⟩ : ∃ q : xM, q = si u o 7 x1 := ⟨_, rfl⟩
  have h := h u2 eu2
  refine x_puti (ci := 3) (ty := .int) C hw 7 (xoF_0 ho) rfl inlX3 tyX3_ok nmX3 (by decide) rfl rfl xw_1844 rfl (by decide +kernel) rfl rfl dX3_drawBy_16 eu2 (fun H locs hw => ?_)
  refine lv_iload_n hx hb dX3_drawBy_19 rfl (lv_at hl 1 rfl) ?_
  refine lv_iconst (v := 1) hx hb dX3_drawBy_20 (by decide) ?_
  refine lv_icmp_ge (tgt := 28) hx hb dX3_drawBy_21 (by decide) (fun c3 => ?_) (fun c3 => ?_)
  · have h := h.1 c3
    refine lv_aload_n hx hb dX3_drawBy_28 rfl (lv_at hl 0 rfl) ?_
    refine x_geti (ci := 3) C hw 7 (xoF_0 ho) rfl inlX3 (by decide) rfl rfl xw_1844 dX3_drawBy_29 ?_
    refine lv_bipush (v := 8) hx hb dX3_drawBy_32 (by decide) ?_
    refine lv_idiv hx hb dX3_drawBy_34 (by decide) ?_
    refine lv_iload_n hx hb dX3_drawBy_35 rfl (lv_at hl 1 rfl) ?_
    have c4 := h.1
    have h := h.2
    refine lv_irem hx hb dX3_drawBy_36 c4 ?_
    refine lv_topi (fun x5 ex5 => ?_)
    have h := h x5 ex5
    exact x_iret C hw h dX3_drawBy_37
  · have h := h.2 c3
    refine lv_iconst (v := 0) hx hb dX3_drawBy_24 (by decide) ?_
    refine lv_goto (tgt := 37) hx hb dX3_drawBy_25 (by decide) ?_
    exact x_iret C hw h dX3_drawBy_37
set_option maxHeartbeats 4000000 in
set_option maxRecDepth 100000 in
theorem m_X3_drawBy (l : Launch) {g : xG} (hD : x_D g) {o : Nat} (ho : xpF g o) {a1 : Int32} {u : xM} {Qf : Int32 → xM → Prop} (h : p_X3_drawBy o a1 u Qf) : Met l yX3_drawBy (Cond.code yX3_drawBy cX3_drawBy 2 (some .int) :: wsL_law) (x_rm 0 0) (va_Pc [.ref (xad g o), .int a1] (x_B g u)) (x_Qi g Qf) 0 0 (x_A g) := by
  refine Met.ofW (cc := cX3_drawBy) (maxL := 2) (ret := (some .int)) (by decide) rfl ?_
  intro p e s m args below meth c s₁ B hml hv
  obtain ⟨rfl, hB⟩ := hv
  obtain ⟨C, hw⟩ := x_start B hml hD hB
  have hl := lv_entry [.ref (xad g o), .int a1] (n := 2) (Nat.le_of_ble_eq_true rfl)
  rw [lg_entry_eq]
  exact s_X3_drawBy C ho hw hl h
set_option maxHeartbeats 4000000 in
set_option maxRecDepth 100000 in
theorem s_X3_turnAny {o : Nat} {o1 : Nat} {Qf : xM → Prop} (C : x_C p s m args meth c g RX3 cX3_turnAny 2 none) (ho : xpF g o) (ho1 : xpL g o1) {u : xM} {H : Heap} {locs : List Loc} {ls : Array Slot} (hw : x_W g s.heap H locs u) (hl : lv_has ls 2 [(0, .ref (xad g o)), (1, .ref (xad g o1))]) (h : p_X3_turnAny o o1 u Qf) : W p l e (x_rm 1 21) s m args below meth c H locs 0 0 (MQ below (x_Qv g Qf) args s 0 0 (x_A g)) (F0 m 0 ls []) := by
  unfold p_X3_turnAny at h
  have hx := C.1
  have hb := C.2.1
  refine lv_aload_n hx hb dX3_turnAny_0 rfl (lv_at hl 1 rfl) ?_
  refine x_getr (ci := 1) C hw 1 (xoL_0 ho1) rfl inlX1 (by decide) rfl rfl (xrL_0_1 ho1) xw_1872 dX3_turnAny_1 ?_
  refine x_geti (ci := 0) C hw 0 (xoL_9 ho1) rfl inlX0 (by decide) rfl rfl xw_1885 dX3_turnAny_4 ?_
  refine lv_iconst (v := 1) hx hb dX3_turnAny_7 (by decide) ?_
  refine lv_icmp_ge (tgt := 24) hx hb dX3_turnAny_8 (by decide) (fun c1 => ?_) (fun c1 => ?_)
  · have h := h.1 c1
    refine lv_aload_n hx hb dX3_turnAny_24 rfl (lv_at hl 1 rfl) ?_
    refine x_getr (ci := 1) C hw 1 (xoL_0 ho1) rfl inlX1 (by decide) rfl rfl (xrL_0_1 ho1) xw_1872 dX3_turnAny_25 ?_
    refine lv_dup hx hb dX3_turnAny_28 rfl ?_
    refine x_geti (ci := 0) C hw 1 (xoL_9 ho1) rfl inlX0 (by decide) rfl rfl xw_1873 dX3_turnAny_29 ?_
    refine lv_iconst (v := 1) hx hb dX3_turnAny_32 (by decide) ?_
    refine lv_aload_n hx hb dX3_turnAny_33 rfl (lv_at hl 0 rfl) ?_
    refine lv_aload_n hx hb dX3_turnAny_34 rfl (lv_at hl 1 rfl) ?_
    refine x_getr (ci := 1) C hw 1 (xoL_0 ho1) rfl inlX1 (by decide) rfl rfl (xrL_0_1 ho1) xw_1872 dX3_turnAny_35 ?_
    refine x_geti (ci := 0) C hw 0 (xoL_9 ho1) rfl inlX0 (by decide) rfl rfl xw_1885 dX3_turnAny_38 ?_
    refine x_calli hw (x_runV (ci := 3) C hw (m_X3_drawBy l C.2.2.2.2.2.2.2.2.1 ho h) (xoF_0 ho) rfl (x_gV xw_1886 xw_1887 xw_1888 xw_36 xw_1889) rfl rfl qX3_drawBy ⟨(Nat.le_of_ble_eq_true rfl), (Nat.le_of_ble_eq_true rfl)⟩ rfl hl.1 rfl (Nat.le_of_ble_eq_true rfl) dX3_turnAny_41) (fun r3 u2 H locs hw h => ?_)
    refine lv_ishl hx hb dX3_turnAny_44 ?_
    refine lv_ixor hx hb dX3_turnAny_45 ?_
    obtain ⟨u4, eu4⟩ : ∃ q : xM, q = si u2 (o1 + 9) 1 ((gi u (o1 + 9) 1) ^^^ ((1 : Int32) <<< (r3 &&& 31))) := ⟨_, rfl⟩
    have h := h u4 eu4
    refine x_puti (ci := 0) (ty := .int) C hw 1 (xoL_9 ho1) rfl inlX0 tyX0_ok nmX0 (by decide) rfl rfl xw_1873 rfl (by decide +kernel) rfl rfl dX3_turnAny_46 eu4 (fun H locs hw => ?_)
    exact x_vret C hw h dX3_turnAny_49
  · have h := h.2 c1
    refine lv_aload_n hx hb dX3_turnAny_11 rfl (lv_at hl 0 rfl) ?_
    refine lv_dup hx hb dX3_turnAny_12 rfl ?_
    refine x_geti (ci := 3) C hw 2 (xoF_0 ho) rfl inlX3 (by decide) rfl rfl xw_1839 dX3_turnAny_13 ?_
    refine lv_iconst (v := 1) hx hb dX3_turnAny_16 (by decide) ?_
    refine lv_iadd hx hb dX3_turnAny_17 ?_
    obtain ⟨u5, eu5⟩ : ∃ q : xM, q = si u o 2 ((gi u o 2) + (1 : Int32)) := ⟨_, rfl⟩
    have h := h u5 eu5
    refine x_puti (ci := 3) (ty := .int) C hw 2 (xoF_0 ho) rfl inlX3 tyX3_ok nmX3 (by decide) rfl rfl xw_1839 rfl (by decide +kernel) rfl rfl dX3_turnAny_18 eu5 (fun H locs hw => ?_)
    refine lv_goto (tgt := 49) hx hb dX3_turnAny_21 (by decide) ?_
    exact x_vret C hw h dX3_turnAny_49
set_option maxHeartbeats 4000000 in
set_option maxRecDepth 100000 in
theorem m_X3_turnAny (l : Launch) {g : xG} (hD : x_D g) {o : Nat} {o1 : Nat} (ho : xpF g o) (ho1 : xpL g o1) {u : xM} {Qf : xM → Prop} (h : p_X3_turnAny o o1 u Qf) : Met l yX3_turnAny (Cond.code yX3_turnAny cX3_turnAny 2 none :: wsL_law) (x_rm 1 21) (va_Pc [.ref (xad g o), .ref (xad g o1)] (x_B g u)) (x_Qv g Qf) 0 0 (x_A g) := by
  refine Met.ofW (cc := cX3_turnAny) (maxL := 2) (ret := none) (by decide) rfl ?_
  intro p e s m args below meth c s₁ B hml hv
  obtain ⟨rfl, hB⟩ := hv
  obtain ⟨C, hw⟩ := x_start B hml hD hB
  have hl := lv_entry [.ref (xad g o), .ref (xad g o1)] (n := 2) (Nat.le_of_ble_eq_true rfl)
  rw [lg_entry_eq]
  exact s_X3_turnAny C ho ho1 hw hl h
set_option maxHeartbeats 4000000 in
set_option maxRecDepth 100000 in
theorem s_X3_isSo {o2 : Nat} {Qf : Bool → xM → Prop} {a1 : Int32} {a3 : Int32} {a4 : Int32} (C : x_C p s m args meth c g RX3 cX3_isSo 4 (some .boolean)) (ho2 : xpL g o2) {u : xM} {H : Heap} {locs : List Loc} {ls : Array Slot} (hw : x_W g s.heap H locs u) (hl : lv_has ls 4 [(0, .int a1), (1, .ref (xad g o2)), (2, .int a3), (3, .int a4)]) (h : p_X3_isSo a1 o2 a3 a4 u Qf) : W p l e (x_rm 1 21) s m args below meth c H locs 0 0 (MQ below (x_Qz g Qf) args s 0 0 (x_A g)) (F0 m 0 ls []) := by
  unfold p_X3_isSo at h
  have hx := C.1
  have hb := C.2.1
  refine lv_iload_n hx hb dX3_isSo_0 rfl (lv_at hl 0 rfl) ?_
  by_cases c1 : a1 = 5
  · refine lv_tableIn (off := 35) (tgt := 36) hx hb dX3_isSo_1 (by rw [c1]; decide) (by rw [c1]; decide) (by rw [c1]; rfl) (by decide) ?_
    have h := h.1 c1
    refine lv_aload_n hx hb dX3_isSo_36 rfl (lv_at hl 1 rfl) ?_
    refine x_getr (ci := 1) C hw 0 (xoL_0 ho2) rfl inlX1 (by decide) rfl rfl (xrL_0_0 ho2) xw_1864 dX3_isSo_37 ?_
    refine lv_iload_n hx hb dX3_isSo_40 rfl (lv_at hl 2 rfl) ?_
    refine x_calli hw (x_runV (ci := 7) C hw (m_X7_depth l C.2.2.2.2.2.2.2.2.1 ho2 h) (xoL_1 ho2) rfl (x_gV xw_1894 xw_874 xw_875 xw_57 xw_876) rfl rfl qX7_depth ⟨(Nat.le_of_ble_eq_true rfl), (Nat.le_of_ble_eq_true rfl)⟩ rfl hl.1 rfl (Nat.le_of_ble_eq_true rfl) dX3_isSo_41) (fun r3 u2 H locs hw h => ?_)
    refine lv_if_le (tgt := 51) hx hb dX3_isSo_44 (by decide) (fun c4 => ?_) (fun c4 => ?_)
    · have h := h.1 c4
      refine lv_iconst (v := 0) hx hb dX3_isSo_51 (by decide) ?_
      exact x_zret false C hw h rfl dX3_isSo_52
    · have h := h.2 c4
      refine lv_iconst (v := 1) hx hb dX3_isSo_47 (by decide) ?_
      refine lv_goto (tgt := 52) hx hb dX3_isSo_48 (by decide) ?_
      exact x_zret true C hw h rfl dX3_isSo_52
  by_cases c5 : a1 = 6
  · refine lv_tableIn (off := 52) (tgt := 53) hx hb dX3_isSo_1 (by rw [c5]; decide) (by rw [c5]; decide) (by rw [c5]; rfl) (by decide) ?_
    have h := h.2.1 c5
    refine lv_aload_n hx hb dX3_isSo_53 rfl (lv_at hl 1 rfl) ?_
    refine x_calli hw (x_runV (ci := 1) C hw (m_X1_openNow l C.2.2.2.2.2.2.2.2.1 ho2 h) (xoL_0 ho2) rfl (x_gV xw_1895 xw_878 xw_879 xw_15 xw_880) rfl rfl qX1_openNow ⟨(Nat.le_of_ble_eq_true rfl), (Nat.le_of_ble_eq_true rfl)⟩ rfl hl.1 rfl (Nat.le_of_ble_eq_true rfl) dX3_isSo_54) (fun r7 u6 H locs hw h => ?_)
    refine lv_iload_n hx hb dX3_isSo_57 rfl (lv_at hl 2 rfl) ?_
    refine lv_ishr hx hb dX3_isSo_58 ?_
    refine lv_iconst (v := 1) hx hb dX3_isSo_59 (by decide) ?_
    refine lv_iand hx hb dX3_isSo_60 ?_
    refine lv_iconst (v := 1) hx hb dX3_isSo_61 (by decide) ?_
    refine lv_icmp_ne (tgt := 69) hx hb dX3_isSo_62 (by decide) (fun c8 => ?_) (fun c8 => ?_)
    · have h := h.1 c8
      refine lv_iconst (v := 0) hx hb dX3_isSo_69 (by decide) ?_
      exact x_zret false C hw h rfl dX3_isSo_70
    · have h := h.2 c8
      refine lv_iconst (v := 1) hx hb dX3_isSo_65 (by decide) ?_
      refine lv_goto (tgt := 70) hx hb dX3_isSo_66 (by decide) ?_
      exact x_zret true C hw h rfl dX3_isSo_70
  by_cases c9 : a1 = 7
  · refine lv_tableIn (off := 70) (tgt := 71) hx hb dX3_isSo_1 (by rw [c9]; decide) (by rw [c9]; decide) (by rw [c9]; rfl) (by decide) ?_
    have h := h.2.2.1 c9
    refine lv_aload_n hx hb dX3_isSo_71 rfl (lv_at hl 1 rfl) ?_
    refine x_getr (ci := 1) C hw 0 (xoL_0 ho2) rfl inlX1 (by decide) rfl rfl (xrL_0_0 ho2) xw_1864 dX3_isSo_72 ?_
    refine lv_iload_n hx hb dX3_isSo_75 rfl (lv_at hl 2 rfl) ?_
    refine x_calli hw (x_runV (ci := 7) C hw (m_X7_depth l C.2.2.2.2.2.2.2.2.1 ho2 h) (xoL_1 ho2) rfl (x_gV xw_1894 xw_874 xw_875 xw_57 xw_876) rfl rfl qX7_depth ⟨(Nat.le_of_ble_eq_true rfl), (Nat.le_of_ble_eq_true rfl)⟩ rfl hl.1 rfl (Nat.le_of_ble_eq_true rfl) dX3_isSo_76) (fun r11 u10 H locs hw h => ?_)
    refine lv_iload_n hx hb dX3_isSo_79 rfl (lv_at hl 3 rfl) ?_
    refine lv_icmp_ge (tgt := 87) hx hb dX3_isSo_80 (by decide) (fun c12 => ?_) (fun c12 => ?_)
    · have h := h.1 c12
      refine lv_iconst (v := 0) hx hb dX3_isSo_87 (by decide) ?_
      exact x_zret false C hw h rfl dX3_isSo_88
    · have h := h.2 c12
      refine lv_iconst (v := 1) hx hb dX3_isSo_83 (by decide) ?_
      refine lv_goto (tgt := 88) hx hb dX3_isSo_84 (by decide) ?_
      exact x_zret true C hw h rfl dX3_isSo_88
  by_cases c13 : a1 = 8
  · refine lv_tableIn (off := 88) (tgt := 89) hx hb dX3_isSo_1 (by rw [c13]; decide) (by rw [c13]; decide) (by rw [c13]; rfl) (by decide) ?_
    have h := h.2.2.2.1 c13
    refine lv_aload_n hx hb dX3_isSo_89 rfl (lv_at hl 1 rfl) ?_
    refine x_getr (ci := 1) C hw 0 (xoL_0 ho2) rfl inlX1 (by decide) rfl rfl (xrL_0_0 ho2) xw_1864 dX3_isSo_90 ?_
    refine lv_iload_n hx hb dX3_isSo_93 rfl (lv_at hl 2 rfl) ?_
    refine x_calli hw (x_runV (ci := 7) C hw (m_X7_depth l C.2.2.2.2.2.2.2.2.1 ho2 h) (xoL_1 ho2) rfl (x_gV xw_1894 xw_874 xw_875 xw_57 xw_876) rfl rfl qX7_depth ⟨(Nat.le_of_ble_eq_true rfl), (Nat.le_of_ble_eq_true rfl)⟩ rfl hl.1 rfl (Nat.le_of_ble_eq_true rfl) dX3_isSo_94) (fun r15 u14 H locs hw h => ?_)
    refine lv_iload_n hx hb dX3_isSo_97 rfl (lv_at hl 3 rfl) ?_
    refine lv_icmp_le (tgt := 105) hx hb dX3_isSo_98 (by decide) (fun c16 => ?_) (fun c16 => ?_)
    · have h := h.1 c16
      refine lv_iconst (v := 0) hx hb dX3_isSo_105 (by decide) ?_
      exact x_zret false C hw h rfl dX3_isSo_106
    · have h := h.2 c16
      refine lv_iconst (v := 1) hx hb dX3_isSo_101 (by decide) ?_
      refine lv_goto (tgt := 106) hx hb dX3_isSo_102 (by decide) ?_
      exact x_zret true C hw h rfl dX3_isSo_106
  by_cases c17 : a1 = 9
  · refine lv_tableIn (off := 106) (tgt := 107) hx hb dX3_isSo_1 (by rw [c17]; decide) (by rw [c17]; decide) (by rw [c17]; rfl) (by decide) ?_
    have h := h.2.2.2.2.1 c17
    refine lv_aload_n hx hb dX3_isSo_107 rfl (lv_at hl 1 rfl) ?_
    refine x_getr (ci := 1) C hw 0 (xoL_0 ho2) rfl inlX1 (by decide) rfl rfl (xrL_0_0 ho2) xw_1864 dX3_isSo_108 ?_
    refine lv_iload_n hx hb dX3_isSo_111 rfl (lv_at hl 2 rfl) ?_
    refine x_calli hw (x_runV (ci := 7) C hw (m_X7_depth l C.2.2.2.2.2.2.2.2.1 ho2 h) (xoL_1 ho2) rfl (x_gV xw_1894 xw_874 xw_875 xw_57 xw_876) rfl rfl qX7_depth ⟨(Nat.le_of_ble_eq_true rfl), (Nat.le_of_ble_eq_true rfl)⟩ rfl hl.1 rfl (Nat.le_of_ble_eq_true rfl) dX3_isSo_112) (fun r19 u18 H locs hw h => ?_)
    refine lv_iload_n hx hb dX3_isSo_115 rfl (lv_at hl 3 rfl) ?_
    refine lv_icmp_ne (tgt := 123) hx hb dX3_isSo_116 (by decide) (fun c20 => ?_) (fun c20 => ?_)
    · have h := h.1 c20
      refine lv_iconst (v := 0) hx hb dX3_isSo_123 (by decide) ?_
      exact x_zret false C hw h rfl dX3_isSo_124
    · have h := h.2 c20
      refine lv_iconst (v := 1) hx hb dX3_isSo_119 (by decide) ?_
      refine lv_goto (tgt := 124) hx hb dX3_isSo_120 (by decide) ?_
      exact x_zret true C hw h rfl dX3_isSo_124
  have ec1 : a1.toInt ≠ 5 := fun z => c1 (Int32.toInt_inj.mp (z.trans (by decide)))
  have ec5 : a1.toInt ≠ 6 := fun z => c5 (Int32.toInt_inj.mp (z.trans (by decide)))
  have ec9 : a1.toInt ≠ 7 := fun z => c9 (Int32.toInt_inj.mp (z.trans (by decide)))
  have ec13 : a1.toInt ≠ 8 := fun z => c13 (Int32.toInt_inj.mp (z.trans (by decide)))
  have ec17 : a1.toInt ≠ 9 := fun z => c17 (Int32.toInt_inj.mp (z.trans (by decide)))
  refine lv_tableOut (tgt := 125) hx hb dX3_isSo_1 (by omega) (by decide) ?_
  have h := h.2.2.2.2.2 c1 c5 c9 c13 c17
  refine lv_iconst (v := 0) hx hb dX3_isSo_125 (by decide) ?_
  exact x_zret false C hw h rfl dX3_isSo_126
set_option maxHeartbeats 4000000 in
set_option maxRecDepth 100000 in
theorem m_X3_isSo (l : Launch) {g : xG} (hD : x_D g) {o2 : Nat} (ho2 : xpL g o2) {a1 : Int32} {a3 : Int32} {a4 : Int32} {u : xM} {Qf : Bool → xM → Prop} (h : p_X3_isSo a1 o2 a3 a4 u Qf) : Met l yX3_isSo (Cond.code yX3_isSo cX3_isSo 4 (some .boolean) :: wsL_law) (x_rm 1 21) (va_Pc [.int a1, .ref (xad g o2), .int a3, .int a4] (x_B g u)) (x_Qz g Qf) 0 0 (x_A g) := by
  refine Met.ofW (cc := cX3_isSo) (maxL := 4) (ret := (some .boolean)) (by decide) rfl ?_
  intro p e s m args below meth c s₁ B hml hv
  obtain ⟨rfl, hB⟩ := hv
  obtain ⟨C, hw⟩ := x_start B hml hD hB
  have hl := lv_entry [.int a1, .ref (xad g o2), .int a3, .int a4] (n := 4) (Nat.le_of_ble_eq_true rfl)
  rw [lg_entry_eq]
  exact s_X3_isSo C ho2 hw hl h
set_option maxHeartbeats 4000000 in
set_option maxRecDepth 100000 in
theorem s_X3_behindStep {o : Nat} {o1 : Nat} {o2 : Nat} {Qf : Int32 → xM → Prop} {a3 : Int32} (C : x_C p s m args meth c g RX3 cX3_behindStep 6 (some .int)) (ho : xpF g o) (ho1 : xpN g o1) (ho2 : xpL g o2) {u : xM} {H : Heap} {locs : List Loc} {ls : Array Slot} (hw : x_W g s.heap H locs u) (hl : lv_has ls 6 [(0, .ref (xad g o)), (1, .ref (xad g o1)), (2, .ref (xad g o2)), (3, .int a3)]) (h : p_X3_behindStep o o1 o2 a3 u Qf) : W p l e (x_rm 4 154) s m args below meth c H locs 0 0 (MQ below (x_Qi g Qf) args s 0 0 (x_A g)) (F0 m 0 ls []) := by
  unfold p_X3_behindStep at h
  have hx := C.1
  have hb := C.2.1
  refine lv_aload_n hx hb dX3_behindStep_0 rfl (lv_at hl 1 rfl) ?_
  refine x_getr (ci := 4) C hw 4 (xoN_0 ho1) rfl inlX4 (by decide) rfl rfl (xrN_0_4 ho1) xw_1857 dX3_behindStep_1 ?_
  refine lv_iload_n hx hb dX3_behindStep_4 rfl (lv_at hl 3 rfl) ?_
  have c1 := h.1
  have h := h.2
  refine x_iald C hw (xoN_2 ho1) c1 dX3_behindStep_5 ?_
  refine lv_topi (fun x2 ex2 => ?_)
  have h := h x2 ex2
  refine lv_istore (lv' := [(4, .int x2), (0, .ref (xad g o)), (1, .ref (xad g o1)), (2, .ref (xad g o2)), (3, .int a3)]) hx hb dX3_behindStep_6 hl (by decide) rfl (fun ls hl => ?_)
  refine lv_aload_n hx hb dX3_behindStep_8 rfl (lv_at hl 2 rfl) ?_
  refine x_getr (ci := 4) C hw 5 (xoN_0 ho1) rfl inlX4 (by decide) rfl rfl (xrN_0_5 ho1) xw_1858 dX3_behindStep_9 ?_
  refine lv_iload_n hx hb dX3_behindStep_12 rfl (lv_at hl 4 rfl) ?_
  have c3 := h.1
  have h := h.2
  refine x_iald C hw (xoN_3 ho1) c3 dX3_behindStep_13 ?_
  refine lv_topi (fun x4 ex4 => ?_)
  have h := h x4 ex4
  refine lv_istore (lv' := [(5, .int x4), (4, .int x2), (0, .ref (xad g o)), (1, .ref (xad g o1)), (2, .ref (xad g o2)), (3, .int a3)]) hx hb dX3_behindStep_14 hl (by decide) rfl (fun ls hl => ?_)
  refine lv_aload_n hx hb dX3_behindStep_16 rfl (lv_at hl 3 rfl) ?_
  refine x_getr (ci := 4) C hw 3 (xoN_0 ho1) rfl inlX4 (by decide) rfl rfl (xrN_0_3 ho1) xw_1847 dX3_behindStep_17 ?_
  refine lv_iload_n hx hb dX3_behindStep_20 rfl (lv_at hl 5 rfl) ?_
  have c5 := h.1
  have h := h.2
  refine x_iald C hw (xoN_1 ho1) c5 dX3_behindStep_21 ?_
  refine lv_topi (fun x6 ex6 => ?_)
  have h := h x6 ex6
  by_cases c7 : x6 = 0
  · refine lv_tableIn (off := 62) (tgt := 84) hx hb dX3_behindStep_22 (by rw [c7]; decide) (by rw [c7]; decide) (by rw [c7]; rfl) (by decide) ?_
    have h := h.1 c7
    refine lv_aload_n hx hb dX3_behindStep_84 rfl (lv_at hl 2 rfl) ?_
    refine lv_aload_n hx hb dX3_behindStep_85 rfl (lv_at hl 4 rfl) ?_
    refine lv_iload hx hb dX3_behindStep_86 (lv_at hl 0 rfl) ?_
    refine x_callv hw (x_runV (ci := 3) C hw (m_X3_goOn l C.2.2.2.2.2.2.2.2.1 ho ho2 h) (xoF_0 ho) rfl (x_gV xw_1859 xw_1860 xw_1861 xw_36 xw_1862) rfl rfl qX3_goOn ⟨(Nat.le_of_ble_eq_true rfl), (Nat.le_of_ble_eq_true rfl)⟩ rfl hl.1 rfl (Nat.le_of_ble_eq_true rfl) dX3_behindStep_88) (fun u8 H locs hw h => ?_)
    refine lv_goto (tgt := 181) hx hb dX3_behindStep_91 (by decide) ?_
    refine lv_iload_n hx hb dX3_behindStep_181 rfl (lv_at hl 5 rfl) ?_
    refine lv_iconst (v := 1) hx hb dX3_behindStep_182 (by decide) ?_
    refine lv_iadd hx hb dX3_behindStep_183 ?_
    exact x_iret C hw h dX3_behindStep_184
  by_cases c9 : x6 = 1
  · refine lv_tableIn (off := 72) (tgt := 94) hx hb dX3_behindStep_22 (by rw [c9]; decide) (by rw [c9]; decide) (by rw [c9]; rfl) (by decide) ?_
    have h := h.2.1 c9
    refine lv_aload_n hx hb dX3_behindStep_94 rfl (lv_at hl 2 rfl) ?_
    refine lv_aload_n hx hb dX3_behindStep_95 rfl (lv_at hl 4 rfl) ?_
    refine lv_iload hx hb dX3_behindStep_96 (lv_at hl 1 rfl) ?_
    refine lv_iconst (v := 1) hx hb dX3_behindStep_98 (by decide) ?_
    refine x_callv hw (x_runV (ci := 3) C hw (m_X3_turn l C.2.2.2.2.2.2.2.2.1 ho ho2 h) (xoF_0 ho) rfl (x_gV xw_1868 xw_1869 xw_1870 xw_36 xw_1871) rfl rfl qX3_turn ⟨(Nat.le_of_ble_eq_true rfl), (Nat.le_of_ble_eq_true rfl)⟩ rfl hl.1 rfl (Nat.le_of_ble_eq_true rfl) dX3_behindStep_99) (fun u10 H locs hw h => ?_)
    refine lv_goto (tgt := 181) hx hb dX3_behindStep_102 (by decide) ?_
    refine lv_iload_n hx hb dX3_behindStep_181 rfl (lv_at hl 5 rfl) ?_
    refine lv_iconst (v := 1) hx hb dX3_behindStep_182 (by decide) ?_
    refine lv_iadd hx hb dX3_behindStep_183 ?_
    exact x_iret C hw h dX3_behindStep_184
  by_cases c11 : x6 = 2
  · refine lv_tableIn (off := 83) (tgt := 105) hx hb dX3_behindStep_22 (by rw [c11]; decide) (by rw [c11]; decide) (by rw [c11]; rfl) (by decide) ?_
    have h := h.2.2.1 c11
    refine lv_aload_n hx hb dX3_behindStep_105 rfl (lv_at hl 2 rfl) ?_
    refine lv_aload_n hx hb dX3_behindStep_106 rfl (lv_at hl 4 rfl) ?_
    refine lv_iload hx hb dX3_behindStep_107 (lv_at hl 1 rfl) ?_
    refine lv_iconst (v := 0) hx hb dX3_behindStep_109 (by decide) ?_
    refine x_callv hw (x_runV (ci := 3) C hw (m_X3_turn l C.2.2.2.2.2.2.2.2.1 ho ho2 h) (xoF_0 ho) rfl (x_gV xw_1868 xw_1869 xw_1870 xw_36 xw_1871) rfl rfl qX3_turn ⟨(Nat.le_of_ble_eq_true rfl), (Nat.le_of_ble_eq_true rfl)⟩ rfl hl.1 rfl (Nat.le_of_ble_eq_true rfl) dX3_behindStep_110) (fun u12 H locs hw h => ?_)
    refine lv_goto (tgt := 181) hx hb dX3_behindStep_113 (by decide) ?_
    refine lv_iload_n hx hb dX3_behindStep_181 rfl (lv_at hl 5 rfl) ?_
    refine lv_iconst (v := 1) hx hb dX3_behindStep_182 (by decide) ?_
    refine lv_iadd hx hb dX3_behindStep_183 ?_
    exact x_iret C hw h dX3_behindStep_184
  by_cases c13 : x6 = 3
  · refine lv_tableIn (off := 94) (tgt := 116) hx hb dX3_behindStep_22 (by rw [c13]; decide) (by rw [c13]; decide) (by rw [c13]; rfl) (by decide) ?_
    have h := h.2.2.2.1 c13
    refine lv_aload_n hx hb dX3_behindStep_116 rfl (lv_at hl 2 rfl) ?_
    refine lv_aload_n hx hb dX3_behindStep_117 rfl (lv_at hl 4 rfl) ?_
    refine lv_iload hx hb dX3_behindStep_118 (lv_at hl 1 rfl) ?_
    refine lv_iload hx hb dX3_behindStep_120 (lv_at hl 0 rfl) ?_
    refine x_callv hw (x_runV (ci := 3) C hw (m_X3_bailOut l C.2.2.2.2.2.2.2.2.1 ho ho2 h) (xoF_0 ho) rfl (x_gV xw_1875 xw_1876 xw_1877 xw_36 xw_1878) rfl rfl qX3_bailOut ⟨(Nat.le_of_ble_eq_true rfl), (Nat.le_of_ble_eq_true rfl)⟩ rfl hl.1 rfl (Nat.le_of_ble_eq_true rfl) dX3_behindStep_122) (fun u14 H locs hw h => ?_)
    refine lv_goto (tgt := 181) hx hb dX3_behindStep_125 (by decide) ?_
    refine lv_iload_n hx hb dX3_behindStep_181 rfl (lv_at hl 5 rfl) ?_
    refine lv_iconst (v := 1) hx hb dX3_behindStep_182 (by decide) ?_
    refine lv_iadd hx hb dX3_behindStep_183 ?_
    exact x_iret C hw h dX3_behindStep_184
  by_cases c15 : x6 = 4
  · refine lv_tableIn (off := 106) (tgt := 128) hx hb dX3_behindStep_22 (by rw [c15]; decide) (by rw [c15]; decide) (by rw [c15]; rfl) (by decide) ?_
    have h := h.2.2.2.2.1 c15
    refine lv_aload_n hx hb dX3_behindStep_128 rfl (lv_at hl 2 rfl) ?_
    refine lv_aload_n hx hb dX3_behindStep_129 rfl (lv_at hl 4 rfl) ?_
    refine x_callv hw (x_runV (ci := 3) C hw (m_X3_turnAny l C.2.2.2.2.2.2.2.2.1 ho ho2 h) (xoF_0 ho) rfl (x_gV xw_1881 xw_1882 xw_1883 xw_36 xw_1884) rfl rfl qX3_turnAny ⟨(Nat.le_of_ble_eq_true rfl), (Nat.le_of_ble_eq_true rfl)⟩ rfl hl.1 rfl (Nat.le_of_ble_eq_true rfl) dX3_behindStep_130) (fun u16 H locs hw h => ?_)
    refine lv_goto (tgt := 181) hx hb dX3_behindStep_133 (by decide) ?_
    refine lv_iload_n hx hb dX3_behindStep_181 rfl (lv_at hl 5 rfl) ?_
    refine lv_iconst (v := 1) hx hb dX3_behindStep_182 (by decide) ?_
    refine lv_iadd hx hb dX3_behindStep_183 ?_
    exact x_iret C hw h dX3_behindStep_184
  by_cases c17 : x6 = 5
  · refine lv_tableIn (off := 127) (tgt := 149) hx hb dX3_behindStep_22 (by rw [c17]; decide) (by rw [c17]; decide) (by rw [c17]; rfl) (by decide) ?_
    have h := h.2.2.2.2.2.1 c17
    refine lv_aload_n hx hb dX3_behindStep_149 rfl (lv_at hl 3 rfl) ?_
    refine x_getr (ci := 4) C hw 3 (xoN_0 ho1) rfl inlX4 (by decide) rfl rfl (xrN_0_3 ho1) xw_1847 dX3_behindStep_150 ?_
    refine lv_iload_n hx hb dX3_behindStep_153 rfl (lv_at hl 5 rfl) ?_
    have c18 := h.1
    have h := h.2
    refine x_iald C hw (xoN_1 ho1) c18 dX3_behindStep_154 ?_
    refine lv_aload_n hx hb dX3_behindStep_155 rfl (lv_at hl 4 rfl) ?_
    refine lv_iload hx hb dX3_behindStep_156 (lv_at hl 1 rfl) ?_
    refine lv_iload hx hb dX3_behindStep_158 (lv_at hl 0 rfl) ?_
    refine x_callz hw (x_runS C hw (m_X3_isSo l C.2.2.2.2.2.2.2.2.1 ho2 h) (x_gS xw_1891 xw_1892 xw_36 xw_1893) rfl rfl qX3_isSo ⟨(Nat.le_of_ble_eq_true rfl), (Nat.le_of_ble_eq_true rfl)⟩ rfl hl.1 rfl (Nat.le_of_ble_eq_true rfl) dX3_behindStep_160) (fun r20 u19 H locs hw h => ?_)
    refine lv_if_eq (tgt := 172) hx hb dX3_behindStep_163 (by decide) (fun c21 => ?_) (fun c21 => ?_)
    · have h := h.1 (xb_f c21)
      refine lv_aload_n hx hb dX3_behindStep_172 rfl (lv_at hl 3 rfl) ?_
      refine x_getr (ci := 4) C hw 6 (xoN_0 ho1) rfl inlX4 (by decide) rfl rfl (xrN_0_6 ho1) xw_1852 dX3_behindStep_173 ?_
      refine lv_iload_n hx hb dX3_behindStep_176 rfl (lv_at hl 5 rfl) ?_
      have c22 := h.1
      have h := h.2
      refine x_iald C hw (xoN_4 ho1) c22 dX3_behindStep_177 ?_
      refine lv_iconst (v := 1) hx hb dX3_behindStep_178 (by decide) ?_
      refine lv_iadd hx hb dX3_behindStep_179 ?_
      exact x_iret C hw h dX3_behindStep_180
    · have h := h.2 (xb_t c21)
      refine lv_iload_n hx hb dX3_behindStep_166 rfl (lv_at hl 5 rfl) ?_
      refine lv_iconst (v := 1) hx hb dX3_behindStep_167 (by decide) ?_
      refine lv_iadd hx hb dX3_behindStep_168 ?_
      refine lv_goto (tgt := 180) hx hb dX3_behindStep_169 (by decide) ?_
      exact x_iret C hw h dX3_behindStep_180
  by_cases c23 : x6 = 6
  · refine lv_tableIn (off := 127) (tgt := 149) hx hb dX3_behindStep_22 (by rw [c23]; decide) (by rw [c23]; decide) (by rw [c23]; rfl) (by decide) ?_
    have h := h.2.2.2.2.2.2.1 c23
    refine lv_aload_n hx hb dX3_behindStep_149 rfl (lv_at hl 3 rfl) ?_
    refine x_getr (ci := 4) C hw 3 (xoN_0 ho1) rfl inlX4 (by decide) rfl rfl (xrN_0_3 ho1) xw_1847 dX3_behindStep_150 ?_
    refine lv_iload_n hx hb dX3_behindStep_153 rfl (lv_at hl 5 rfl) ?_
    have c24 := h.1
    have h := h.2
    refine x_iald C hw (xoN_1 ho1) c24 dX3_behindStep_154 ?_
    refine lv_aload_n hx hb dX3_behindStep_155 rfl (lv_at hl 4 rfl) ?_
    refine lv_iload hx hb dX3_behindStep_156 (lv_at hl 1 rfl) ?_
    refine lv_iload hx hb dX3_behindStep_158 (lv_at hl 0 rfl) ?_
    refine x_callz hw (x_runS C hw (m_X3_isSo l C.2.2.2.2.2.2.2.2.1 ho2 h) (x_gS xw_1891 xw_1892 xw_36 xw_1893) rfl rfl qX3_isSo ⟨(Nat.le_of_ble_eq_true rfl), (Nat.le_of_ble_eq_true rfl)⟩ rfl hl.1 rfl (Nat.le_of_ble_eq_true rfl) dX3_behindStep_160) (fun r26 u25 H locs hw h => ?_)
    refine lv_if_eq (tgt := 172) hx hb dX3_behindStep_163 (by decide) (fun c27 => ?_) (fun c27 => ?_)
    · have h := h.1 (xb_f c27)
      refine lv_aload_n hx hb dX3_behindStep_172 rfl (lv_at hl 3 rfl) ?_
      refine x_getr (ci := 4) C hw 6 (xoN_0 ho1) rfl inlX4 (by decide) rfl rfl (xrN_0_6 ho1) xw_1852 dX3_behindStep_173 ?_
      refine lv_iload_n hx hb dX3_behindStep_176 rfl (lv_at hl 5 rfl) ?_
      have c28 := h.1
      have h := h.2
      refine x_iald C hw (xoN_4 ho1) c28 dX3_behindStep_177 ?_
      refine lv_iconst (v := 1) hx hb dX3_behindStep_178 (by decide) ?_
      refine lv_iadd hx hb dX3_behindStep_179 ?_
      exact x_iret C hw h dX3_behindStep_180
    · have h := h.2 (xb_t c27)
      refine lv_iload_n hx hb dX3_behindStep_166 rfl (lv_at hl 5 rfl) ?_
      refine lv_iconst (v := 1) hx hb dX3_behindStep_167 (by decide) ?_
      refine lv_iadd hx hb dX3_behindStep_168 ?_
      refine lv_goto (tgt := 180) hx hb dX3_behindStep_169 (by decide) ?_
      exact x_iret C hw h dX3_behindStep_180
  by_cases c29 : x6 = 7
  · refine lv_tableIn (off := 127) (tgt := 149) hx hb dX3_behindStep_22 (by rw [c29]; decide) (by rw [c29]; decide) (by rw [c29]; rfl) (by decide) ?_
    have h := h.2.2.2.2.2.2.2.1 c29
    refine lv_aload_n hx hb dX3_behindStep_149 rfl (lv_at hl 3 rfl) ?_
    refine x_getr (ci := 4) C hw 3 (xoN_0 ho1) rfl inlX4 (by decide) rfl rfl (xrN_0_3 ho1) xw_1847 dX3_behindStep_150 ?_
    refine lv_iload_n hx hb dX3_behindStep_153 rfl (lv_at hl 5 rfl) ?_
    have c30 := h.1
    have h := h.2
    refine x_iald C hw (xoN_1 ho1) c30 dX3_behindStep_154 ?_
    refine lv_aload_n hx hb dX3_behindStep_155 rfl (lv_at hl 4 rfl) ?_
    refine lv_iload hx hb dX3_behindStep_156 (lv_at hl 1 rfl) ?_
    refine lv_iload hx hb dX3_behindStep_158 (lv_at hl 0 rfl) ?_
    refine x_callz hw (x_runS C hw (m_X3_isSo l C.2.2.2.2.2.2.2.2.1 ho2 h) (x_gS xw_1891 xw_1892 xw_36 xw_1893) rfl rfl qX3_isSo ⟨(Nat.le_of_ble_eq_true rfl), (Nat.le_of_ble_eq_true rfl)⟩ rfl hl.1 rfl (Nat.le_of_ble_eq_true rfl) dX3_behindStep_160) (fun r32 u31 H locs hw h => ?_)
    refine lv_if_eq (tgt := 172) hx hb dX3_behindStep_163 (by decide) (fun c33 => ?_) (fun c33 => ?_)
    · have h := h.1 (xb_f c33)
      refine lv_aload_n hx hb dX3_behindStep_172 rfl (lv_at hl 3 rfl) ?_
      refine x_getr (ci := 4) C hw 6 (xoN_0 ho1) rfl inlX4 (by decide) rfl rfl (xrN_0_6 ho1) xw_1852 dX3_behindStep_173 ?_
      refine lv_iload_n hx hb dX3_behindStep_176 rfl (lv_at hl 5 rfl) ?_
      have c34 := h.1
      have h := h.2
      refine x_iald C hw (xoN_4 ho1) c34 dX3_behindStep_177 ?_
      refine lv_iconst (v := 1) hx hb dX3_behindStep_178 (by decide) ?_
      refine lv_iadd hx hb dX3_behindStep_179 ?_
      exact x_iret C hw h dX3_behindStep_180
    · have h := h.2 (xb_t c33)
      refine lv_iload_n hx hb dX3_behindStep_166 rfl (lv_at hl 5 rfl) ?_
      refine lv_iconst (v := 1) hx hb dX3_behindStep_167 (by decide) ?_
      refine lv_iadd hx hb dX3_behindStep_168 ?_
      refine lv_goto (tgt := 180) hx hb dX3_behindStep_169 (by decide) ?_
      exact x_iret C hw h dX3_behindStep_180
  by_cases c35 : x6 = 8
  · refine lv_tableIn (off := 127) (tgt := 149) hx hb dX3_behindStep_22 (by rw [c35]; decide) (by rw [c35]; decide) (by rw [c35]; rfl) (by decide) ?_
    have h := h.2.2.2.2.2.2.2.2.1 c35
    refine lv_aload_n hx hb dX3_behindStep_149 rfl (lv_at hl 3 rfl) ?_
    refine x_getr (ci := 4) C hw 3 (xoN_0 ho1) rfl inlX4 (by decide) rfl rfl (xrN_0_3 ho1) xw_1847 dX3_behindStep_150 ?_
    refine lv_iload_n hx hb dX3_behindStep_153 rfl (lv_at hl 5 rfl) ?_
    have c36 := h.1
    have h := h.2
    refine x_iald C hw (xoN_1 ho1) c36 dX3_behindStep_154 ?_
    refine lv_aload_n hx hb dX3_behindStep_155 rfl (lv_at hl 4 rfl) ?_
    refine lv_iload hx hb dX3_behindStep_156 (lv_at hl 1 rfl) ?_
    refine lv_iload hx hb dX3_behindStep_158 (lv_at hl 0 rfl) ?_
    refine x_callz hw (x_runS C hw (m_X3_isSo l C.2.2.2.2.2.2.2.2.1 ho2 h) (x_gS xw_1891 xw_1892 xw_36 xw_1893) rfl rfl qX3_isSo ⟨(Nat.le_of_ble_eq_true rfl), (Nat.le_of_ble_eq_true rfl)⟩ rfl hl.1 rfl (Nat.le_of_ble_eq_true rfl) dX3_behindStep_160) (fun r38 u37 H locs hw h => ?_)
    refine lv_if_eq (tgt := 172) hx hb dX3_behindStep_163 (by decide) (fun c39 => ?_) (fun c39 => ?_)
    · have h := h.1 (xb_f c39)
      refine lv_aload_n hx hb dX3_behindStep_172 rfl (lv_at hl 3 rfl) ?_
      refine x_getr (ci := 4) C hw 6 (xoN_0 ho1) rfl inlX4 (by decide) rfl rfl (xrN_0_6 ho1) xw_1852 dX3_behindStep_173 ?_
      refine lv_iload_n hx hb dX3_behindStep_176 rfl (lv_at hl 5 rfl) ?_
      have c40 := h.1
      have h := h.2
      refine x_iald C hw (xoN_4 ho1) c40 dX3_behindStep_177 ?_
      refine lv_iconst (v := 1) hx hb dX3_behindStep_178 (by decide) ?_
      refine lv_iadd hx hb dX3_behindStep_179 ?_
      exact x_iret C hw h dX3_behindStep_180
    · have h := h.2 (xb_t c39)
      refine lv_iload_n hx hb dX3_behindStep_166 rfl (lv_at hl 5 rfl) ?_
      refine lv_iconst (v := 1) hx hb dX3_behindStep_167 (by decide) ?_
      refine lv_iadd hx hb dX3_behindStep_168 ?_
      refine lv_goto (tgt := 180) hx hb dX3_behindStep_169 (by decide) ?_
      exact x_iret C hw h dX3_behindStep_180
  by_cases c41 : x6 = 9
  · refine lv_tableIn (off := 127) (tgt := 149) hx hb dX3_behindStep_22 (by rw [c41]; decide) (by rw [c41]; decide) (by rw [c41]; rfl) (by decide) ?_
    have h := h.2.2.2.2.2.2.2.2.2.1 c41
    refine lv_aload_n hx hb dX3_behindStep_149 rfl (lv_at hl 3 rfl) ?_
    refine x_getr (ci := 4) C hw 3 (xoN_0 ho1) rfl inlX4 (by decide) rfl rfl (xrN_0_3 ho1) xw_1847 dX3_behindStep_150 ?_
    refine lv_iload_n hx hb dX3_behindStep_153 rfl (lv_at hl 5 rfl) ?_
    have c42 := h.1
    have h := h.2
    refine x_iald C hw (xoN_1 ho1) c42 dX3_behindStep_154 ?_
    refine lv_aload_n hx hb dX3_behindStep_155 rfl (lv_at hl 4 rfl) ?_
    refine lv_iload hx hb dX3_behindStep_156 (lv_at hl 1 rfl) ?_
    refine lv_iload hx hb dX3_behindStep_158 (lv_at hl 0 rfl) ?_
    refine x_callz hw (x_runS C hw (m_X3_isSo l C.2.2.2.2.2.2.2.2.1 ho2 h) (x_gS xw_1891 xw_1892 xw_36 xw_1893) rfl rfl qX3_isSo ⟨(Nat.le_of_ble_eq_true rfl), (Nat.le_of_ble_eq_true rfl)⟩ rfl hl.1 rfl (Nat.le_of_ble_eq_true rfl) dX3_behindStep_160) (fun r44 u43 H locs hw h => ?_)
    refine lv_if_eq (tgt := 172) hx hb dX3_behindStep_163 (by decide) (fun c45 => ?_) (fun c45 => ?_)
    · have h := h.1 (xb_f c45)
      refine lv_aload_n hx hb dX3_behindStep_172 rfl (lv_at hl 3 rfl) ?_
      refine x_getr (ci := 4) C hw 6 (xoN_0 ho1) rfl inlX4 (by decide) rfl rfl (xrN_0_6 ho1) xw_1852 dX3_behindStep_173 ?_
      refine lv_iload_n hx hb dX3_behindStep_176 rfl (lv_at hl 5 rfl) ?_
      have c46 := h.1
      have h := h.2
      refine x_iald C hw (xoN_4 ho1) c46 dX3_behindStep_177 ?_
      refine lv_iconst (v := 1) hx hb dX3_behindStep_178 (by decide) ?_
      refine lv_iadd hx hb dX3_behindStep_179 ?_
      exact x_iret C hw h dX3_behindStep_180
    · have h := h.2 (xb_t c45)
      refine lv_iload_n hx hb dX3_behindStep_166 rfl (lv_at hl 5 rfl) ?_
      refine lv_iconst (v := 1) hx hb dX3_behindStep_167 (by decide) ?_
      refine lv_iadd hx hb dX3_behindStep_168 ?_
      refine lv_goto (tgt := 180) hx hb dX3_behindStep_169 (by decide) ?_
      exact x_iret C hw h dX3_behindStep_180
  by_cases c47 : x6 = 10
  · refine lv_tableIn (off := 114) (tgt := 136) hx hb dX3_behindStep_22 (by rw [c47]; decide) (by rw [c47]; decide) (by rw [c47]; rfl) (by decide) ?_
    have h := h.2.2.2.2.2.2.2.2.2.2.1 c47
    refine lv_aload_n hx hb dX3_behindStep_136 rfl (lv_at hl 2 rfl) ?_
    refine x_getr (ci := 3) C hw 8 (xoF_0 ho) rfl inlX3 (by decide) rfl rfl (xrF_0_8 ho) xw_209 dX3_behindStep_137 ?_
    refine lv_iload_n hx hb dX3_behindStep_140 rfl (lv_at hl 5 rfl) ?_
    refine lv_iload hx hb dX3_behindStep_141 (lv_at hl 0 rfl) ?_
    have c48 := h.1
    have h := h.2
    obtain ⟨u49, eu49⟩ : ∃ q : xM, q = si u (o + 1) a3.toNatClampNeg x4 := ⟨_, rfl⟩
    have h := h u49 eu49
    refine x_iast C hw (xoF_1 ho) c48 dX3_behindStep_143 eu49 (fun H locs hw => ?_)
    refine lv_goto (tgt := 181) hx hb dX3_behindStep_144 (by decide) ?_
    refine lv_iload_n hx hb dX3_behindStep_181 rfl (lv_at hl 5 rfl) ?_
    refine lv_iconst (v := 1) hx hb dX3_behindStep_182 (by decide) ?_
    refine lv_iadd hx hb dX3_behindStep_183 ?_
    exact x_iret C hw h dX3_behindStep_184
  by_cases c50 : x6 = 11
  · refine lv_tableIn (off := 125) (tgt := 147) hx hb dX3_behindStep_22 (by rw [c50]; decide) (by rw [c50]; decide) (by rw [c50]; rfl) (by decide) ?_
    have h := h.2.2.2.2.2.2.2.2.2.2.2.1 c50
    refine lv_iconst (v := -1) hx hb dX3_behindStep_147 (by decide) ?_
    exact x_iret C hw h dX3_behindStep_148
  have ec7 : x6.toInt ≠ 0 := fun z => c7 (Int32.toInt_inj.mp (z.trans (by decide)))
  have ec9 : x6.toInt ≠ 1 := fun z => c9 (Int32.toInt_inj.mp (z.trans (by decide)))
  have ec11 : x6.toInt ≠ 2 := fun z => c11 (Int32.toInt_inj.mp (z.trans (by decide)))
  have ec13 : x6.toInt ≠ 3 := fun z => c13 (Int32.toInt_inj.mp (z.trans (by decide)))
  have ec15 : x6.toInt ≠ 4 := fun z => c15 (Int32.toInt_inj.mp (z.trans (by decide)))
  have ec17 : x6.toInt ≠ 5 := fun z => c17 (Int32.toInt_inj.mp (z.trans (by decide)))
  have ec23 : x6.toInt ≠ 6 := fun z => c23 (Int32.toInt_inj.mp (z.trans (by decide)))
  have ec29 : x6.toInt ≠ 7 := fun z => c29 (Int32.toInt_inj.mp (z.trans (by decide)))
  have ec35 : x6.toInt ≠ 8 := fun z => c35 (Int32.toInt_inj.mp (z.trans (by decide)))
  have ec41 : x6.toInt ≠ 9 := fun z => c41 (Int32.toInt_inj.mp (z.trans (by decide)))
  have ec47 : x6.toInt ≠ 10 := fun z => c47 (Int32.toInt_inj.mp (z.trans (by decide)))
  have ec50 : x6.toInt ≠ 11 := fun z => c50 (Int32.toInt_inj.mp (z.trans (by decide)))
  refine lv_tableOut (tgt := 149) hx hb dX3_behindStep_22 (by omega) (by decide) ?_
  have h := h.2.2.2.2.2.2.2.2.2.2.2.2 c7 c9 c11 c13 c15 c17 c23 c29 c35 c41 c47 c50
  refine lv_aload_n hx hb dX3_behindStep_149 rfl (lv_at hl 3 rfl) ?_
  refine x_getr (ci := 4) C hw 3 (xoN_0 ho1) rfl inlX4 (by decide) rfl rfl (xrN_0_3 ho1) xw_1847 dX3_behindStep_150 ?_
  refine lv_iload_n hx hb dX3_behindStep_153 rfl (lv_at hl 5 rfl) ?_
  have c51 := h.1
  have h := h.2
  refine x_iald C hw (xoN_1 ho1) c51 dX3_behindStep_154 ?_
  refine lv_aload_n hx hb dX3_behindStep_155 rfl (lv_at hl 4 rfl) ?_
  refine lv_iload hx hb dX3_behindStep_156 (lv_at hl 1 rfl) ?_
  refine lv_iload hx hb dX3_behindStep_158 (lv_at hl 0 rfl) ?_
  refine x_callz hw (x_runS C hw (m_X3_isSo l C.2.2.2.2.2.2.2.2.1 ho2 h) (x_gS xw_1891 xw_1892 xw_36 xw_1893) rfl rfl qX3_isSo ⟨(Nat.le_of_ble_eq_true rfl), (Nat.le_of_ble_eq_true rfl)⟩ rfl hl.1 rfl (Nat.le_of_ble_eq_true rfl) dX3_behindStep_160) (fun r53 u52 H locs hw h => ?_)
  refine lv_if_eq (tgt := 172) hx hb dX3_behindStep_163 (by decide) (fun c54 => ?_) (fun c54 => ?_)
  · have h := h.1 (xb_f c54)
    refine lv_aload_n hx hb dX3_behindStep_172 rfl (lv_at hl 3 rfl) ?_
    refine x_getr (ci := 4) C hw 6 (xoN_0 ho1) rfl inlX4 (by decide) rfl rfl (xrN_0_6 ho1) xw_1852 dX3_behindStep_173 ?_
    refine lv_iload_n hx hb dX3_behindStep_176 rfl (lv_at hl 5 rfl) ?_
    have c55 := h.1
    have h := h.2
    refine x_iald C hw (xoN_4 ho1) c55 dX3_behindStep_177 ?_
    refine lv_iconst (v := 1) hx hb dX3_behindStep_178 (by decide) ?_
    refine lv_iadd hx hb dX3_behindStep_179 ?_
    exact x_iret C hw h dX3_behindStep_180
  · have h := h.2 (xb_t c54)
    refine lv_iload_n hx hb dX3_behindStep_166 rfl (lv_at hl 5 rfl) ?_
    refine lv_iconst (v := 1) hx hb dX3_behindStep_167 (by decide) ?_
    refine lv_iadd hx hb dX3_behindStep_168 ?_
    refine lv_goto (tgt := 180) hx hb dX3_behindStep_169 (by decide) ?_
    exact x_iret C hw h dX3_behindStep_180
set_option maxHeartbeats 4000000 in
set_option maxRecDepth 100000 in
theorem m_X3_behindStep (l : Launch) {g : xG} (hD : x_D g) {o : Nat} {o1 : Nat} {o2 : Nat} (ho : xpF g o) (ho1 : xpN g o1) (ho2 : xpL g o2) {a3 : Int32} {u : xM} {Qf : Int32 → xM → Prop} (h : p_X3_behindStep o o1 o2 a3 u Qf) : Met l yX3_behindStep (Cond.code yX3_behindStep cX3_behindStep 6 (some .int) :: wsL_law) (x_rm 4 154) (va_Pc [.ref (xad g o), .ref (xad g o1), .ref (xad g o2), .int a3] (x_B g u)) (x_Qi g Qf) 0 0 (x_A g) := by
  refine Met.ofW (cc := cX3_behindStep) (maxL := 6) (ret := (some .int)) (by decide) rfl ?_
  intro p e s m args below meth c s₁ B hml hv
  obtain ⟨rfl, hB⟩ := hv
  obtain ⟨C, hw⟩ := x_start B hml hD hB
  have hl := lv_entry [.ref (xad g o), .ref (xad g o1), .ref (xad g o2), .int a3] (n := 6) (Nat.le_of_ble_eq_true rfl)
  rw [lg_entry_eq]
  exact s_X3_behindStep C ho ho1 ho2 hw hl h
set_option maxHeartbeats 4000000 in
set_option maxRecDepth 100000 in
theorem s_X3_pass_L46 {o : Nat} {o1 : Nat} {o2 : Nat} {Qf : xM → Prop} (C : x_C p s m args meth c g RX3 cX3_pass 6 none) (ho : xpF g o) (ho1 : xpN g o1) (ho2 : xpL g o2) : ∀ (nn : Nat) {v4 : Int32} {v5 : Int32} {u : xM} {H : Heap} {locs : List Loc} {ls : Array Slot} (hw : x_W g s.heap H locs u) (hl : lv_has ls 6 [(0, .ref (xad g o)), (1, .ref (xad g o1)), (2, .ref (xad g o2)), (4, .int v4), (5, .int v5)]) (h : p_X3_pass_L46 o o1 o2 Qf nn v4 v5 u), W p l e (x_rm 5 179) s m args below meth c H locs 0 0 (MQ below (x_Qv g Qf) args s 0 0 (x_A g)) (F0 m 46 ls []) := by
  intro nn
  induction nn with
  | zero => intro v4 v5 u H locs ls hw hl h; exact h.elim
  | succ nn ih =>
    intro v4 v5 u H locs ls hw hl h
    unfold p_X3_pass_L46 at h
    have hx := C.1
    have hb := C.2.1
    refine lv_iload hx hb dX3_pass_46 (lv_at hl 4 rfl) ?_
    refine lv_ldc (v := 1000000) hx hb C.2.2.2.1 (C.2.2.2.2.1 _ xw_1845) dX3_pass_48 ?_
    refine lv_icmp_ge (tgt := 138) hx hb dX3_pass_50 (by decide) (fun c1 => ?_) (fun c1 => ?_)
    · have h := h.1 c1
      exact x_vret C hw h dX3_pass_138
    · have h := h.2 c1
      refine lv_iload hx hb dX3_pass_53 (lv_at hl 3 rfl) ?_
      refine lv_if_lt (tgt := 138) hx hb dX3_pass_55 (by decide) (fun c2 => ?_) (fun c2 => ?_)
      · have h := h.1 c2
        exact x_vret C hw h dX3_pass_138
      · have h := h.2 c2
        refine lv_iload hx hb dX3_pass_58 (lv_at hl 3 rfl) ?_
        refine lv_aload_n hx hb dX3_pass_60 rfl (lv_at hl 1 rfl) ?_
        refine x_geti (ci := 4) C hw 2 (xoN_0 ho1) rfl inlX4 (by decide) rfl rfl xw_1846 dX3_pass_61 ?_
        refine lv_icmp_ge (tgt := 138) hx hb dX3_pass_64 (by decide) (fun c3 => ?_) (fun c3 => ?_)
        · have h := h.1 c3
          exact x_vret C hw h dX3_pass_138
        · have h := h.2 c3
          refine lv_aload_n hx hb dX3_pass_67 rfl (lv_at hl 1 rfl) ?_
          refine x_getr (ci := 4) C hw 3 (xoN_0 ho1) rfl inlX4 (by decide) rfl rfl (xrN_0_3 ho1) xw_1847 dX3_pass_68 ?_
          refine lv_iload hx hb dX3_pass_71 (lv_at hl 3 rfl) ?_
          have c4 := h.1
          have h := h.2
          refine x_iald C hw (xoN_1 ho1) c4 dX3_pass_73 ?_
          refine lv_bipush (v := 12) hx hb dX3_pass_74 (by decide) ?_
          refine lv_icmp_ne (tgt := 91) hx hb dX3_pass_76 (by decide) (fun c5 => ?_) (fun c5 => ?_)
          · have h := h.1 c5
            refine lv_aload_n hx hb dX3_pass_91 rfl (lv_at hl 0 rfl) ?_
            refine x_geti (ci := 3) C hw 1 (xoF_0 ho) rfl inlX3 (by decide) rfl rfl xw_1838 dX3_pass_92 ?_
            refine lv_sipush (v := 300) hx hb dX3_pass_95 (by decide) ?_
            refine lv_icmp_lt (tgt := 112) hx hb dX3_pass_98 (by decide) (fun c6 => ?_) (fun c6 => ?_)
            · have h := h.1 c6
              refine lv_aload_n hx hb dX3_pass_112 rfl (lv_at hl 0 rfl) ?_
              refine lv_dup hx hb dX3_pass_113 rfl ?_
              refine x_geti (ci := 3) C hw 1 (xoF_0 ho) rfl inlX3 (by decide) rfl rfl xw_1838 dX3_pass_114 ?_
              refine lv_iconst (v := 1) hx hb dX3_pass_117 (by decide) ?_
              refine lv_iadd hx hb dX3_pass_118 ?_
              obtain ⟨u7, eu7⟩ : ∃ q : xM, q = si u o 1 ((gi u o 1) + (1 : Int32)) := ⟨_, rfl⟩
              have h := h u7 eu7
              refine x_puti (ci := 3) (ty := .int) C hw 1 (xoF_0 ho) rfl inlX3 tyX3_ok nmX3 (by decide) rfl rfl xw_1838 rfl (by decide +kernel) rfl rfl dX3_pass_119 eu7 (fun H locs hw => ?_)
              refine lv_aload_n hx hb dX3_pass_122 rfl (lv_at hl 0 rfl) ?_
              refine lv_aload_n hx hb dX3_pass_123 rfl (lv_at hl 1 rfl) ?_
              refine lv_aload_n hx hb dX3_pass_124 rfl (lv_at hl 2 rfl) ?_
              refine lv_iload hx hb dX3_pass_125 (lv_at hl 3 rfl) ?_
              refine x_calli hw (x_runV (ci := 3) C hw (m_X3_behindStep l C.2.2.2.2.2.2.2.2.1 ho ho1 ho2 h) (xoF_0 ho) rfl (x_gV xw_1853 xw_1854 xw_1855 xw_36 xw_1856) rfl rfl qX3_behindStep ⟨(Nat.le_of_ble_eq_true rfl), (Nat.le_of_ble_eq_true rfl)⟩ rfl hl.1 rfl (Nat.le_of_ble_eq_true rfl) dX3_pass_127) (fun r9 u8 H locs hw h => ?_)
              refine lv_istore (lv' := [(4, .int r9), (0, .ref (xad g o)), (1, .ref (xad g o1)), (2, .ref (xad g o2)), (5, .int v5)]) hx hb dX3_pass_130 hl (by decide) rfl (fun ls hl => ?_)
              obtain ⟨x10, ex10⟩ : ∃ y : Int32, y = v5 + 1 := ⟨_, rfl⟩
              have h := h x10 ex10
              refine lv_iinc (v := x10) (lv' := [(5, .int x10), (4, .int r9), (0, .ref (xad g o)), (1, .ref (xad g o1)), (2, .ref (xad g o2))]) hx hb dX3_pass_132 hl (k := 4) rfl (by rw [ex10]; rfl) (by decide) rfl (fun ls hl => ?_)
              refine lv_goto (tgt := 46) hx hb dX3_pass_135 (by decide) ?_
              exact ih hw (lv_sub hl [2, 3, 4, 1, 0] rfl) h
            · have h := h.2 c6
              refine lv_aload_n hx hb dX3_pass_101 rfl (lv_at hl 0 rfl) ?_
              refine lv_iconst (v := 1) hx hb dX3_pass_102 (by decide) ?_
              obtain ⟨u11, eu11⟩ : ∃ q : xM, q = si u o 6 (1 : Int32) := ⟨_, rfl⟩
              have h := h u11 eu11
              refine x_puti (ci := 3) (ty := .int) C hw 6 (xoF_0 ho) rfl inlX3 tyX3_ok nmX3 (by decide) rfl rfl xw_1843 rfl (by decide +kernel) rfl rfl dX3_pass_103 eu11 (fun H locs hw => ?_)
              refine lv_iconst (v := -1) hx hb dX3_pass_106 (by decide) ?_
              refine lv_istore (lv' := [(4, .int (-1)), (0, .ref (xad g o)), (1, .ref (xad g o1)), (2, .ref (xad g o2)), (5, .int v5)]) hx hb dX3_pass_107 hl (by decide) rfl (fun ls hl => ?_)
              refine lv_goto (tgt := 132) hx hb dX3_pass_109 (by decide) ?_
              obtain ⟨x12, ex12⟩ : ∃ y : Int32, y = v5 + 1 := ⟨_, rfl⟩
              have h := h x12 ex12
              refine lv_iinc (v := x12) (lv' := [(5, .int x12), (4, .int (-1)), (0, .ref (xad g o)), (1, .ref (xad g o1)), (2, .ref (xad g o2))]) hx hb dX3_pass_132 hl (k := 4) rfl (by rw [ex12]; rfl) (by decide) rfl (fun ls hl => ?_)
              refine lv_goto (tgt := 46) hx hb dX3_pass_135 (by decide) ?_
              exact ih hw (lv_sub hl [2, 3, 4, 1, 0] rfl) h
          · have h := h.2 c5
            refine lv_aload_n hx hb dX3_pass_79 rfl (lv_at hl 0 rfl) ?_
            refine lv_aload_n hx hb dX3_pass_80 rfl (lv_at hl 1 rfl) ?_
            refine lv_iload hx hb dX3_pass_81 (lv_at hl 3 rfl) ?_
            refine x_calli hw (x_runV (ci := 3) C hw (m_X3_behindEnd l C.2.2.2.2.2.2.2.2.1 ho ho1 h) (xoF_0 ho) rfl (x_gV xw_1848 xw_1849 xw_1850 xw_36 xw_1851) rfl rfl qX3_behindEnd ⟨(Nat.le_of_ble_eq_true rfl), (Nat.le_of_ble_eq_true rfl)⟩ rfl hl.1 rfl (Nat.le_of_ble_eq_true rfl) dX3_pass_83) (fun r14 u13 H locs hw h => ?_)
            refine lv_istore (lv' := [(4, .int r14), (0, .ref (xad g o)), (1, .ref (xad g o1)), (2, .ref (xad g o2)), (5, .int v5)]) hx hb dX3_pass_86 hl (by decide) rfl (fun ls hl => ?_)
            refine lv_goto (tgt := 132) hx hb dX3_pass_88 (by decide) ?_
            obtain ⟨x15, ex15⟩ : ∃ y : Int32, y = v5 + 1 := ⟨_, rfl⟩
            have h := h x15 ex15
            refine lv_iinc (v := x15) (lv' := [(5, .int x15), (4, .int r14), (0, .ref (xad g o)), (1, .ref (xad g o1)), (2, .ref (xad g o2))]) hx hb dX3_pass_132 hl (k := 4) rfl (by rw [ex15]; rfl) (by decide) rfl (fun ls hl => ?_)
            refine lv_goto (tgt := 46) hx hb dX3_pass_135 (by decide) ?_
            exact ih hw (lv_sub hl [2, 3, 4, 1, 0] rfl) h
set_option maxHeartbeats 4000000 in
set_option maxRecDepth 100000 in
theorem s_X3_pass {o : Nat} {o1 : Nat} {o2 : Nat} {Qf : xM → Prop} {a3 : Int32} (C : x_C p s m args meth c g RX3 cX3_pass 6 none) (ho : xpF g o) (ho1 : xpN g o1) (ho2 : xpL g o2) {u : xM} {H : Heap} {locs : List Loc} {ls : Array Slot} (hw : x_W g s.heap H locs u) (hl : lv_has ls 6 [(0, .ref (xad g o)), (1, .ref (xad g o1)), (2, .ref (xad g o2)), (3, .int a3)]) (h : p_X3_pass o o1 o2 a3 u Qf) : W p l e (x_rm 5 179) s m args below meth c H locs 0 0 (MQ below (x_Qv g Qf) args s 0 0 (x_A g)) (F0 m 0 ls []) := by
  unfold p_X3_pass at h
  have hx := C.1
  have hb := C.2.1
  refine lv_aload_n hx hb dX3_pass_0 rfl (lv_at hl 0 rfl) ?_
  refine lv_iconst (v := 1) hx hb dX3_pass_1 (by decide) ?_
  obtain ⟨u1, eu1⟩ : ∃ q : xM, q = si u o 0 (1 : Int32) := ⟨_, rfl⟩
  have h := h u1 eu1
  refine x_puti (ci := 3) (ty := .boolean) C hw 0 (xoF_0 ho) rfl inlX3 tyX3_ok nmX3 (by decide) rfl rfl xw_1837 rfl (by decide +kernel) rfl rfl dX3_pass_2 eu1 (fun H locs hw => ?_)
  refine lv_aload_n hx hb dX3_pass_5 rfl (lv_at hl 0 rfl) ?_
  refine lv_iconst (v := 0) hx hb dX3_pass_6 (by decide) ?_
  obtain ⟨u2, eu2⟩ : ∃ q : xM, q = si u1 o 1 (0 : Int32) := ⟨_, rfl⟩
  have h := h u2 eu2
  refine x_puti (ci := 3) (ty := .int) C hw 1 (xoF_0 ho) rfl inlX3 tyX3_ok nmX3 (by decide) rfl rfl xw_1838 rfl (by decide +kernel) rfl rfl dX3_pass_7 eu2 (fun H locs hw => ?_)
  refine lv_aload_n hx hb dX3_pass_10 rfl (lv_at hl 0 rfl) ?_
  refine lv_iconst (v := 0) hx hb dX3_pass_11 (by decide) ?_
  obtain ⟨u3, eu3⟩ : ∃ q : xM, q = si u2 o 2 (0 : Int32) := ⟨_, rfl⟩
  have h := h u3 eu3
  refine x_puti (ci := 3) (ty := .int) C hw 2 (xoF_0 ho) rfl inlX3 tyX3_ok nmX3 (by decide) rfl rfl xw_1839 rfl (by decide +kernel) rfl rfl dX3_pass_12 eu3 (fun H locs hw => ?_)
  refine lv_aload_n hx hb dX3_pass_15 rfl (lv_at hl 0 rfl) ?_
  refine lv_iconst (v := 0) hx hb dX3_pass_16 (by decide) ?_
  obtain ⟨u4, eu4⟩ : ∃ q : xM, q = si u3 o 3 (0 : Int32) := ⟨_, rfl⟩
  have h := h u4 eu4
  refine x_puti (ci := 3) (ty := .int) C hw 3 (xoF_0 ho) rfl inlX3 tyX3_ok nmX3 (by decide) rfl rfl xw_1840 rfl (by decide +kernel) rfl rfl dX3_pass_17 eu4 (fun H locs hw => ?_)
  refine lv_aload_n hx hb dX3_pass_20 rfl (lv_at hl 0 rfl) ?_
  refine lv_iconst (v := 0) hx hb dX3_pass_21 (by decide) ?_
  obtain ⟨u5, eu5⟩ : ∃ q : xM, q = si u4 o 4 (0 : Int32) := ⟨_, rfl⟩
  have h := h u5 eu5
  refine x_puti (ci := 3) (ty := .int) C hw 4 (xoF_0 ho) rfl inlX3 tyX3_ok nmX3 (by decide) rfl rfl xw_1841 rfl (by decide +kernel) rfl rfl dX3_pass_22 eu5 (fun H locs hw => ?_)
  refine lv_aload_n hx hb dX3_pass_25 rfl (lv_at hl 0 rfl) ?_
  refine lv_iconst (v := 0) hx hb dX3_pass_26 (by decide) ?_
  obtain ⟨u6, eu6⟩ : ∃ q : xM, q = si u5 o 5 (0 : Int32) := ⟨_, rfl⟩
  have h := h u6 eu6
  refine x_puti (ci := 3) (ty := .int) C hw 5 (xoF_0 ho) rfl inlX3 tyX3_ok nmX3 (by decide) rfl rfl xw_1842 rfl (by decide +kernel) rfl rfl dX3_pass_27 eu6 (fun H locs hw => ?_)
  refine lv_aload_n hx hb dX3_pass_30 rfl (lv_at hl 0 rfl) ?_
  refine lv_iconst (v := 0) hx hb dX3_pass_31 (by decide) ?_
  obtain ⟨u7, eu7⟩ : ∃ q : xM, q = si u6 o 6 (0 : Int32) := ⟨_, rfl⟩
  have h := h u7 eu7
  refine x_puti (ci := 3) (ty := .int) C hw 6 (xoF_0 ho) rfl inlX3 tyX3_ok nmX3 (by decide) rfl rfl xw_1843 rfl (by decide +kernel) rfl rfl dX3_pass_32 eu7 (fun H locs hw => ?_)
  refine lv_aload_n hx hb dX3_pass_35 rfl (lv_at hl 0 rfl) ?_
  refine lv_iload_n hx hb dX3_pass_36 rfl (lv_at hl 3 rfl) ?_
  obtain ⟨u8, eu8⟩ : ∃ q : xM, q = si u7 o 7 a3 := ⟨_, rfl⟩
  have h := h u8 eu8
  refine x_puti (ci := 3) (ty := .int) C hw 7 (xoF_0 ho) rfl inlX3 tyX3_ok nmX3 (by decide) rfl rfl xw_1844 rfl (by decide +kernel) rfl rfl dX3_pass_37 eu8 (fun H locs hw => ?_)
  refine lv_iconst (v := 0) hx hb dX3_pass_40 (by decide) ?_
  refine lv_istore (lv' := [(4, .int 0), (0, .ref (xad g o)), (1, .ref (xad g o1)), (2, .ref (xad g o2)), (3, .int a3)]) hx hb dX3_pass_41 hl (by decide) rfl (fun ls hl => ?_)
  refine lv_iconst (v := 0) hx hb dX3_pass_43 (by decide) ?_
  refine lv_istore (lv' := [(5, .int 0), (4, .int 0), (0, .ref (xad g o)), (1, .ref (xad g o1)), (2, .ref (xad g o2)), (3, .int a3)]) hx hb dX3_pass_44 hl (by decide) rfl (fun ls hl => ?_)
  obtain ⟨n9, h⟩ := h
  exact s_X3_pass_L46 C ho ho1 ho2 n9 hw (lv_sub hl [2, 3, 4, 1, 0] rfl) h
set_option maxHeartbeats 4000000 in
set_option maxRecDepth 100000 in
theorem m_X3_pass (l : Launch) {g : xG} (hD : x_D g) {o : Nat} {o1 : Nat} {o2 : Nat} (ho : xpF g o) (ho1 : xpN g o1) (ho2 : xpL g o2) {a3 : Int32} {u : xM} {Qf : xM → Prop} (h : p_X3_pass o o1 o2 a3 u Qf) : Met l yX3_pass (Cond.code yX3_pass cX3_pass 6 none :: wsL_law) (x_rm 5 179) (va_Pc [.ref (xad g o), .ref (xad g o1), .ref (xad g o2), .int a3] (x_B g u)) (x_Qv g Qf) 0 0 (x_A g) := by
  refine Met.ofW (cc := cX3_pass) (maxL := 6) (ret := none) (by decide) rfl ?_
  intro p e s m args below meth c s₁ B hml hv
  obtain ⟨rfl, hB⟩ := hv
  obtain ⟨C, hw⟩ := x_start B hml hD hB
  have hl := lv_entry [.ref (xad g o), .ref (xad g o1), .ref (xad g o2), .int a3] (n := 6) (Nat.le_of_ble_eq_true rfl)
  rw [lg_entry_eq]
  exact s_X3_pass C ho ho1 ho2 hw hl h
set_option maxHeartbeats 4000000 in
set_option maxRecDepth 100000 in
theorem s_X10_live {Qf : Int32 → xM → Prop} {a1 : Int32} (C : x_C p s m args meth c g RX10 cX10_live 2 (some .int)) (hX : xpX g) {u : xM} {H : Heap} {locs : List Loc} {ls : Array Slot} (hw : x_W g s.heap H locs u) (hl : lv_has ls 2 [(0, .ref (xad g 0)), (1, .int a1)]) (h : p_X10_live a1 u Qf) : W p l e (x_rm 6 204) s m args below meth c H locs 0 0 (MQ below (x_Qi g Qf) args s 0 0 (x_A g)) (F0 m 0 ls []) := by
  unfold p_X10_live at h
  have hx := C.1
  have hb := C.2.1
  refine lv_iload_n hx hb dX10_live_0 rfl (lv_at hl 1 rfl) ?_
  refine lv_iconst (v := 0) hx hb dX10_live_1 (by decide) ?_
  refine lv_sipush (v := 9999) hx hb dX10_live_2 (by decide) ?_
  refine x_callz hw (x_runS C hw (m_X10_isWithin l C.2.2.2.2.2.2.2.2.1  h) (x_gS xw_280 xw_281 xw_2 xw_282) rfl rfl qX10_isWithin ⟨(Nat.le_of_ble_eq_true rfl), (Nat.le_of_ble_eq_true rfl)⟩ rfl hl.1 rfl (Nat.le_of_ble_eq_true rfl) dX10_live_5) (fun r2 u1 H locs hw h => ?_)
  refine lv_if_ne (tgt := 17) hx hb dX10_live_8 (by decide) (fun c3 => ?_) (fun c3 => ?_)
  · have h := h.1 (xb_t c3)
    refine lv_aload_n hx hb dX10_live_17 rfl (lv_at hl 0 rfl) ?_
    refine x_getr (ci := 10) C hw 1 (xoX_0 hX) rfl inlX10 (by decide) rfl rfl xrX_0_1 xw_20 dX10_live_18 ?_
    refine x_geti (ci := 4) C hw 0 (xoN_0 (xpN_58 hX)) rfl inlX4 (by decide) rfl rfl xw_1831 dX10_live_21 ?_
    refine lv_if_ne (tgt := 34) hx hb dX10_live_24 (by decide) (fun c4 => ?_) (fun c4 => ?_)
    · have h := h.1 c4
      refine lv_aload_n hx hb dX10_live_34 rfl (lv_at hl 0 rfl) ?_
      refine x_getr (ci := 10) C hw 6 (xoX_0 hX) rfl inlX10 (by decide) rfl rfl xrX_0_6 xw_37 dX10_live_35 ?_
      refine lv_aload_n hx hb dX10_live_38 rfl (lv_at hl 0 rfl) ?_
      refine x_getr (ci := 10) C hw 1 (xoX_0 hX) rfl inlX10 (by decide) rfl rfl xrX_0_1 xw_20 dX10_live_39 ?_
      refine lv_aload_n hx hb dX10_live_42 rfl (lv_at hl 0 rfl) ?_
      refine x_getr (ci := 10) C hw 0 (xoX_0 hX) rfl inlX10 (by decide) rfl rfl xrX_0_0 xw_16 dX10_live_43 ?_
      refine lv_iload_n hx hb dX10_live_46 rfl (lv_at hl 1 rfl) ?_
      refine x_callv hw (x_runV (ci := 3) C hw (m_X3_pass l C.2.2.2.2.2.2.2.2.1 (xpF_46 hX) (xpN_58 hX) (xpL_83 hX) h) (xoF_0 (xpF_46 hX)) rfl (x_gV xw_1833 xw_1834 xw_1835 xw_36 xw_1836) rfl rfl qX3_pass ⟨(Nat.le_of_ble_eq_true rfl), (Nat.le_of_ble_eq_true rfl)⟩ rfl hl.1 rfl (Nat.le_of_ble_eq_true rfl) dX10_live_47) (fun u5 H locs hw h => ?_)
      refine lv_aload_n hx hb dX10_live_50 rfl (lv_at hl 0 rfl) ?_
      refine lv_aload_n hx hb dX10_live_51 rfl (lv_at hl 0 rfl) ?_
      refine x_getr (ci := 10) C hw 6 (xoX_0 hX) rfl inlX10 (by decide) rfl rfl xrX_0_6 xw_37 dX10_live_52 ?_
      refine x_geti (ci := 3) C hw 1 (xoF_0 (xpF_46 hX)) rfl inlX3 (by decide) rfl rfl xw_1832 dX10_live_55 ?_
      refine x_calli hw (x_runV (ci := 10) C hw (m_X10_fine l C.2.2.2.2.2.2.2.2.1 hX h) (xoX_0 hX) rfl (x_gV xw_622 xw_623 xw_624 xw_2 xw_625) rfl rfl qX10_fine ⟨(Nat.le_of_ble_eq_true rfl), (Nat.le_of_ble_eq_true rfl)⟩ rfl hl.1 rfl (Nat.le_of_ble_eq_true rfl) dX10_live_58) (fun r7 u6 H locs hw h => ?_)
      exact x_iret C hw h dX10_live_61
    · have h := h.2 c4
      refine lv_aload_n hx hb dX10_live_27 rfl (lv_at hl 0 rfl) ?_
      refine lv_bipush (v := 6) hx hb dX10_live_28 (by decide) ?_
      refine x_calli hw (x_runV (ci := 10) C hw (m_X10_none l C.2.2.2.2.2.2.2.2.1 hX h) (xoX_0 hX) rfl (x_gV xw_343 xw_344 xw_345 xw_2 xw_346) rfl rfl qX10_none ⟨(Nat.le_of_ble_eq_true rfl), (Nat.le_of_ble_eq_true rfl)⟩ rfl hl.1 rfl (Nat.le_of_ble_eq_true rfl) dX10_live_30) (fun r9 u8 H locs hw h => ?_)
      exact x_iret C hw h dX10_live_33
  · have h := h.2 (xb_f c3)
    refine lv_aload_n hx hb dX10_live_11 rfl (lv_at hl 0 rfl) ?_
    refine lv_iconst (v := 1) hx hb dX10_live_12 (by decide) ?_
    refine x_calli hw (x_runV (ci := 10) C hw (m_X10_none l C.2.2.2.2.2.2.2.2.1 hX h) (xoX_0 hX) rfl (x_gV xw_343 xw_344 xw_345 xw_2 xw_346) rfl rfl qX10_none ⟨(Nat.le_of_ble_eq_true rfl), (Nat.le_of_ble_eq_true rfl)⟩ rfl hl.1 rfl (Nat.le_of_ble_eq_true rfl) dX10_live_13) (fun r11 u10 H locs hw h => ?_)
    exact x_iret C hw h dX10_live_16
set_option maxHeartbeats 4000000 in
set_option maxRecDepth 100000 in
theorem m_X10_live (l : Launch) {g : xG} (hD : x_D g) (hX : xpX g) {a1 : Int32} {u : xM} {Qf : Int32 → xM → Prop} (h : p_X10_live a1 u Qf) : Met l yX10_live (Cond.code yX10_live cX10_live 2 (some .int) :: wsL_law) (x_rm 6 204) (va_Pc [.ref (xad g 0), .int a1] (x_B g u)) (x_Qi g Qf) 0 0 (x_A g) := by
  refine Met.ofW (cc := cX10_live) (maxL := 2) (ret := (some .int)) (by decide) rfl ?_
  intro p e s m args below meth c s₁ B hml hv
  obtain ⟨rfl, hB⟩ := hv
  obtain ⟨C, hw⟩ := x_start B hml hD hB
  have hl := lv_entry [.ref (xad g 0), .int a1] (n := 2) (Nat.le_of_ble_eq_true rfl)
  rw [lg_entry_eq]
  exact s_X10_live C hX hw hl h
set_option maxHeartbeats 4000000 in
set_option maxRecDepth 100000 in
theorem s_X10_lived {Qf : Int32 → xM → Prop} {a1 : Int32} (C : x_C p s m args meth c g RX10 cX10_lived 2 (some .int)) (hX : xpX g) {u : xM} {H : Heap} {locs : List Loc} {ls : Array Slot} (hw : x_W g s.heap H locs u) (hl : lv_has ls 2 [(0, .ref (xad g 0)), (1, .int a1)]) (h : p_X10_lived a1 u Qf) : W p l e (x_rm 1 22) s m args below meth c H locs 0 0 (MQ below (x_Qi g Qf) args s 0 0 (x_A g)) (F0 m 0 ls []) := by
  unfold p_X10_lived at h
  have hx := C.1
  have hb := C.2.1
  refine lv_iload_n hx hb dX10_lived_0 rfl (lv_at hl 1 rfl) ?_
  refine lv_iconst (v := 0) hx hb dX10_lived_1 (by decide) ?_
  refine lv_iconst (v := 4) hx hb dX10_lived_2 (by decide) ?_
  refine x_callz hw (x_runS C hw (m_X10_isWithin l C.2.2.2.2.2.2.2.2.1  h) (x_gS xw_280 xw_281 xw_2 xw_282) rfl rfl qX10_isWithin ⟨(Nat.le_of_ble_eq_true rfl), (Nat.le_of_ble_eq_true rfl)⟩ rfl hl.1 rfl (Nat.le_of_ble_eq_true rfl) dX10_lived_3) (fun r2 u1 H locs hw h => ?_)
  refine lv_if_ne (tgt := 15) hx hb dX10_lived_6 (by decide) (fun c3 => ?_) (fun c3 => ?_)
  · have h := h.1 (xb_t c3)
    refine lv_aload_n hx hb dX10_lived_15 rfl (lv_at hl 0 rfl) ?_
    refine x_getr (ci := 10) C hw 6 (xoX_0 hX) rfl inlX10 (by decide) rfl rfl xrX_0_6 xw_37 dX10_lived_16 ?_
    refine x_geti (ci := 3) C hw 0 (xoF_0 (xpF_46 hX)) rfl inlX3 (by decide) rfl rfl xw_1941 dX10_lived_19 ?_
    refine lv_if_ne (tgt := 32) hx hb dX10_lived_22 (by decide) (fun c4 => ?_) (fun c4 => ?_)
    · have h := h.1 c4
      refine lv_iload_n hx hb dX10_lived_32 rfl (lv_at hl 1 rfl) ?_
      by_cases c5 : a1 = 0
      · refine lv_tableIn (off := 31) (tgt := 64) hx hb dX10_lived_33 (by rw [c5]; decide) (by rw [c5]; decide) (by rw [c5]; rfl) (by decide) ?_
        have h := h.1 c5
        refine lv_aload_n hx hb dX10_lived_64 rfl (lv_at hl 0 rfl) ?_
        refine lv_aload_n hx hb dX10_lived_65 rfl (lv_at hl 0 rfl) ?_
        refine x_getr (ci := 10) C hw 6 (xoX_0 hX) rfl inlX10 (by decide) rfl rfl xrX_0_6 xw_37 dX10_lived_66 ?_
        refine x_geti (ci := 3) C hw 2 (xoF_0 (xpF_46 hX)) rfl inlX3 (by decide) rfl rfl xw_1942 dX10_lived_69 ?_
        refine x_calli hw (x_runV (ci := 10) C hw (m_X10_fine l C.2.2.2.2.2.2.2.2.1 hX h) (xoX_0 hX) rfl (x_gV xw_622 xw_623 xw_624 xw_2 xw_625) rfl rfl qX10_fine ⟨(Nat.le_of_ble_eq_true rfl), (Nat.le_of_ble_eq_true rfl)⟩ rfl hl.1 rfl (Nat.le_of_ble_eq_true rfl) dX10_lived_72) (fun r7 u6 H locs hw h => ?_)
        exact x_iret C hw h dX10_lived_75
      by_cases c8 : a1 = 1
      · refine lv_tableIn (off := 43) (tgt := 76) hx hb dX10_lived_33 (by rw [c8]; decide) (by rw [c8]; decide) (by rw [c8]; rfl) (by decide) ?_
        have h := h.2.1 c8
        refine lv_aload_n hx hb dX10_lived_76 rfl (lv_at hl 0 rfl) ?_
        refine lv_aload_n hx hb dX10_lived_77 rfl (lv_at hl 0 rfl) ?_
        refine x_getr (ci := 10) C hw 6 (xoX_0 hX) rfl inlX10 (by decide) rfl rfl xrX_0_6 xw_37 dX10_lived_78 ?_
        refine x_geti (ci := 3) C hw 3 (xoF_0 (xpF_46 hX)) rfl inlX3 (by decide) rfl rfl xw_1943 dX10_lived_81 ?_
        refine x_calli hw (x_runV (ci := 10) C hw (m_X10_fine l C.2.2.2.2.2.2.2.2.1 hX h) (xoX_0 hX) rfl (x_gV xw_622 xw_623 xw_624 xw_2 xw_625) rfl rfl qX10_fine ⟨(Nat.le_of_ble_eq_true rfl), (Nat.le_of_ble_eq_true rfl)⟩ rfl hl.1 rfl (Nat.le_of_ble_eq_true rfl) dX10_lived_84) (fun r10 u9 H locs hw h => ?_)
        exact x_iret C hw h dX10_lived_87
      by_cases c11 : a1 = 2
      · refine lv_tableIn (off := 55) (tgt := 88) hx hb dX10_lived_33 (by rw [c11]; decide) (by rw [c11]; decide) (by rw [c11]; rfl) (by decide) ?_
        have h := h.2.2.1 c11
        refine lv_aload_n hx hb dX10_lived_88 rfl (lv_at hl 0 rfl) ?_
        refine lv_aload_n hx hb dX10_lived_89 rfl (lv_at hl 0 rfl) ?_
        refine x_getr (ci := 10) C hw 6 (xoX_0 hX) rfl inlX10 (by decide) rfl rfl xrX_0_6 xw_37 dX10_lived_90 ?_
        refine x_geti (ci := 3) C hw 4 (xoF_0 (xpF_46 hX)) rfl inlX3 (by decide) rfl rfl xw_1944 dX10_lived_93 ?_
        refine x_calli hw (x_runV (ci := 10) C hw (m_X10_fine l C.2.2.2.2.2.2.2.2.1 hX h) (xoX_0 hX) rfl (x_gV xw_622 xw_623 xw_624 xw_2 xw_625) rfl rfl qX10_fine ⟨(Nat.le_of_ble_eq_true rfl), (Nat.le_of_ble_eq_true rfl)⟩ rfl hl.1 rfl (Nat.le_of_ble_eq_true rfl) dX10_lived_96) (fun r13 u12 H locs hw h => ?_)
        exact x_iret C hw h dX10_lived_99
      by_cases c14 : a1 = 3
      · refine lv_tableIn (off := 67) (tgt := 100) hx hb dX10_lived_33 (by rw [c14]; decide) (by rw [c14]; decide) (by rw [c14]; rfl) (by decide) ?_
        have h := h.2.2.2.1 c14
        refine lv_aload_n hx hb dX10_lived_100 rfl (lv_at hl 0 rfl) ?_
        refine lv_aload_n hx hb dX10_lived_101 rfl (lv_at hl 0 rfl) ?_
        refine x_getr (ci := 10) C hw 6 (xoX_0 hX) rfl inlX10 (by decide) rfl rfl xrX_0_6 xw_37 dX10_lived_102 ?_
        refine x_geti (ci := 3) C hw 5 (xoF_0 (xpF_46 hX)) rfl inlX3 (by decide) rfl rfl xw_1945 dX10_lived_105 ?_
        refine x_calli hw (x_runV (ci := 10) C hw (m_X10_fine l C.2.2.2.2.2.2.2.2.1 hX h) (xoX_0 hX) rfl (x_gV xw_622 xw_623 xw_624 xw_2 xw_625) rfl rfl qX10_fine ⟨(Nat.le_of_ble_eq_true rfl), (Nat.le_of_ble_eq_true rfl)⟩ rfl hl.1 rfl (Nat.le_of_ble_eq_true rfl) dX10_lived_108) (fun r16 u15 H locs hw h => ?_)
        exact x_iret C hw h dX10_lived_111
      have ec5 : a1.toInt ≠ 0 := fun z => c5 (Int32.toInt_inj.mp (z.trans (by decide)))
      have ec8 : a1.toInt ≠ 1 := fun z => c8 (Int32.toInt_inj.mp (z.trans (by decide)))
      have ec11 : a1.toInt ≠ 2 := fun z => c11 (Int32.toInt_inj.mp (z.trans (by decide)))
      have ec14 : a1.toInt ≠ 3 := fun z => c14 (Int32.toInt_inj.mp (z.trans (by decide)))
      refine lv_tableOut (tgt := 112) hx hb dX10_lived_33 (by omega) (by decide) ?_
      have h := h.2.2.2.2 c5 c8 c11 c14
      refine lv_aload_n hx hb dX10_lived_112 rfl (lv_at hl 0 rfl) ?_
      refine lv_aload_n hx hb dX10_lived_113 rfl (lv_at hl 0 rfl) ?_
      refine x_getr (ci := 10) C hw 6 (xoX_0 hX) rfl inlX10 (by decide) rfl rfl xrX_0_6 xw_37 dX10_lived_114 ?_
      refine x_geti (ci := 3) C hw 6 (xoF_0 (xpF_46 hX)) rfl inlX3 (by decide) rfl rfl xw_1946 dX10_lived_117 ?_
      refine x_calli hw (x_runV (ci := 10) C hw (m_X10_fine l C.2.2.2.2.2.2.2.2.1 hX h) (xoX_0 hX) rfl (x_gV xw_622 xw_623 xw_624 xw_2 xw_625) rfl rfl qX10_fine ⟨(Nat.le_of_ble_eq_true rfl), (Nat.le_of_ble_eq_true rfl)⟩ rfl hl.1 rfl (Nat.le_of_ble_eq_true rfl) dX10_lived_120) (fun r18 u17 H locs hw h => ?_)
      exact x_iret C hw h dX10_lived_123
    · have h := h.2 c4
      refine lv_aload_n hx hb dX10_lived_25 rfl (lv_at hl 0 rfl) ?_
      refine lv_bipush (v := 6) hx hb dX10_lived_26 (by decide) ?_
      refine x_calli hw (x_runV (ci := 10) C hw (m_X10_none l C.2.2.2.2.2.2.2.2.1 hX h) (xoX_0 hX) rfl (x_gV xw_343 xw_344 xw_345 xw_2 xw_346) rfl rfl qX10_none ⟨(Nat.le_of_ble_eq_true rfl), (Nat.le_of_ble_eq_true rfl)⟩ rfl hl.1 rfl (Nat.le_of_ble_eq_true rfl) dX10_lived_28) (fun r20 u19 H locs hw h => ?_)
      exact x_iret C hw h dX10_lived_31
  · have h := h.2 (xb_f c3)
    refine lv_aload_n hx hb dX10_lived_9 rfl (lv_at hl 0 rfl) ?_
    refine lv_iconst (v := 1) hx hb dX10_lived_10 (by decide) ?_
    refine x_calli hw (x_runV (ci := 10) C hw (m_X10_none l C.2.2.2.2.2.2.2.2.1 hX h) (xoX_0 hX) rfl (x_gV xw_343 xw_344 xw_345 xw_2 xw_346) rfl rfl qX10_none ⟨(Nat.le_of_ble_eq_true rfl), (Nat.le_of_ble_eq_true rfl)⟩ rfl hl.1 rfl (Nat.le_of_ble_eq_true rfl) dX10_lived_11) (fun r22 u21 H locs hw h => ?_)
    exact x_iret C hw h dX10_lived_14
set_option maxHeartbeats 4000000 in
set_option maxRecDepth 100000 in
theorem m_X10_lived (l : Launch) {g : xG} (hD : x_D g) (hX : xpX g) {a1 : Int32} {u : xM} {Qf : Int32 → xM → Prop} (h : p_X10_lived a1 u Qf) : Met l yX10_lived (Cond.code yX10_lived cX10_lived 2 (some .int) :: wsL_law) (x_rm 1 22) (va_Pc [.ref (xad g 0), .int a1] (x_B g u)) (x_Qi g Qf) 0 0 (x_A g) := by
  refine Met.ofW (cc := cX10_lived) (maxL := 2) (ret := (some .int)) (by decide) rfl ?_
  intro p e s m args below meth c s₁ B hml hv
  obtain ⟨rfl, hB⟩ := hv
  obtain ⟨C, hw⟩ := x_start B hml hD hB
  have hl := lv_entry [.ref (xad g 0), .int a1] (n := 2) (Nat.le_of_ble_eq_true rfl)
  rw [lg_entry_eq]
  exact s_X10_lived C hX hw hl h
set_option maxHeartbeats 4000000 in
set_option maxRecDepth 100000 in
theorem s_X10_mean_L60 {Qf : Bool → xM → Prop} (C : x_C p s m args meth c g RX10 cX10_mean 7 (some .boolean)) (hX : xpX g) : ∀ (nn : Nat) {v1 : Int32} {v2 : Int32} {v3 : Int64} {v5 : Int32} {u : xM} {H : Heap} {locs : List Loc} {ls : Array Slot} (hw : x_W g s.heap H locs u) (hl : lv_has ls 7 [(0, .ref (xad g 0)), (1, .int v1), (2, .int v2), (3, .long v3), (5, .int v5)]) (h : p_X10_mean_L60 Qf nn v1 v2 v3 v5 u), W p l e (x_rm 6 204) s m args below meth c H locs 0 0 (MQ below (x_Qz g Qf) args s 0 0 (x_A g)) (F0 m 60 ls []) := by
  intro nn
  induction nn with
  | zero => intro v1 v2 v3 v5 u H locs ls hw hl h; exact h.elim
  | succ nn ih =>
    intro v1 v2 v3 v5 u H locs ls hw hl h
    unfold p_X10_mean_L60 at h
    have hx := C.1
    have hb := C.2.1
    refine lv_iload hx hb dX10_mean_60 (lv_at hl 4 rfl) ?_
    refine lv_iload_n hx hb dX10_mean_62 rfl (lv_at hl 2 rfl) ?_
    refine lv_icmp_ge (tgt := 107) hx hb dX10_mean_63 (by decide) (fun c1 => ?_) (fun c1 => ?_)
    · have h := h.1 c1
      refine lv_aload_n hx hb dX10_mean_107 rfl (lv_at hl 0 rfl) ?_
      refine lv_lload_n hx hb dX10_mean_108 rfl (lv_at hl 3 rfl) ?_
      refine lv_iload_n hx hb dX10_mean_109 rfl (lv_at hl 2 rfl) ?_
      refine lv_i2l hx hb dX10_mean_110 rfl ?_
      refine x_callv hw (x_runV (ci := 10) C hw (m_X10_tellFraction l C.2.2.2.2.2.2.2.2.1 hX h) (xoX_0 hX) rfl (x_gV xw_1740 xw_1741 xw_1742 xw_2 xw_1743) rfl rfl qX10_tellFraction ⟨(Nat.le_of_ble_eq_true rfl), (Nat.le_of_ble_eq_true rfl)⟩ rfl hl.1 rfl (Nat.le_of_ble_eq_true rfl) dX10_mean_111) (fun u2 H locs hw h => ?_)
      refine lv_aload_n hx hb dX10_mean_114 rfl (lv_at hl 0 rfl) ?_
      refine x_callz hw (x_runV (ci := 10) C hw (m_X10_done l C.2.2.2.2.2.2.2.2.1 hX h) (xoX_0 hX) rfl (x_gV xw_292 xw_293 xw_294 xw_2 xw_295) rfl rfl qX10_done ⟨(Nat.le_of_ble_eq_true rfl), (Nat.le_of_ble_eq_true rfl)⟩ rfl hl.1 rfl (Nat.le_of_ble_eq_true rfl) dX10_mean_115) (fun r4 u3 H locs hw h => ?_)
      exact x_zret _ C hw h rfl dX10_mean_118
    · have h := h.2 c1
      refine lv_aload_n hx hb dX10_mean_66 rfl (lv_at hl 0 rfl) ?_
      refine x_callr hw (x_runV (ci := 10) C hw (m_X10_asItIs l C.2.2.2.2.2.2.2.2.1 hX h) (xoX_0 hX) rfl (x_gV xw_1327 xw_1328 xw_1329 xw_2 xw_1330) rfl rfl qX10_asItIs ⟨(Nat.le_of_ble_eq_true rfl), (Nat.le_of_ble_eq_true rfl)⟩ rfl hl.1 rfl (Nat.le_of_ble_eq_true rfl) dX10_mean_67) (fun u5 H locs hw h => ?_)
      refine lv_astore (lv' := [(6, .ref (xad g 110)), (0, .ref (xad g 0)), (1, .int v1), (2, .int v2), (3, .long v3), (5, .int v5)]) hx hb dX10_mean_70 hl (by decide) rfl (fun ls hl => ?_)
      refine lv_aload_n hx hb dX10_mean_72 rfl (lv_at hl 1 rfl) ?_
      refine x_getr (ci := 10) C hw 7 (xoX_0 hX) rfl inlX10 (by decide) rfl rfl xrX_0_7 xw_38 dX10_mean_73 ?_
      refine lv_aload_n hx hb dX10_mean_76 rfl (lv_at hl 1 rfl) ?_
      refine x_getr (ci := 10) C hw 1 (xoX_0 hX) rfl inlX10 (by decide) rfl rfl xrX_0_1 xw_20 dX10_mean_77 ?_
      refine lv_aload hx hb dX10_mean_80 (lv_at hl 0 rfl) ?_
      refine lv_iload_n hx hb dX10_mean_82 rfl (lv_at hl 2 rfl) ?_
      refine lv_iload hx hb dX10_mean_83 (lv_at hl 5 rfl) ?_
      refine lv_iadd hx hb dX10_mean_85 ?_
      refine x_callv hw (x_runV (ci := 3) C hw (m_X3_pass l C.2.2.2.2.2.2.2.2.1 (xpF_48 hX) (xpN_58 hX) (xpL_110 hX) h) (xoF_0 (xpF_48 hX)) rfl (x_gV xw_1833 xw_1834 xw_1835 xw_36 xw_1836) rfl rfl qX3_pass ⟨(Nat.le_of_ble_eq_true rfl), (Nat.le_of_ble_eq_true rfl)⟩ rfl hl.1 rfl (Nat.le_of_ble_eq_true rfl) dX10_mean_86) (fun u6 H locs hw h => ?_)
      refine lv_lload_n hx hb dX10_mean_89 rfl (lv_at hl 4 rfl) ?_
      refine lv_aload hx hb dX10_mean_90 (lv_at hl 0 rfl) ?_
      refine x_getr (ci := 1) C hw 0 (xoL_0 (xpL_110 hX)) rfl inlX1 (by decide) rfl rfl (xrL_0_0 (xpL_110 hX)) xw_858 dX10_mean_92 ?_
      refine x_calli hw (x_runV (ci := 7) C hw (m_X7_allWater l C.2.2.2.2.2.2.2.2.1 (xpL_110 hX) h) (xoL_1 (xpL_110 hX)) rfl (x_gV xw_865 xw_866 xw_867 xw_57 xw_868) rfl rfl qX7_allWater ⟨(Nat.le_of_ble_eq_true rfl), (Nat.le_of_ble_eq_true rfl)⟩ rfl hl.1 rfl (Nat.le_of_ble_eq_true rfl) dX10_mean_95) (fun r8 u7 H locs hw h => ?_)
      refine lv_i2l hx hb dX10_mean_98 rfl ?_
      refine lv_ladd hx hb dX10_mean_99 ?_
      refine lv_topl (fun x9 ex9 => ?_)
      have h := h x9 ex9
      refine lv_lstore_n (lv' := [(3, .long x9), (6, .ref (xad g 110)), (0, .ref (xad g 0)), (1, .int v1), (2, .int v2), (5, .int v5)]) hx hb dX10_mean_100 rfl hl (by decide) rfl (fun ls hl => ?_)
      obtain ⟨x10, ex10⟩ : ∃ y : Int32, y = v5 + 1 := ⟨_, rfl⟩
      have h := h x10 ex10
      refine lv_iinc (v := x10) (lv' := [(5, .int x10), (3, .long x9), (6, .ref (xad g 110)), (0, .ref (xad g 0)), (1, .int v1), (2, .int v2)]) hx hb dX10_mean_101 hl (k := 5) rfl (by rw [ex10]; rfl) (by decide) rfl (fun ls hl => ?_)
      refine lv_goto (tgt := 60) hx hb dX10_mean_104 (by decide) ?_
      exact ih hw (lv_sub hl [3, 4, 5, 1, 0] rfl) h
set_option maxHeartbeats 4000000 in
set_option maxRecDepth 100000 in
theorem s_X10_mean {Qf : Bool → xM → Prop} {a1 : Int32} {a2 : Int32} (C : x_C p s m args meth c g RX10 cX10_mean 7 (some .boolean)) (hX : xpX g) {u : xM} {H : Heap} {locs : List Loc} {ls : Array Slot} (hw : x_W g s.heap H locs u) (hl : lv_has ls 7 [(0, .ref (xad g 0)), (1, .int a1), (2, .int a2)]) (h : p_X10_mean a1 a2 u Qf) : W p l e (x_rm 6 204) s m args below meth c H locs 0 0 (MQ below (x_Qz g Qf) args s 0 0 (x_A g)) (F0 m 0 ls []) := by
  unfold p_X10_mean at h
  have hx := C.1
  have hb := C.2.1
  refine lv_iload_n hx hb dX10_mean_0 rfl (lv_at hl 1 rfl) ?_
  refine lv_iconst (v := 0) hx hb dX10_mean_1 (by decide) ?_
  refine lv_sipush (v := 9999) hx hb dX10_mean_2 (by decide) ?_
  refine x_callz hw (x_runS C hw (m_X10_isWithin l C.2.2.2.2.2.2.2.2.1  h) (x_gS xw_280 xw_281 xw_2 xw_282) rfl rfl qX10_isWithin ⟨(Nat.le_of_ble_eq_true rfl), (Nat.le_of_ble_eq_true rfl)⟩ rfl hl.1 rfl (Nat.le_of_ble_eq_true rfl) dX10_mean_5) (fun r2 u1 H locs hw h => ?_)
  refine lv_if_eq (tgt := 32) hx hb dX10_mean_8 (by decide) (fun c3 => ?_) (fun c3 => ?_)
  · have h := h.1 (xb_f c3)
    refine lv_aload_n hx hb dX10_mean_32 rfl (lv_at hl 0 rfl) ?_
    refine lv_iconst (v := 1) hx hb dX10_mean_33 (by decide) ?_
    refine x_callz hw (x_runV (ci := 10) C hw (m_X10_refused l C.2.2.2.2.2.2.2.2.1 hX h) (xoX_0 hX) rfl (x_gV xw_283 xw_284 xw_285 xw_2 xw_286) rfl rfl qX10_refused ⟨(Nat.le_of_ble_eq_true rfl), (Nat.le_of_ble_eq_true rfl)⟩ rfl hl.1 rfl (Nat.le_of_ble_eq_true rfl) dX10_mean_34) (fun r5 u4 H locs hw h => ?_)
    exact x_zret _ C hw h rfl dX10_mean_37
  · have h := h.2 (xb_t c3)
    refine lv_iload_n hx hb dX10_mean_11 rfl (lv_at hl 2 rfl) ?_
    refine lv_iconst (v := 1) hx hb dX10_mean_12 (by decide) ?_
    refine lv_bipush (v := 20) hx hb dX10_mean_13 (by decide) ?_
    refine x_callz hw (x_runS C hw (m_X10_isWithin l C.2.2.2.2.2.2.2.2.1  h) (x_gS xw_280 xw_281 xw_2 xw_282) rfl rfl qX10_isWithin ⟨(Nat.le_of_ble_eq_true rfl), (Nat.le_of_ble_eq_true rfl)⟩ rfl hl.1 rfl (Nat.le_of_ble_eq_true rfl) dX10_mean_15) (fun r7 u6 H locs hw h => ?_)
    refine lv_if_eq (tgt := 32) hx hb dX10_mean_18 (by decide) (fun c8 => ?_) (fun c8 => ?_)
    · have h := h.1 (xb_f c8)
      refine lv_aload_n hx hb dX10_mean_32 rfl (lv_at hl 0 rfl) ?_
      refine lv_iconst (v := 1) hx hb dX10_mean_33 (by decide) ?_
      refine x_callz hw (x_runV (ci := 10) C hw (m_X10_refused l C.2.2.2.2.2.2.2.2.1 hX h) (xoX_0 hX) rfl (x_gV xw_283 xw_284 xw_285 xw_2 xw_286) rfl rfl qX10_refused ⟨(Nat.le_of_ble_eq_true rfl), (Nat.le_of_ble_eq_true rfl)⟩ rfl hl.1 rfl (Nat.le_of_ble_eq_true rfl) dX10_mean_34) (fun r10 u9 H locs hw h => ?_)
      exact x_zret _ C hw h rfl dX10_mean_37
    · have h := h.2 (xb_t c8)
      refine lv_iload_n hx hb dX10_mean_21 rfl (lv_at hl 1 rfl) ?_
      refine lv_iload_n hx hb dX10_mean_22 rfl (lv_at hl 2 rfl) ?_
      refine lv_iadd hx hb dX10_mean_23 ?_
      refine lv_iconst (v := 1) hx hb dX10_mean_24 (by decide) ?_
      refine lv_isub hx hb dX10_mean_25 ?_
      refine lv_sipush (v := 9999) hx hb dX10_mean_26 (by decide) ?_
      refine lv_icmp_le (tgt := 38) hx hb dX10_mean_29 (by decide) (fun c11 => ?_) (fun c11 => ?_)
      · have h := h.1 c11
        refine lv_aload_n hx hb dX10_mean_38 rfl (lv_at hl 0 rfl) ?_
        refine x_getr (ci := 10) C hw 1 (xoX_0 hX) rfl inlX10 (by decide) rfl rfl xrX_0_1 xw_20 dX10_mean_39 ?_
        refine x_geti (ci := 4) C hw 0 (xoN_0 (xpN_58 hX)) rfl inlX4 (by decide) rfl rfl xw_1831 dX10_mean_42 ?_
        refine lv_if_ne (tgt := 55) hx hb dX10_mean_45 (by decide) (fun c12 => ?_) (fun c12 => ?_)
        · have h := h.1 c12
          refine lv_lconst (v := 0) hx hb dX10_mean_55 (by decide) ?_
          refine lv_lstore_n (lv' := [(3, .long 0), (0, .ref (xad g 0)), (1, .int a1), (2, .int a2)]) hx hb dX10_mean_56 rfl hl (by decide) rfl (fun ls hl => ?_)
          refine lv_iconst (v := 0) hx hb dX10_mean_57 (by decide) ?_
          refine lv_istore (lv' := [(5, .int 0), (3, .long 0), (0, .ref (xad g 0)), (1, .int a1), (2, .int a2)]) hx hb dX10_mean_58 hl (by decide) rfl (fun ls hl => ?_)
          obtain ⟨n9, h⟩ := h
          exact s_X10_mean_L60 C hX n9 hw (lv_sub hl [2, 3, 4, 1, 0] rfl) h
        · have h := h.2 c12
          refine lv_aload_n hx hb dX10_mean_48 rfl (lv_at hl 0 rfl) ?_
          refine lv_bipush (v := 6) hx hb dX10_mean_49 (by decide) ?_
          refine x_callz hw (x_runV (ci := 10) C hw (m_X10_refused l C.2.2.2.2.2.2.2.2.1 hX h) (xoX_0 hX) rfl (x_gV xw_283 xw_284 xw_285 xw_2 xw_286) rfl rfl qX10_refused ⟨(Nat.le_of_ble_eq_true rfl), (Nat.le_of_ble_eq_true rfl)⟩ rfl hl.1 rfl (Nat.le_of_ble_eq_true rfl) dX10_mean_51) (fun r14 u13 H locs hw h => ?_)
          exact x_zret _ C hw h rfl dX10_mean_54
      · have h := h.2 c11
        refine lv_aload_n hx hb dX10_mean_32 rfl (lv_at hl 0 rfl) ?_
        refine lv_iconst (v := 1) hx hb dX10_mean_33 (by decide) ?_
        refine x_callz hw (x_runV (ci := 10) C hw (m_X10_refused l C.2.2.2.2.2.2.2.2.1 hX h) (xoX_0 hX) rfl (x_gV xw_283 xw_284 xw_285 xw_2 xw_286) rfl rfl qX10_refused ⟨(Nat.le_of_ble_eq_true rfl), (Nat.le_of_ble_eq_true rfl)⟩ rfl hl.1 rfl (Nat.le_of_ble_eq_true rfl) dX10_mean_34) (fun r16 u15 H locs hw h => ?_)
        exact x_zret _ C hw h rfl dX10_mean_37
set_option maxHeartbeats 4000000 in
set_option maxRecDepth 100000 in
theorem m_X10_mean (l : Launch) {g : xG} (hD : x_D g) (hX : xpX g) {a1 : Int32} {a2 : Int32} {u : xM} {Qf : Bool → xM → Prop} (h : p_X10_mean a1 a2 u Qf) : Met l yX10_mean (Cond.code yX10_mean cX10_mean 7 (some .boolean) :: wsL_law) (x_rm 6 204) (va_Pc [.ref (xad g 0), .int a1, .int a2] (x_B g u)) (x_Qz g Qf) 0 0 (x_A g) := by
  refine Met.ofW (cc := cX10_mean) (maxL := 7) (ret := (some .boolean)) (by decide) rfl ?_
  intro p e s m args below meth c s₁ B hml hv
  obtain ⟨rfl, hB⟩ := hv
  obtain ⟨C, hw⟩ := x_start B hml hD hB
  have hl := lv_entry [.ref (xad g 0), .int a1, .int a2] (n := 7) (Nat.le_of_ble_eq_true rfl)
  rw [lg_entry_eq]
  exact s_X10_mean C hX hw hl h
set_option maxHeartbeats 4000000 in
set_option maxRecDepth 100000 in
theorem s_X10_mark {Qf : Int32 → xM → Prop} (C : x_C p s m args meth c g RX10 cX10_mark 1 (some .int)) (hX : xpX g) {u : xM} {H : Heap} {locs : List Loc} {ls : Array Slot} (hw : x_W g s.heap H locs u) (hl : lv_has ls 1 [(0, .ref (xad g 0))]) (h : p_X10_mark  u Qf) : W p l e (x_rm 3 122) s m args below meth c H locs 0 0 (MQ below (x_Qi g Qf) args s 0 0 (x_A g)) (F0 m 0 ls []) := by
  unfold p_X10_mark at h
  have hx := C.1
  have hb := C.2.1
  refine lv_aload_n hx hb dX10_mark_0 rfl (lv_at hl 0 rfl) ?_
  refine x_geti (ci := 10) C hw 10 (xoX_0 hX) rfl inlX10 (by decide) rfl rfl xw_1964 dX10_mark_1 ?_
  refine lv_iconst (v := 3) hx hb dX10_mark_4 (by decide) ?_
  refine lv_icmp_lt (tgt := 14) hx hb dX10_mark_5 (by decide) (fun c1 => ?_) (fun c1 => ?_)
  · have h := h.1 c1
    refine lv_aload_n hx hb dX10_mark_14 rfl (lv_at hl 0 rfl) ?_
    refine x_getr (ci := 10) C hw 8 (xoX_0 hX) rfl inlX10 (by decide) rfl rfl xrX_0_8 xw_39 dX10_mark_15 ?_
    refine lv_aload_n hx hb dX10_mark_18 rfl (lv_at hl 0 rfl) ?_
    refine x_geti (ci := 10) C hw 10 (xoX_0 hX) rfl inlX10 (by decide) rfl rfl xw_1964 dX10_mark_19 ?_
    have c2 := h.1
    have h := h.2
    refine x_aald C hw (xoX_1 hX) (by decide) (by decide) c2 (xa_1 c2) dX10_mark_22 ?_
    refine lv_aload_n hx hb dX10_mark_23 rfl (lv_at hl 0 rfl) ?_
    refine x_getr (ci := 10) C hw 0 (xoX_0 hX) rfl inlX10 (by decide) rfl rfl xrX_0_0 xw_16 dX10_mark_24 ?_
    refine x_callv hw (x_runV (ci := 1) C hw (m_X1_copyFrom l C.2.2.2.2.2.2.2.2.1 (xpL_m hX c2) (xpL_83 hX) h) (xoL_0 (xpL_m hX c2)) rfl (x_gV xw_600 xw_601 xw_602 xw_15 xw_603) rfl rfl qX1_copyFrom ⟨(Nat.le_of_ble_eq_true rfl), (Nat.le_of_ble_eq_true rfl)⟩ rfl hl.1 rfl (Nat.le_of_ble_eq_true rfl) dX10_mark_27) (fun u3 H locs hw h => ?_)
    refine lv_aload_n hx hb dX10_mark_30 rfl (lv_at hl 0 rfl) ?_
    refine x_getr (ci := 10) C hw 9 (xoX_0 hX) rfl inlX10 (by decide) rfl rfl xrX_0_9 xw_40 dX10_mark_31 ?_
    refine lv_aload_n hx hb dX10_mark_34 rfl (lv_at hl 0 rfl) ?_
    refine x_geti (ci := 10) C hw 10 (xoX_0 hX) rfl inlX10 (by decide) rfl rfl xw_1964 dX10_mark_35 ?_
    have c4 := h.1
    have h := h.2
    refine x_aald C hw (xoX_2 hX) (by decide) (by decide) c4 (xa_2 c4) dX10_mark_38 ?_
    refine lv_aload_n hx hb dX10_mark_39 rfl (lv_at hl 0 rfl) ?_
    refine x_getr (ci := 10) C hw 1 (xoX_0 hX) rfl inlX10 (by decide) rfl rfl xrX_0_1 xw_20 dX10_mark_40 ?_
    refine x_callv hw (x_runV (ci := 4) C hw (m_X4_copyFrom l C.2.2.2.2.2.2.2.2.1 (xpN_m hX c4) (xpN_58 hX) h) (xoN_0 (xpN_m hX c4)) rfl (x_gV xw_815 xw_816 xw_817 xw_19 xw_818) rfl rfl qX4_copyFrom ⟨(Nat.le_of_ble_eq_true rfl), (Nat.le_of_ble_eq_true rfl)⟩ rfl hl.1 rfl (Nat.le_of_ble_eq_true rfl) dX10_mark_43) (fun u5 H locs hw h => ?_)
    refine lv_aload_n hx hb dX10_mark_46 rfl (lv_at hl 0 rfl) ?_
    refine lv_dup hx hb dX10_mark_47 rfl ?_
    refine x_geti (ci := 10) C hw 10 (xoX_0 hX) rfl inlX10 (by decide) rfl rfl xw_1964 dX10_mark_48 ?_
    refine lv_iconst (v := 1) hx hb dX10_mark_51 (by decide) ?_
    refine lv_iadd hx hb dX10_mark_52 ?_
    obtain ⟨u6, eu6⟩ : ∃ q : xM, q = si u5 0 10 ((gi u5 0 10) + (1 : Int32)) := ⟨_, rfl⟩
    have h := h u6 eu6
    refine x_puti (ci := 10) (ty := .int) C hw 10 (xoX_0 hX) rfl inlX10 tyX10_ok nmX10 (by decide) rfl rfl xw_1964 rfl (by decide +kernel) rfl rfl dX10_mark_53 eu6 (fun H locs hw => ?_)
    refine lv_aload_n hx hb dX10_mark_56 rfl (lv_at hl 0 rfl) ?_
    refine lv_aload_n hx hb dX10_mark_57 rfl (lv_at hl 0 rfl) ?_
    refine x_geti (ci := 10) C hw 10 (xoX_0 hX) rfl inlX10 (by decide) rfl rfl xw_1964 dX10_mark_58 ?_
    refine x_calli hw (x_runV (ci := 10) C hw (m_X10_fine l C.2.2.2.2.2.2.2.2.1 hX h) (xoX_0 hX) rfl (x_gV xw_622 xw_623 xw_624 xw_2 xw_625) rfl rfl qX10_fine ⟨(Nat.le_of_ble_eq_true rfl), (Nat.le_of_ble_eq_true rfl)⟩ rfl hl.1 rfl (Nat.le_of_ble_eq_true rfl) dX10_mark_61) (fun r8 u7 H locs hw h => ?_)
    exact x_iret C hw h dX10_mark_64
  · have h := h.2 c1
    refine lv_aload_n hx hb dX10_mark_8 rfl (lv_at hl 0 rfl) ?_
    refine lv_iconst (v := 4) hx hb dX10_mark_9 (by decide) ?_
    refine x_calli hw (x_runV (ci := 10) C hw (m_X10_none l C.2.2.2.2.2.2.2.2.1 hX h) (xoX_0 hX) rfl (x_gV xw_343 xw_344 xw_345 xw_2 xw_346) rfl rfl qX10_none ⟨(Nat.le_of_ble_eq_true rfl), (Nat.le_of_ble_eq_true rfl)⟩ rfl hl.1 rfl (Nat.le_of_ble_eq_true rfl) dX10_mark_10) (fun r10 u9 H locs hw h => ?_)
    exact x_iret C hw h dX10_mark_13
set_option maxHeartbeats 4000000 in
set_option maxRecDepth 100000 in
theorem m_X10_mark (l : Launch) {g : xG} (hD : x_D g) (hX : xpX g) {u : xM} {Qf : Int32 → xM → Prop} (h : p_X10_mark  u Qf) : Met l yX10_mark (Cond.code yX10_mark cX10_mark 1 (some .int) :: wsL_law) (x_rm 3 122) (va_Pc [.ref (xad g 0)] (x_B g u)) (x_Qi g Qf) 0 0 (x_A g) := by
  refine Met.ofW (cc := cX10_mark) (maxL := 1) (ret := (some .int)) (by decide) rfl ?_
  intro p e s m args below meth c s₁ B hml hv
  obtain ⟨rfl, hB⟩ := hv
  obtain ⟨C, hw⟩ := x_start B hml hD hB
  have hl := lv_entry [.ref (xad g 0)] (n := 1) (Nat.le_of_ble_eq_true rfl)
  rw [lg_entry_eq]
  exact s_X10_mark C hX hw hl h
set_option maxHeartbeats 4000000 in
set_option maxRecDepth 100000 in
theorem s_X10_undo {Qf : Int32 → xM → Prop} (C : x_C p s m args meth c g RX10 cX10_undo 1 (some .int)) (hX : xpX g) {u : xM} {H : Heap} {locs : List Loc} {ls : Array Slot} (hw : x_W g s.heap H locs u) (hl : lv_has ls 1 [(0, .ref (xad g 0))]) (h : p_X10_undo  u Qf) : W p l e (x_rm 3 122) s m args below meth c H locs 0 0 (MQ below (x_Qi g Qf) args s 0 0 (x_A g)) (F0 m 0 ls []) := by
  unfold p_X10_undo at h
  have hx := C.1
  have hb := C.2.1
  refine lv_aload_n hx hb dX10_undo_0 rfl (lv_at hl 0 rfl) ?_
  refine x_geti (ci := 10) C hw 10 (xoX_0 hX) rfl inlX10 (by decide) rfl rfl xw_1964 dX10_undo_1 ?_
  refine lv_if_gt (tgt := 14) hx hb dX10_undo_4 (by decide) (fun c1 => ?_) (fun c1 => ?_)
  · have h := h.1 c1
    refine lv_aload_n hx hb dX10_undo_14 rfl (lv_at hl 0 rfl) ?_
    refine lv_dup hx hb dX10_undo_15 rfl ?_
    refine x_geti (ci := 10) C hw 10 (xoX_0 hX) rfl inlX10 (by decide) rfl rfl xw_1964 dX10_undo_16 ?_
    refine lv_iconst (v := 1) hx hb dX10_undo_19 (by decide) ?_
    refine lv_isub hx hb dX10_undo_20 ?_
    obtain ⟨u2, eu2⟩ : ∃ q : xM, q = si u 0 10 ((gi u 0 10) - (1 : Int32)) := ⟨_, rfl⟩
    have h := h u2 eu2
    refine x_puti (ci := 10) (ty := .int) C hw 10 (xoX_0 hX) rfl inlX10 tyX10_ok nmX10 (by decide) rfl rfl xw_1964 rfl (by decide +kernel) rfl rfl dX10_undo_21 eu2 (fun H locs hw => ?_)
    refine lv_aload_n hx hb dX10_undo_24 rfl (lv_at hl 0 rfl) ?_
    refine x_getr (ci := 10) C hw 0 (xoX_0 hX) rfl inlX10 (by decide) rfl rfl xrX_0_0 xw_16 dX10_undo_25 ?_
    refine lv_aload_n hx hb dX10_undo_28 rfl (lv_at hl 0 rfl) ?_
    refine x_getr (ci := 10) C hw 8 (xoX_0 hX) rfl inlX10 (by decide) rfl rfl xrX_0_8 xw_39 dX10_undo_29 ?_
    refine lv_aload_n hx hb dX10_undo_32 rfl (lv_at hl 0 rfl) ?_
    refine x_geti (ci := 10) C hw 10 (xoX_0 hX) rfl inlX10 (by decide) rfl rfl xw_1964 dX10_undo_33 ?_
    have c3 := h.1
    have h := h.2
    refine x_aald C hw (xoX_1 hX) (by decide) (by decide) c3 (xa_1 c3) dX10_undo_36 ?_
    refine x_callv hw (x_runV (ci := 1) C hw (m_X1_copyFrom l C.2.2.2.2.2.2.2.2.1 (xpL_83 hX) (xpL_m hX c3) h) (xoL_0 (xpL_83 hX)) rfl (x_gV xw_600 xw_601 xw_602 xw_15 xw_603) rfl rfl qX1_copyFrom ⟨(Nat.le_of_ble_eq_true rfl), (Nat.le_of_ble_eq_true rfl)⟩ rfl hl.1 rfl (Nat.le_of_ble_eq_true rfl) dX10_undo_37) (fun u4 H locs hw h => ?_)
    refine lv_aload_n hx hb dX10_undo_40 rfl (lv_at hl 0 rfl) ?_
    refine x_getr (ci := 10) C hw 1 (xoX_0 hX) rfl inlX10 (by decide) rfl rfl xrX_0_1 xw_20 dX10_undo_41 ?_
    refine lv_aload_n hx hb dX10_undo_44 rfl (lv_at hl 0 rfl) ?_
    refine x_getr (ci := 10) C hw 9 (xoX_0 hX) rfl inlX10 (by decide) rfl rfl xrX_0_9 xw_40 dX10_undo_45 ?_
    refine lv_aload_n hx hb dX10_undo_48 rfl (lv_at hl 0 rfl) ?_
    refine x_geti (ci := 10) C hw 10 (xoX_0 hX) rfl inlX10 (by decide) rfl rfl xw_1964 dX10_undo_49 ?_
    have c5 := h.1
    have h := h.2
    refine x_aald C hw (xoX_2 hX) (by decide) (by decide) c5 (xa_2 c5) dX10_undo_52 ?_
    refine x_callv hw (x_runV (ci := 4) C hw (m_X4_copyFrom l C.2.2.2.2.2.2.2.2.1 (xpN_58 hX) (xpN_m hX c5) h) (xoN_0 (xpN_58 hX)) rfl (x_gV xw_815 xw_816 xw_817 xw_19 xw_818) rfl rfl qX4_copyFrom ⟨(Nat.le_of_ble_eq_true rfl), (Nat.le_of_ble_eq_true rfl)⟩ rfl hl.1 rfl (Nat.le_of_ble_eq_true rfl) dX10_undo_53) (fun u6 H locs hw h => ?_)
    refine lv_aload_n hx hb dX10_undo_56 rfl (lv_at hl 0 rfl) ?_
    refine lv_aload_n hx hb dX10_undo_57 rfl (lv_at hl 0 rfl) ?_
    refine x_geti (ci := 10) C hw 10 (xoX_0 hX) rfl inlX10 (by decide) rfl rfl xw_1964 dX10_undo_58 ?_
    refine x_calli hw (x_runV (ci := 10) C hw (m_X10_fine l C.2.2.2.2.2.2.2.2.1 hX h) (xoX_0 hX) rfl (x_gV xw_622 xw_623 xw_624 xw_2 xw_625) rfl rfl qX10_fine ⟨(Nat.le_of_ble_eq_true rfl), (Nat.le_of_ble_eq_true rfl)⟩ rfl hl.1 rfl (Nat.le_of_ble_eq_true rfl) dX10_undo_61) (fun r8 u7 H locs hw h => ?_)
    exact x_iret C hw h dX10_undo_64
  · have h := h.2 c1
    refine lv_aload_n hx hb dX10_undo_7 rfl (lv_at hl 0 rfl) ?_
    refine lv_bipush (v := 6) hx hb dX10_undo_8 (by decide) ?_
    refine x_calli hw (x_runV (ci := 10) C hw (m_X10_none l C.2.2.2.2.2.2.2.2.1 hX h) (xoX_0 hX) rfl (x_gV xw_343 xw_344 xw_345 xw_2 xw_346) rfl rfl qX10_none ⟨(Nat.le_of_ble_eq_true rfl), (Nat.le_of_ble_eq_true rfl)⟩ rfl hl.1 rfl (Nat.le_of_ble_eq_true rfl) dX10_undo_10) (fun r10 u9 H locs hw h => ?_)
    exact x_iret C hw h dX10_undo_13
set_option maxHeartbeats 4000000 in
set_option maxRecDepth 100000 in
theorem m_X10_undo (l : Launch) {g : xG} (hD : x_D g) (hX : xpX g) {u : xM} {Qf : Int32 → xM → Prop} (h : p_X10_undo  u Qf) : Met l yX10_undo (Cond.code yX10_undo cX10_undo 1 (some .int) :: wsL_law) (x_rm 3 122) (va_Pc [.ref (xad g 0)] (x_B g u)) (x_Qi g Qf) 0 0 (x_A g) := by
  refine Met.ofW (cc := cX10_undo) (maxL := 1) (ret := (some .int)) (by decide) rfl ?_
  intro p e s m args below meth c s₁ B hml hv
  obtain ⟨rfl, hB⟩ := hv
  obtain ⟨C, hw⟩ := x_start B hml hD hB
  have hl := lv_entry [.ref (xad g 0)] (n := 1) (Nat.le_of_ble_eq_true rfl)
  rw [lg_entry_eq]
  exact s_X10_undo C hX hw hl h
set_option maxHeartbeats 4000000 in
set_option maxRecDepth 100000 in
theorem s_X11_plain_L26 {Qf : xM → Prop} (C : x_C p s m args meth c g RX11 cX11_plain 3 none) (hM : xpM g) : ∀ (nn : Nat) {v1 : Int32} {v2 : Int32} {u : xM} {H : Heap} {locs : List Loc} {ls : Array Slot} (hw : x_W g s.heap H locs u) (hl : lv_has ls 3 [(0, .ref (xad g 272)), (1, .int v1), (2, .int v2)]) (h : p_X11_plain_L26 Qf nn v1 v2 u), W p l e (x_rm 0 0) s m args below meth c H locs 0 0 (MQ below (x_Qv g Qf) args s 0 0 (x_A g)) (F0 m 26 ls []) := by
  intro nn
  induction nn with
  | zero => intro v1 v2 u H locs ls hw hl h; exact h.elim
  | succ nn ih =>
    intro v1 v2 u H locs ls hw hl h
    unfold p_X11_plain_L26 at h
    have hx := C.1
    have hb := C.2.1
    refine lv_iload_n hx hb dX11_plain_26 rfl (lv_at hl 2 rfl) ?_
    refine lv_bipush (v := 12) hx hb dX11_plain_27 (by decide) ?_
    refine lv_icmp_ge (tgt := 52) hx hb dX11_plain_29 (by decide) (fun c1 => ?_) (fun c1 => ?_)
    · have h := h.1 c1
      refine lv_aload_n hx hb dX11_plain_52 rfl (lv_at hl 0 rfl) ?_
      refine x_getr (ci := 11) C hw 0 (xoM_272 hM) rfl inlX11 (by decide) rfl rfl xrM_272_0 xw_219 dX11_plain_53 ?_
      refine lv_iload_n hx hb dX11_plain_56 rfl (lv_at hl 1 rfl) ?_
      refine lv_iconst (v := 4) hx hb dX11_plain_57 (by decide) ?_
      refine lv_iadd hx hb dX11_plain_58 ?_
      refine lv_iconst (v := -1) hx hb dX11_plain_59 (by decide) ?_
      have c2 := h.1
      have h := h.2
      obtain ⟨u3, eu3⟩ : ∃ q : xM, q = si u 273 (v1 + (4 : Int32)).toNatClampNeg (-1 : Int32) := ⟨_, rfl⟩
      have h := h u3 eu3
      refine x_iast C hw (xoM_273 hM) c2 dX11_plain_60 eu3 (fun H locs hw => ?_)
      exact x_vret C hw h dX11_plain_61
    · have h := h.2 c1
      refine lv_aload_n hx hb dX11_plain_32 rfl (lv_at hl 0 rfl) ?_
      refine x_getr (ci := 11) C hw 0 (xoM_272 hM) rfl inlX11 (by decide) rfl rfl xrM_272_0 xw_219 dX11_plain_33 ?_
      refine lv_iload_n hx hb dX11_plain_36 rfl (lv_at hl 1 rfl) ?_
      refine lv_sipush (v := 135) hx hb dX11_plain_37 (by decide) ?_
      refine lv_iadd hx hb dX11_plain_40 ?_
      refine lv_iload_n hx hb dX11_plain_41 rfl (lv_at hl 2 rfl) ?_
      refine lv_iadd hx hb dX11_plain_42 ?_
      refine lv_bipush (v := 10) hx hb dX11_plain_43 (by decide) ?_
      have c4 := h.1
      have h := h.2
      obtain ⟨u5, eu5⟩ : ∃ q : xM, q = si u 273 ((v1 + (135 : Int32)) + v2).toNatClampNeg (10 : Int32) := ⟨_, rfl⟩
      have h := h u5 eu5
      refine x_iast C hw (xoM_273 hM) c4 dX11_plain_45 eu5 (fun H locs hw => ?_)
      obtain ⟨x6, ex6⟩ : ∃ y : Int32, y = v2 + 1 := ⟨_, rfl⟩
      have h := h x6 ex6
      refine lv_iinc (v := x6) (lv' := [(2, .int x6), (0, .ref (xad g 272)), (1, .int v1)]) hx hb dX11_plain_46 hl (k := 2) rfl (by rw [ex6]; rfl) (by decide) rfl (fun ls hl => ?_)
      refine lv_goto (tgt := 26) hx hb dX11_plain_49 (by decide) ?_
      exact ih hw (lv_sub hl [1, 2, 0] rfl) h
set_option maxHeartbeats 4000000 in
set_option maxRecDepth 100000 in
theorem s_X11_plain_L2 {Qf : xM → Prop} (C : x_C p s m args meth c g RX11 cX11_plain 3 none) (hM : xpM g) : ∀ (nn : Nat) {v1 : Int32} {v2 : Int32} {u : xM} {H : Heap} {locs : List Loc} {ls : Array Slot} (hw : x_W g s.heap H locs u) (hl : lv_has ls 3 [(0, .ref (xad g 272)), (1, .int v1), (2, .int v2)]) (h : p_X11_plain_L2 Qf nn v1 v2 u), W p l e (x_rm 0 0) s m args below meth c H locs 0 0 (MQ below (x_Qv g Qf) args s 0 0 (x_A g)) (F0 m 2 ls []) := by
  intro nn
  induction nn with
  | zero => intro v1 v2 u H locs ls hw hl h; exact h.elim
  | succ nn ih =>
    intro v1 v2 u H locs ls hw hl h
    unfold p_X11_plain_L2 at h
    have hx := C.1
    have hb := C.2.1
    refine lv_iload_n hx hb dX11_plain_2 rfl (lv_at hl 2 rfl) ?_
    refine lv_sipush (v := 524) hx hb dX11_plain_3 (by decide) ?_
    refine lv_icmp_ge (tgt := 24) hx hb dX11_plain_6 (by decide) (fun c1 => ?_) (fun c1 => ?_)
    · have h := h.1 c1
      refine lv_iconst (v := 0) hx hb dX11_plain_24 (by decide) ?_
      refine lv_istore_n (lv' := [(2, .int 0), (0, .ref (xad g 272)), (1, .int v1)]) hx hb dX11_plain_25 rfl hl (by decide) rfl (fun ls hl => ?_)
      obtain ⟨n9, h⟩ := h
      exact s_X11_plain_L26 C hM n9 hw (lv_sub hl [1, 2, 0] rfl) h
    · have h := h.2 c1
      refine lv_aload_n hx hb dX11_plain_9 rfl (lv_at hl 0 rfl) ?_
      refine x_getr (ci := 11) C hw 0 (xoM_272 hM) rfl inlX11 (by decide) rfl rfl xrM_272_0 xw_219 dX11_plain_10 ?_
      refine lv_iload_n hx hb dX11_plain_13 rfl (lv_at hl 1 rfl) ?_
      refine lv_iload_n hx hb dX11_plain_14 rfl (lv_at hl 2 rfl) ?_
      refine lv_iadd hx hb dX11_plain_15 ?_
      refine lv_iconst (v := 0) hx hb dX11_plain_16 (by decide) ?_
      have c2 := h.1
      have h := h.2
      obtain ⟨u3, eu3⟩ : ∃ q : xM, q = si u 273 (v1 + v2).toNatClampNeg (0 : Int32) := ⟨_, rfl⟩
      have h := h u3 eu3
      refine x_iast C hw (xoM_273 hM) c2 dX11_plain_17 eu3 (fun H locs hw => ?_)
      obtain ⟨x4, ex4⟩ : ∃ y : Int32, y = v2 + 1 := ⟨_, rfl⟩
      have h := h x4 ex4
      refine lv_iinc (v := x4) (lv' := [(2, .int x4), (0, .ref (xad g 272)), (1, .int v1)]) hx hb dX11_plain_18 hl (k := 2) rfl (by rw [ex4]; rfl) (by decide) rfl (fun ls hl => ?_)
      refine lv_goto (tgt := 2) hx hb dX11_plain_21 (by decide) ?_
      exact ih hw (lv_sub hl [1, 2, 0] rfl) h
set_option maxHeartbeats 4000000 in
set_option maxRecDepth 100000 in
theorem s_X11_plain {Qf : xM → Prop} {a1 : Int32} (C : x_C p s m args meth c g RX11 cX11_plain 3 none) (hM : xpM g) {u : xM} {H : Heap} {locs : List Loc} {ls : Array Slot} (hw : x_W g s.heap H locs u) (hl : lv_has ls 3 [(0, .ref (xad g 272)), (1, .int a1)]) (h : p_X11_plain a1 u Qf) : W p l e (x_rm 0 0) s m args below meth c H locs 0 0 (MQ below (x_Qv g Qf) args s 0 0 (x_A g)) (F0 m 0 ls []) := by
  unfold p_X11_plain at h
  have hx := C.1
  have hb := C.2.1
  refine lv_iconst (v := 0) hx hb dX11_plain_0 (by decide) ?_
  refine lv_istore_n (lv' := [(2, .int 0), (0, .ref (xad g 272)), (1, .int a1)]) hx hb dX11_plain_1 rfl hl (by decide) rfl (fun ls hl => ?_)
  obtain ⟨n9, h⟩ := h
  exact s_X11_plain_L2 C hM n9 hw (lv_sub hl [1, 2, 0] rfl) h
set_option maxHeartbeats 4000000 in
set_option maxRecDepth 100000 in
theorem m_X11_plain (l : Launch) {g : xG} (hD : x_D g) (hM : xpM g) {a1 : Int32} {u : xM} {Qf : xM → Prop} (h : p_X11_plain a1 u Qf) : Met l yX11_plain (Cond.code yX11_plain cX11_plain 3 none :: wsL_law) (x_rm 0 0) (va_Pc [.ref (xad g 272), .int a1] (x_B g u)) (x_Qv g Qf) 0 0 (x_A g) := by
  refine Met.ofW (cc := cX11_plain) (maxL := 3) (ret := none) (by decide) rfl ?_
  intro p e s m args below meth c s₁ B hml hv
  obtain ⟨rfl, hB⟩ := hv
  obtain ⟨C, hw⟩ := x_start B hml hD hB
  have hl := lv_entry [.ref (xad g 272), .int a1] (n := 3) (Nat.le_of_ble_eq_true rfl)
  rw [lg_entry_eq]
  exact s_X11_plain C hM hw hl h
set_option maxHeartbeats 4000000 in
set_option maxRecDepth 100000 in
theorem s_X11_status {Qf : Int32 → xM → Prop} (C : x_C p s m args meth c g RX11 cX11_status 1 (some .int)) (hM : xpM g) {u : xM} {H : Heap} {locs : List Loc} {ls : Array Slot} (hw : x_W g s.heap H locs u) (hl : lv_has ls 1 [(0, .ref (xad g 272))]) (h : p_X11_status  u Qf) : W p l e (x_rm 0 0) s m args below meth c H locs 0 0 (MQ below (x_Qi g Qf) args s 0 0 (x_A g)) (F0 m 0 ls []) := by
  unfold p_X11_status at h
  have hx := C.1
  have hb := C.2.1
  refine lv_aload_n hx hb dX11_status_0 rfl (lv_at hl 0 rfl) ?_
  refine x_geti (ci := 11) C hw 2 (xoM_272 hM) rfl inlX11 (by decide) rfl rfl xw_253 dX11_status_1 ?_
  exact x_iret C hw h dX11_status_4
set_option maxHeartbeats 4000000 in
set_option maxRecDepth 100000 in
theorem m_X11_status (l : Launch) {g : xG} (hD : x_D g) (hM : xpM g) {u : xM} {Qf : Int32 → xM → Prop} (h : p_X11_status  u Qf) : Met l yX11_status (Cond.code yX11_status cX11_status 1 (some .int) :: wsL_law) (x_rm 0 0) (va_Pc [.ref (xad g 272)] (x_B g u)) (x_Qi g Qf) 0 0 (x_A g) := by
  refine Met.ofW (cc := cX11_status) (maxL := 1) (ret := (some .int)) (by decide) rfl ?_
  intro p e s m args below meth c s₁ B hml hv
  obtain ⟨rfl, hB⟩ := hv
  obtain ⟨C, hw⟩ := x_start B hml hD hB
  have hl := lv_entry [.ref (xad g 272)] (n := 1) (Nat.le_of_ble_eq_true rfl)
  rw [lg_entry_eq]
  exact s_X11_status C hM hw hl h
set_option maxHeartbeats 4000000 in
set_option maxRecDepth 100000 in
theorem s_X11_top {Qf : Int64 → xM → Prop} (C : x_C p s m args meth c g RX11 cX11_top 1 (some .long)) (hM : xpM g) {u : xM} {H : Heap} {locs : List Loc} {ls : Array Slot} (hw : x_W g s.heap H locs u) (hl : lv_has ls 1 [(0, .ref (xad g 272))]) (h : p_X11_top  u Qf) : W p l e (x_rm 0 0) s m args below meth c H locs 0 0 (MQ below (x_Ql g Qf) args s 0 0 (x_A g)) (F0 m 0 ls []) := by
  unfold p_X11_top at h
  have hx := C.1
  have hb := C.2.1
  refine lv_aload_n hx hb dX11_top_0 rfl (lv_at hl 0 rfl) ?_
  refine x_getl (ci := 11) C hw 3 (xoM_272 hM) rfl inlX11 (by decide) rfl rfl xw_263 dX11_top_1 ?_
  exact x_lret C hw h dX11_top_4
set_option maxHeartbeats 4000000 in
set_option maxRecDepth 100000 in
theorem m_X11_top (l : Launch) {g : xG} (hD : x_D g) (hM : xpM g) {u : xM} {Qf : Int64 → xM → Prop} (h : p_X11_top  u Qf) : Met l yX11_top (Cond.code yX11_top cX11_top 1 (some .long) :: wsL_law) (x_rm 0 0) (va_Pc [.ref (xad g 272)] (x_B g u)) (x_Ql g Qf) 0 0 (x_A g) := by
  refine Met.ofW (cc := cX11_top) (maxL := 1) (ret := (some .long)) (by decide) rfl ?_
  intro p e s m args below meth c s₁ B hml hv
  obtain ⟨rfl, hB⟩ := hv
  obtain ⟨C, hw⟩ := x_start B hml hD hB
  have hl := lv_entry [.ref (xad g 272)] (n := 1) (Nat.le_of_ble_eq_true rfl)
  rw [lg_entry_eq]
  exact s_X11_top C hM hw hl h
set_option maxHeartbeats 4000000 in
set_option maxRecDepth 100000 in
theorem s_X11_bottom {Qf : Int64 → xM → Prop} (C : x_C p s m args meth c g RX11 cX11_bottom 1 (some .long)) (hM : xpM g) {u : xM} {H : Heap} {locs : List Loc} {ls : Array Slot} (hw : x_W g s.heap H locs u) (hl : lv_has ls 1 [(0, .ref (xad g 272))]) (h : p_X11_bottom  u Qf) : W p l e (x_rm 0 0) s m args below meth c H locs 0 0 (MQ below (x_Ql g Qf) args s 0 0 (x_A g)) (F0 m 0 ls []) := by
  unfold p_X11_bottom at h
  have hx := C.1
  have hb := C.2.1
  refine lv_aload_n hx hb dX11_bottom_0 rfl (lv_at hl 0 rfl) ?_
  refine x_getl (ci := 11) C hw 4 (xoM_272 hM) rfl inlX11 (by decide) rfl rfl xw_221 dX11_bottom_1 ?_
  exact x_lret C hw h dX11_bottom_4
set_option maxHeartbeats 4000000 in
set_option maxRecDepth 100000 in
theorem m_X11_bottom (l : Launch) {g : xG} (hD : x_D g) (hM : xpM g) {u : xM} {Qf : Int64 → xM → Prop} (h : p_X11_bottom  u Qf) : Met l yX11_bottom (Cond.code yX11_bottom cX11_bottom 1 (some .long) :: wsL_law) (x_rm 0 0) (va_Pc [.ref (xad g 272)] (x_B g u)) (x_Ql g Qf) 0 0 (x_A g) := by
  refine Met.ofW (cc := cX11_bottom) (maxL := 1) (ret := (some .long)) (by decide) rfl ?_
  intro p e s m args below meth c s₁ B hml hv
  obtain ⟨rfl, hB⟩ := hv
  obtain ⟨C, hw⟩ := x_start B hml hD hB
  have hl := lv_entry [.ref (xad g 272)] (n := 1) (Nat.le_of_ble_eq_true rfl)
  rw [lg_entry_eq]
  exact s_X11_bottom C hM hw hl h
set_option maxHeartbeats 4000000 in
set_option maxRecDepth 100000 in
theorem s_X11_is {Qf : Bool → xM → Prop} {a1 : Int32} (C : x_C p s m args meth c g RX11 cX11_is 2 (some .boolean)) (hM : xpM g) {u : xM} {H : Heap} {locs : List Loc} {ls : Array Slot} (hw : x_W g s.heap H locs u) (hl : lv_has ls 2 [(0, .ref (xad g 272)), (1, .int a1)]) (h : p_X11_is a1 u Qf) : W p l e (x_rm 0 0) s m args below meth c H locs 0 0 (MQ below (x_Qz g Qf) args s 0 0 (x_A g)) (F0 m 0 ls []) := by
  unfold p_X11_is at h
  have hx := C.1
  have hb := C.2.1
  refine lv_aload_n hx hb dX11_is_0 rfl (lv_at hl 0 rfl) ?_
  refine lv_iload_n hx hb dX11_is_1 rfl (lv_at hl 1 rfl) ?_
  obtain ⟨u1, eu1⟩ : ∃ q : xM, q = si u 272 2 a1 := ⟨_, rfl⟩
  have h := h u1 eu1
  refine x_puti (ci := 11) (ty := .int) C hw 2 (xoM_272 hM) rfl inlX11 tyX11_ok nmX11 (by decide) rfl rfl xw_253 rfl (by decide +kernel) rfl rfl dX11_is_2 eu1 (fun H locs hw => ?_)
  refine lv_iload_n hx hb dX11_is_5 rfl (lv_at hl 1 rfl) ?_
  refine lv_if_ne (tgt := 13) hx hb dX11_is_6 (by decide) (fun c2 => ?_) (fun c2 => ?_)
  · have h := h.1 c2
    refine lv_iconst (v := 0) hx hb dX11_is_13 (by decide) ?_
    exact x_zret false C hw h rfl dX11_is_14
  · have h := h.2 c2
    refine lv_iconst (v := 1) hx hb dX11_is_9 (by decide) ?_
    refine lv_goto (tgt := 14) hx hb dX11_is_10 (by decide) ?_
    exact x_zret true C hw h rfl dX11_is_14
set_option maxHeartbeats 4000000 in
set_option maxRecDepth 100000 in
theorem m_X11_is (l : Launch) {g : xG} (hD : x_D g) (hM : xpM g) {a1 : Int32} {u : xM} {Qf : Bool → xM → Prop} (h : p_X11_is a1 u Qf) : Met l yX11_is (Cond.code yX11_is cX11_is 2 (some .boolean) :: wsL_law) (x_rm 0 0) (va_Pc [.ref (xad g 272), .int a1] (x_B g u)) (x_Qz g Qf) 0 0 (x_A g) := by
  refine Met.ofW (cc := cX11_is) (maxL := 2) (ret := (some .boolean)) (by decide) rfl ?_
  intro p e s m args below meth c s₁ B hml hv
  obtain ⟨rfl, hB⟩ := hv
  obtain ⟨C, hw⟩ := x_start B hml hD hB
  have hl := lv_entry [.ref (xad g 272), .int a1] (n := 2) (Nat.le_of_ble_eq_true rfl)
  rw [lg_entry_eq]
  exact s_X11_is C hM hw hl h
set_option maxHeartbeats 4000000 in
set_option maxRecDepth 100000 in
theorem s_X11_refuse {Qf : Int32 → xM → Prop} {a1 : Int32} (C : x_C p s m args meth c g RX11 cX11_refuse 2 (some .int)) (hM : xpM g) {u : xM} {H : Heap} {locs : List Loc} {ls : Array Slot} (hw : x_W g s.heap H locs u) (hl : lv_has ls 2 [(0, .ref (xad g 272)), (1, .int a1)]) (h : p_X11_refuse a1 u Qf) : W p l e (x_rm 0 0) s m args below meth c H locs 0 0 (MQ below (x_Qi g Qf) args s 0 0 (x_A g)) (F0 m 0 ls []) := by
  unfold p_X11_refuse at h
  have hx := C.1
  have hb := C.2.1
  refine lv_aload_n hx hb dX11_refuse_0 rfl (lv_at hl 0 rfl) ?_
  refine lv_iload_n hx hb dX11_refuse_1 rfl (lv_at hl 1 rfl) ?_
  obtain ⟨u1, eu1⟩ : ∃ q : xM, q = si u 272 2 a1 := ⟨_, rfl⟩
  have h := h u1 eu1
  refine x_puti (ci := 11) (ty := .int) C hw 2 (xoM_272 hM) rfl inlX11 tyX11_ok nmX11 (by decide) rfl rfl xw_253 rfl (by decide +kernel) rfl rfl dX11_refuse_2 eu1 (fun H locs hw => ?_)
  refine lv_iconst (v := -1) hx hb dX11_refuse_5 (by decide) ?_
  exact x_iret C hw h dX11_refuse_6
set_option maxHeartbeats 4000000 in
set_option maxRecDepth 100000 in
theorem m_X11_refuse (l : Launch) {g : xG} (hD : x_D g) (hM : xpM g) {a1 : Int32} {u : xM} {Qf : Int32 → xM → Prop} (h : p_X11_refuse a1 u Qf) : Met l yX11_refuse (Cond.code yX11_refuse cX11_refuse 2 (some .int) :: wsL_law) (x_rm 0 0) (va_Pc [.ref (xad g 272), .int a1] (x_B g u)) (x_Qi g Qf) 0 0 (x_A g) := by
  refine Met.ofW (cc := cX11_refuse) (maxL := 2) (ret := (some .int)) (by decide) rfl ?_
  intro p e s m args below meth c s₁ B hml hv
  obtain ⟨rfl, hB⟩ := hv
  obtain ⟨C, hw⟩ := x_start B hml hD hB
  have hl := lv_entry [.ref (xad g 272), .int a1] (n := 2) (Nat.le_of_ble_eq_true rfl)
  rw [lg_entry_eq]
  exact s_X11_refuse C hM hw hl h
set_option maxHeartbeats 4000000 in
set_option maxRecDepth 100000 in
theorem s_X11_gives {Qf : Int32 → xM → Prop} {a1 : Int32} (C : x_C p s m args meth c g RX11 cX11_gives 2 (some .int)) (hM : xpM g) {u : xM} {H : Heap} {locs : List Loc} {ls : Array Slot} (hw : x_W g s.heap H locs u) (hl : lv_has ls 2 [(0, .ref (xad g 272)), (1, .int a1)]) (h : p_X11_gives a1 u Qf) : W p l e (x_rm 0 0) s m args below meth c H locs 0 0 (MQ below (x_Qi g Qf) args s 0 0 (x_A g)) (F0 m 0 ls []) := by
  unfold p_X11_gives at h
  have hx := C.1
  have hb := C.2.1
  refine lv_aload_n hx hb dX11_gives_0 rfl (lv_at hl 0 rfl) ?_
  refine lv_iconst (v := 0) hx hb dX11_gives_1 (by decide) ?_
  obtain ⟨u1, eu1⟩ : ∃ q : xM, q = si u 272 2 (0 : Int32) := ⟨_, rfl⟩
  have h := h u1 eu1
  refine x_puti (ci := 11) (ty := .int) C hw 2 (xoM_272 hM) rfl inlX11 tyX11_ok nmX11 (by decide) rfl rfl xw_253 rfl (by decide +kernel) rfl rfl dX11_gives_2 eu1 (fun H locs hw => ?_)
  refine lv_iload_n hx hb dX11_gives_5 rfl (lv_at hl 1 rfl) ?_
  exact x_iret C hw h dX11_gives_6
set_option maxHeartbeats 4000000 in
set_option maxRecDepth 100000 in
theorem m_X11_gives (l : Launch) {g : xG} (hD : x_D g) (hM : xpM g) {a1 : Int32} {u : xM} {Qf : Int32 → xM → Prop} (h : p_X11_gives a1 u Qf) : Met l yX11_gives (Cond.code yX11_gives cX11_gives 2 (some .int) :: wsL_law) (x_rm 0 0) (va_Pc [.ref (xad g 272), .int a1] (x_B g u)) (x_Qi g Qf) 0 0 (x_A g) := by
  refine Met.ofW (cc := cX11_gives) (maxL := 2) (ret := (some .int)) (by decide) rfl ?_
  intro p e s m args below meth c s₁ B hml hv
  obtain ⟨rfl, hB⟩ := hv
  obtain ⟨C, hw⟩ := x_start B hml hD hB
  have hl := lv_entry [.ref (xad g 272), .int a1] (n := 2) (Nat.le_of_ble_eq_true rfl)
  rw [lg_entry_eq]
  exact s_X11_gives C hM hw hl h
set_option maxHeartbeats 4000000 in
set_option maxRecDepth 100000 in
theorem s_X11_orNone {Qf : Int32 → xM → Prop} {a1 : Int32} (C : x_C p s m args meth c g RX11 cX11_orNone 2 (some .int)) (hM : xpM g) {u : xM} {H : Heap} {locs : List Loc} {ls : Array Slot} (hw : x_W g s.heap H locs u) (hl : lv_has ls 2 [(0, .ref (xad g 272)), (1, .int a1)]) (h : p_X11_orNone a1 u Qf) : W p l e (x_rm 1 21) s m args below meth c H locs 0 0 (MQ below (x_Qi g Qf) args s 0 0 (x_A g)) (F0 m 0 ls []) := by
  unfold p_X11_orNone at h
  have hx := C.1
  have hb := C.2.1
  refine lv_iload_n hx hb dX11_orNone_0 rfl (lv_at hl 1 rfl) ?_
  refine lv_iconst (v := -1) hx hb dX11_orNone_1 (by decide) ?_
  refine lv_icmp_ne (tgt := 14) hx hb dX11_orNone_2 (by decide) (fun c1 => ?_) (fun c1 => ?_)
  · have h := h.1 c1
    refine lv_aload_n hx hb dX11_orNone_14 rfl (lv_at hl 0 rfl) ?_
    refine lv_iload_n hx hb dX11_orNone_15 rfl (lv_at hl 1 rfl) ?_
    refine x_calli hw (x_runV (ci := 11) C hw (m_X11_gives l C.2.2.2.2.2.2.2.2.1 hM h) (xoM_272 hM) rfl (x_gV xw_731 xw_732 xw_733 xw_5 xw_734) rfl rfl qX11_gives ⟨(Nat.le_of_ble_eq_true rfl), (Nat.le_of_ble_eq_true rfl)⟩ rfl hl.1 rfl (Nat.le_of_ble_eq_true rfl) dX11_orNone_16) (fun r3 u2 H locs hw h => ?_)
    exact x_iret C hw h dX11_orNone_19
  · have h := h.2 c1
    refine lv_aload_n hx hb dX11_orNone_5 rfl (lv_at hl 0 rfl) ?_
    refine lv_bipush (v := 6) hx hb dX11_orNone_6 (by decide) ?_
    refine x_calli hw (x_runV (ci := 11) C hw (m_X11_refuse l C.2.2.2.2.2.2.2.2.1 hM h) (xoM_272 hM) rfl (x_gV xw_657 xw_658 xw_659 xw_5 xw_660) rfl rfl qX11_refuse ⟨(Nat.le_of_ble_eq_true rfl), (Nat.le_of_ble_eq_true rfl)⟩ rfl hl.1 rfl (Nat.le_of_ble_eq_true rfl) dX11_orNone_8) (fun r5 u4 H locs hw h => ?_)
    refine lv_goto (tgt := 19) hx hb dX11_orNone_11 (by decide) ?_
    exact x_iret C hw h dX11_orNone_19
set_option maxHeartbeats 4000000 in
set_option maxRecDepth 100000 in
theorem m_X11_orNone (l : Launch) {g : xG} (hD : x_D g) (hM : xpM g) {a1 : Int32} {u : xM} {Qf : Int32 → xM → Prop} (h : p_X11_orNone a1 u Qf) : Met l yX11_orNone (Cond.code yX11_orNone cX11_orNone 2 (some .int) :: wsL_law) (x_rm 1 21) (va_Pc [.ref (xad g 272), .int a1] (x_B g u)) (x_Qi g Qf) 0 0 (x_A g) := by
  refine Met.ofW (cc := cX11_orNone) (maxL := 2) (ret := (some .int)) (by decide) rfl ?_
  intro p e s m args below meth c s₁ B hml hv
  obtain ⟨rfl, hB⟩ := hv
  obtain ⟨C, hw⟩ := x_start B hml hD hB
  have hl := lv_entry [.ref (xad g 272), .int a1] (n := 2) (Nat.le_of_ble_eq_true rfl)
  rw [lg_entry_eq]
  exact s_X11_orNone C hM hw hl h
set_option maxHeartbeats 4000000 in
set_option maxRecDepth 100000 in
theorem s_X11_tellsBy_L9 {Qf : Bool → xM → Prop} (C : x_C p s m args meth c g RX11 cX11_tellsBy 11 (some .boolean)) (hM : xpM g) : ∀ (nn : Nat) {v1 : Int64} {v3 : Int64} {v5 : Int64} {v7 : Int64} {u : xM} {H : Heap} {locs : List Loc} {ls : Array Slot} (hw : x_W g s.heap H locs u) (hl : lv_has ls 11 [(0, .ref (xad g 272)), (1, .long v1), (3, .long v3), (5, .long v5), (7, .long v7)]) (h : p_X11_tellsBy_L9 Qf nn v1 v3 v5 v7 u), W p l e (x_rm 1 80) s m args below meth c H locs 0 0 (MQ below (x_Qz g Qf) args s 0 0 (x_A g)) (F0 m 9 ls []) := by
  intro nn
  induction nn with
  | zero => intro v1 v3 v5 v7 u H locs ls hw hl h; exact h.elim
  | succ nn ih =>
    intro v1 v3 v5 v7 u H locs ls hw hl h
    unfold p_X11_tellsBy_L9 at h
    have hx := C.1
    have hb := C.2.1
    refine lv_lload hx hb dX11_tellsBy_9 (lv_at hl 4 rfl) ?_
    refine lv_lconst (v := 0) hx hb dX11_tellsBy_11 (by decide) ?_
    refine W.lcmp hx hb dX11_tellsBy_12 ?_
    refine lv_if_eq (tgt := 34) hx hb dX11_tellsBy_13 (by decide) (fun c1 => ?_) (fun c1 => ?_)
    · have h := h.1 c1
      refine lv_aload_n hx hb dX11_tellsBy_34 rfl (lv_at hl 0 rfl) ?_
      refine lv_lload_n hx hb dX11_tellsBy_35 rfl (lv_at hl 1 rfl) ?_
      refine lv_lload hx hb dX11_tellsBy_36 (lv_at hl 3 rfl) ?_
      have c2 := h.1
      have h := h.2
      refine lv_ldiv hx hb dX11_tellsBy_38 c2 ?_
      obtain ⟨u3, eu3⟩ : ∃ q : xM, q = sl u 272 3 (v1 / v5) := ⟨_, rfl⟩
      have h := h u3 eu3
      refine x_putl (ci := 11) C hw 3 (xoM_272 hM) rfl inlX11 tyX11_ok nmX11 (by decide) rfl rfl xw_263 rfl (by decide +kernel) dX11_tellsBy_39 eu3 (fun H locs hw => ?_)
      refine lv_aload_n hx hb dX11_tellsBy_42 rfl (lv_at hl 0 rfl) ?_
      refine lv_lload_n hx hb dX11_tellsBy_43 rfl (lv_at hl 2 rfl) ?_
      refine lv_lload hx hb dX11_tellsBy_44 (lv_at hl 3 rfl) ?_
      have c4 := h.1
      have h := h.2
      refine lv_ldiv hx hb dX11_tellsBy_46 c4 ?_
      obtain ⟨u5, eu5⟩ : ∃ q : xM, q = sl u3 272 4 (v3 / v5) := ⟨_, rfl⟩
      have h := h u5 eu5
      refine x_putl (ci := 11) C hw 4 (xoM_272 hM) rfl inlX11 tyX11_ok nmX11 (by decide) rfl rfl xw_221 rfl (by decide +kernel) dX11_tellsBy_47 eu5 (fun H locs hw => ?_)
      refine lv_aload_n hx hb dX11_tellsBy_50 rfl (lv_at hl 0 rfl) ?_
      refine lv_iconst (v := 0) hx hb dX11_tellsBy_51 (by decide) ?_
      refine x_callz hw (x_runV (ci := 11) C hw (m_X11_is l C.2.2.2.2.2.2.2.2.1 hM h) (xoM_272 hM) rfl (x_gV xw_303 xw_304 xw_305 xw_5 xw_306) rfl rfl qX11_is ⟨(Nat.le_of_ble_eq_true rfl), (Nat.le_of_ble_eq_true rfl)⟩ rfl hl.1 rfl (Nat.le_of_ble_eq_true rfl) dX11_tellsBy_52) (fun r7 u6 H locs hw h => ?_)
      exact x_zret _ C hw h rfl dX11_tellsBy_55
    · have h := h.2 c1
      refine lv_lload hx hb dX11_tellsBy_16 (lv_at hl 3 rfl) ?_
      refine lv_lload hx hb dX11_tellsBy_18 (lv_at hl 4 rfl) ?_
      have c8 := h.1
      have h := h.2
      refine lv_lrem hx hb dX11_tellsBy_20 c8 ?_
      refine lv_topl (fun x9 ex9 => ?_)
      have h := h x9 ex9
      refine lv_lstore (lv' := [(9, .long x9), (0, .ref (xad g 272)), (1, .long v1), (3, .long v3), (5, .long v5), (7, .long v7)]) hx hb dX11_tellsBy_21 hl (by decide) rfl (fun ls hl => ?_)
      refine lv_lload hx hb dX11_tellsBy_23 (lv_at hl 5 rfl) ?_
      refine lv_lstore (lv' := [(5, .long v7), (9, .long x9), (0, .ref (xad g 272)), (1, .long v1), (3, .long v3), (7, .long v7)]) hx hb dX11_tellsBy_25 hl (by decide) rfl (fun ls hl => ?_)
      refine lv_lload hx hb dX11_tellsBy_27 (lv_at hl 1 rfl) ?_
      refine lv_lstore (lv' := [(7, .long x9), (5, .long v7), (9, .long x9), (0, .ref (xad g 272)), (1, .long v1), (3, .long v3)]) hx hb dX11_tellsBy_29 hl (by decide) rfl (fun ls hl => ?_)
      refine lv_goto (tgt := 9) hx hb dX11_tellsBy_31 (by decide) ?_
      exact ih hw (lv_sub hl [3, 4, 5, 1, 0] rfl) h
set_option maxHeartbeats 4000000 in
set_option maxRecDepth 100000 in
theorem s_X11_tellsBy {Qf : Bool → xM → Prop} {a1 : Int64} {a2 : Int64} (C : x_C p s m args meth c g RX11 cX11_tellsBy 11 (some .boolean)) (hM : xpM g) {u : xM} {H : Heap} {locs : List Loc} {ls : Array Slot} (hw : x_W g s.heap H locs u) (hl : lv_has ls 11 [(0, .ref (xad g 272)), (1, .long a1), (3, .long a2)]) (h : p_X11_tellsBy a1 a2 u Qf) : W p l e (x_rm 1 80) s m args below meth c H locs 0 0 (MQ below (x_Qz g Qf) args s 0 0 (x_A g)) (F0 m 0 ls []) := by
  unfold p_X11_tellsBy at h
  have hx := C.1
  have hb := C.2.1
  refine lv_lload_n hx hb dX11_tellsBy_0 rfl (lv_at hl 1 rfl) ?_
  refine x_mabsl C hl.1 xw_1758 (Nat.le_of_ble_eq_true rfl) (Nat.le_of_ble_eq_true rfl) dX11_tellsBy_1 ?_
  refine lv_topl (fun x1 ex1 => ?_)
  have h := h x1 ex1
  refine lv_lstore (lv' := [(5, .long x1), (0, .ref (xad g 272)), (1, .long a1), (3, .long a2)]) hx hb dX11_tellsBy_4 hl (by decide) rfl (fun ls hl => ?_)
  refine lv_lload_n hx hb dX11_tellsBy_6 rfl (lv_at hl 3 rfl) ?_
  refine lv_lstore (lv' := [(7, .long a2), (5, .long x1), (0, .ref (xad g 272)), (1, .long a1), (3, .long a2)]) hx hb dX11_tellsBy_7 hl (by decide) rfl (fun ls hl => ?_)
  obtain ⟨n9, h⟩ := h
  exact s_X11_tellsBy_L9 C hM n9 hw (lv_sub hl [2, 3, 4, 1, 0] rfl) h
set_option maxHeartbeats 4000000 in
set_option maxRecDepth 100000 in
theorem m_X11_tellsBy (l : Launch) {g : xG} (hD : x_D g) (hM : xpM g) {a1 : Int64} {a2 : Int64} {u : xM} {Qf : Bool → xM → Prop} (h : p_X11_tellsBy a1 a2 u Qf) : Met l yX11_tellsBy (Cond.code yX11_tellsBy cX11_tellsBy 11 (some .boolean) :: wsL_law) (x_rm 1 80) (va_Pc [.ref (xad g 272), .long a1, .long a2] (x_B g u)) (x_Qz g Qf) 0 0 (x_A g) := by
  refine Met.ofW (cc := cX11_tellsBy) (maxL := 11) (ret := (some .boolean)) (by decide) rfl ?_
  intro p e s m args below meth c s₁ B hml hv
  obtain ⟨rfl, hB⟩ := hv
  obtain ⟨C, hw⟩ := x_start B hml hD hB
  have hl := lv_entry [.ref (xad g 272), .long a1, .long a2] (n := 11) (Nat.le_of_ble_eq_true rfl)
  rw [lg_entry_eq]
  exact s_X11_tellsBy C hM hw hl h
set_option maxHeartbeats 4000000 in
set_option maxRecDepth 100000 in
theorem s_X11_isTray {Qf : Bool → xM → Prop} {a1 : Int32} (C : x_C p s m args meth c g RX11 cX11_isTray 1 (some .boolean)) {u : xM} {H : Heap} {locs : List Loc} {ls : Array Slot} (hw : x_W g s.heap H locs u) (hl : lv_has ls 1 [(0, .int a1)]) (h : p_X11_isTray a1 u Qf) : W p l e (x_rm 0 0) s m args below meth c H locs 0 0 (MQ below (x_Qz g Qf) args s 0 0 (x_A g)) (F0 m 0 ls []) := by
  unfold p_X11_isTray at h
  have hx := C.1
  have hb := C.2.1
  refine lv_iload_n hx hb dX11_isTray_0 rfl (lv_at hl 0 rfl) ?_
  refine lv_if_lt (tgt := 13) hx hb dX11_isTray_1 (by decide) (fun c1 => ?_) (fun c1 => ?_)
  · have h := h.1 c1
    refine lv_iconst (v := 0) hx hb dX11_isTray_13 (by decide) ?_
    exact x_zret false C hw h rfl dX11_isTray_14
  · have h := h.2 c1
    refine lv_iload_n hx hb dX11_isTray_4 rfl (lv_at hl 0 rfl) ?_
    refine lv_iconst (v := 4) hx hb dX11_isTray_5 (by decide) ?_
    refine lv_icmp_ge (tgt := 13) hx hb dX11_isTray_6 (by decide) (fun c2 => ?_) (fun c2 => ?_)
    · have h := h.1 c2
      refine lv_iconst (v := 0) hx hb dX11_isTray_13 (by decide) ?_
      exact x_zret false C hw h rfl dX11_isTray_14
    · have h := h.2 c2
      refine lv_iconst (v := 1) hx hb dX11_isTray_9 (by decide) ?_
      refine lv_goto (tgt := 14) hx hb dX11_isTray_10 (by decide) ?_
      exact x_zret true C hw h rfl dX11_isTray_14
set_option maxHeartbeats 4000000 in
set_option maxRecDepth 100000 in
theorem m_X11_isTray (l : Launch) {g : xG} (hD : x_D g) {a1 : Int32} {u : xM} {Qf : Bool → xM → Prop} (h : p_X11_isTray a1 u Qf) : Met l yX11_isTray (Cond.code yX11_isTray cX11_isTray 1 (some .boolean) :: wsL_law) (x_rm 0 0) (va_Pc [.int a1] (x_B g u)) (x_Qz g Qf) 0 0 (x_A g) := by
  refine Met.ofW (cc := cX11_isTray) (maxL := 1) (ret := (some .boolean)) (by decide) rfl ?_
  intro p e s m args below meth c s₁ B hml hv
  obtain ⟨rfl, hB⟩ := hv
  obtain ⟨C, hw⟩ := x_start B hml hD hB
  have hl := lv_entry [.int a1] (n := 1) (Nat.le_of_ble_eq_true rfl)
  rw [lg_entry_eq]
  exact s_X11_isTray C hw hl h
set_option maxHeartbeats 4000000 in
set_option maxRecDepth 100000 in
theorem s_X11_cut {Qf : Int64 → xM → Prop} {a1 : Int64} {a2 : Int32} (C : x_C p s m args meth c g RX11 cX11_cut 3 (some .long)) {u : xM} {H : Heap} {locs : List Loc} {ls : Array Slot} (hw : x_W g s.heap H locs u) (hl : lv_has ls 3 [(0, .long a1), (2, .int a2)]) (h : p_X11_cut a1 a2 u Qf) : W p l e (x_rm 0 0) s m args below meth c H locs 0 0 (MQ below (x_Ql g Qf) args s 0 0 (x_A g)) (F0 m 0 ls []) := by
  unfold p_X11_cut at h
  have hx := C.1
  have hb := C.2.1
  refine lv_iload_n hx hb dX11_cut_0 rfl (lv_at hl 1 rfl) ?_
  refine lv_if_ne (tgt := 11) hx hb dX11_cut_1 (by decide) (fun c1 => ?_) (fun c1 => ?_)
  · have h := h.1 c1
    refine lv_iload_n hx hb dX11_cut_11 rfl (lv_at hl 1 rfl) ?_
    refine lv_iconst (v := 1) hx hb dX11_cut_12 (by decide) ?_
    refine lv_icmp_ne (tgt := 23) hx hb dX11_cut_13 (by decide) (fun c2 => ?_) (fun c2 => ?_)
    · have h := h.1 c2
      refine lv_iload_n hx hb dX11_cut_23 rfl (lv_at hl 1 rfl) ?_
      refine lv_iconst (v := 2) hx hb dX11_cut_24 (by decide) ?_
      refine lv_icmp_ne (tgt := 34) hx hb dX11_cut_25 (by decide) (fun c3 => ?_) (fun c3 => ?_)
      · have h := h.1 c3
        refine lv_lload_n hx hb dX11_cut_34 rfl (lv_at hl 0 rfl) ?_
        exact x_lret C hw h dX11_cut_35
      · have h := h.2 c3
        refine lv_lload_n hx hb dX11_cut_28 rfl (lv_at hl 0 rfl) ?_
        refine lv_l2i hx hb dX11_cut_29 rfl ?_
        refine lv_i2l hx hb dX11_cut_30 rfl ?_
        refine lv_goto (tgt := 35) hx hb dX11_cut_31 (by decide) ?_
        exact x_lret C hw h dX11_cut_35
    · have h := h.2 c2
      refine lv_lload_n hx hb dX11_cut_16 rfl (lv_at hl 0 rfl) ?_
      refine lv_l2i hx hb dX11_cut_17 rfl ?_
      refine lv_i2s hx hb dX11_cut_18 rfl ?_
      refine lv_i2l hx hb dX11_cut_19 rfl ?_
      refine lv_goto (tgt := 35) hx hb dX11_cut_20 (by decide) ?_
      exact x_lret C hw h dX11_cut_35
  · have h := h.2 c1
    refine lv_lload_n hx hb dX11_cut_4 rfl (lv_at hl 0 rfl) ?_
    refine lv_l2i hx hb dX11_cut_5 rfl ?_
    refine lv_i2b hx hb dX11_cut_6 rfl ?_
    refine lv_i2l hx hb dX11_cut_7 rfl ?_
    refine lv_goto (tgt := 35) hx hb dX11_cut_8 (by decide) ?_
    exact x_lret C hw h dX11_cut_35
set_option maxHeartbeats 4000000 in
set_option maxRecDepth 100000 in
theorem m_X11_cut (l : Launch) {g : xG} (hD : x_D g) {a1 : Int64} {a2 : Int32} {u : xM} {Qf : Int64 → xM → Prop} (h : p_X11_cut a1 a2 u Qf) : Met l yX11_cut (Cond.code yX11_cut cX11_cut 3 (some .long) :: wsL_law) (x_rm 0 0) (va_Pc [.long a1, .int a2] (x_B g u)) (x_Ql g Qf) 0 0 (x_A g) := by
  refine Met.ofW (cc := cX11_cut) (maxL := 3) (ret := (some .long)) (by decide) rfl ?_
  intro p e s m args below meth c s₁ B hml hv
  obtain ⟨rfl, hB⟩ := hv
  obtain ⟨C, hw⟩ := x_start B hml hD hB
  have hl := lv_entry [.long a1, .int a2] (n := 3) (Nat.le_of_ble_eq_true rfl)
  rw [lg_entry_eq]
  exact s_X11_cut C hw hl h
set_option maxHeartbeats 4000000 in
set_option maxRecDepth 100000 in
theorem s_X11_tray_L49 {Qf : Bool → xM → Prop} (C : x_C p s m args meth c g RX11 cX11_tray 5 (some .boolean)) (hM : xpM g) : ∀ (nn : Nat) {v1 : Int32} {v3 : Int32} {v4 : Int32} {u : xM} {H : Heap} {locs : List Loc} {ls : Array Slot} (hw : x_W g s.heap H locs u) (hl : lv_has ls 5 [(0, .ref (xad g 272)), (1, .int v1), (3, .int v3), (4, .int v4)]) (h : p_X11_tray_L49 Qf nn v1 v3 v4 u), W p l e (x_rm 1 21) s m args below meth c H locs 0 0 (MQ below (x_Qz g Qf) args s 0 0 (x_A g)) (F0 m 49 ls []) := by
  intro nn
  induction nn with
  | zero => intro v1 v3 v4 u H locs ls hw hl h; exact h.elim
  | succ nn ih =>
    intro v1 v3 v4 u H locs ls hw hl h
    unfold p_X11_tray_L49 at h
    have hx := C.1
    have hb := C.2.1
    refine lv_iload hx hb dX11_tray_49 (lv_at hl 3 rfl) ?_
    refine lv_iload_n hx hb dX11_tray_51 rfl (lv_at hl 2 rfl) ?_
    refine lv_icmp_ge (tgt := 74) hx hb dX11_tray_52 (by decide) (fun c1 => ?_) (fun c1 => ?_)
    · have h := h.1 c1
      refine lv_aload_n hx hb dX11_tray_74 rfl (lv_at hl 0 rfl) ?_
      refine lv_iconst (v := 0) hx hb dX11_tray_75 (by decide) ?_
      refine x_callz hw (x_runV (ci := 11) C hw (m_X11_is l C.2.2.2.2.2.2.2.2.1 hM h) (xoM_272 hM) rfl (x_gV xw_303 xw_304 xw_305 xw_5 xw_306) rfl rfl qX11_is ⟨(Nat.le_of_ble_eq_true rfl), (Nat.le_of_ble_eq_true rfl)⟩ rfl hl.1 rfl (Nat.le_of_ble_eq_true rfl) dX11_tray_76) (fun r3 u2 H locs hw h => ?_)
      exact x_zret _ C hw h rfl dX11_tray_79
    · have h := h.2 c1
      refine lv_aload_n hx hb dX11_tray_55 rfl (lv_at hl 0 rfl) ?_
      refine x_getr (ci := 11) C hw 7 (xoM_272 hM) rfl inlX11 (by decide) rfl rfl xrM_272_7 xw_224 dX11_tray_56 ?_
      refine lv_bipush (v := 60) hx hb dX11_tray_59 (by decide) ?_
      refine lv_iload_n hx hb dX11_tray_61 rfl (lv_at hl 1 rfl) ?_
      refine lv_imul hx hb dX11_tray_62 ?_
      refine lv_iload hx hb dX11_tray_63 (lv_at hl 3 rfl) ?_
      refine lv_iadd hx hb dX11_tray_65 ?_
      refine lv_lconst (v := 0) hx hb dX11_tray_66 (by decide) ?_
      have c4 := h.1
      have h := h.2
      obtain ⟨u5, eu5⟩ : ∃ q : xM, q = sl u 277 (((60 : Int32) * v1) + v4).toNatClampNeg (0 : Int64) := ⟨_, rfl⟩
      have h := h u5 eu5
      refine x_last C hw (xoM_277 hM) c4 dX11_tray_67 eu5 (fun H locs hw => ?_)
      obtain ⟨x6, ex6⟩ : ∃ y : Int32, y = v4 + 1 := ⟨_, rfl⟩
      have h := h x6 ex6
      refine lv_iinc (v := x6) (lv' := [(4, .int x6), (0, .ref (xad g 272)), (1, .int v1), (3, .int v3)]) hx hb dX11_tray_68 hl (k := 3) rfl (by rw [ex6]; rfl) (by decide) rfl (fun ls hl => ?_)
      refine lv_goto (tgt := 49) hx hb dX11_tray_71 (by decide) ?_
      exact ih hw (lv_sub hl [1, 2, 3, 0] rfl) h
set_option maxHeartbeats 4000000 in
set_option maxRecDepth 100000 in
theorem s_X11_tray {Qf : Bool → xM → Prop} {a1 : Int32} {a2 : Int32} {a3 : Int32} (C : x_C p s m args meth c g RX11 cX11_tray 5 (some .boolean)) (hM : xpM g) {u : xM} {H : Heap} {locs : List Loc} {ls : Array Slot} (hw : x_W g s.heap H locs u) (hl : lv_has ls 5 [(0, .ref (xad g 272)), (1, .int a1), (2, .int a2), (3, .int a3)]) (h : p_X11_tray a1 a2 a3 u Qf) : W p l e (x_rm 1 21) s m args below meth c H locs 0 0 (MQ below (x_Qz g Qf) args s 0 0 (x_A g)) (F0 m 0 ls []) := by
  unfold p_X11_tray at h
  have hx := C.1
  have hb := C.2.1
  refine lv_iload_n hx hb dX11_tray_0 rfl (lv_at hl 1 rfl) ?_
  refine x_callz hw (x_runS C hw (m_X11_isTray l C.2.2.2.2.2.2.2.2.1  h) (x_gS xw_300 xw_301 xw_5 xw_302) rfl rfl qX11_isTray ⟨(Nat.le_of_ble_eq_true rfl), (Nat.le_of_ble_eq_true rfl)⟩ rfl hl.1 rfl (Nat.le_of_ble_eq_true rfl) dX11_tray_1) (fun r2 u1 H locs hw h => ?_)
  refine lv_if_eq (tgt := 26) hx hb dX11_tray_4 (by decide) (fun c3 => ?_) (fun c3 => ?_)
  · have h := h.1 (xb_f c3)
    refine lv_aload_n hx hb dX11_tray_26 rfl (lv_at hl 0 rfl) ?_
    refine lv_iconst (v := 1) hx hb dX11_tray_27 (by decide) ?_
    refine x_callz hw (x_runV (ci := 11) C hw (m_X11_is l C.2.2.2.2.2.2.2.2.1 hM h) (xoM_272 hM) rfl (x_gV xw_303 xw_304 xw_305 xw_5 xw_306) rfl rfl qX11_is ⟨(Nat.le_of_ble_eq_true rfl), (Nat.le_of_ble_eq_true rfl)⟩ rfl hl.1 rfl (Nat.le_of_ble_eq_true rfl) dX11_tray_28) (fun r5 u4 H locs hw h => ?_)
    exact x_zret _ C hw h rfl dX11_tray_31
  · have h := h.2 (xb_t c3)
    refine lv_iload_n hx hb dX11_tray_7 rfl (lv_at hl 2 rfl) ?_
    refine lv_if_lt (tgt := 26) hx hb dX11_tray_8 (by decide) (fun c6 => ?_) (fun c6 => ?_)
    · have h := h.1 c6
      refine lv_aload_n hx hb dX11_tray_26 rfl (lv_at hl 0 rfl) ?_
      refine lv_iconst (v := 1) hx hb dX11_tray_27 (by decide) ?_
      refine x_callz hw (x_runV (ci := 11) C hw (m_X11_is l C.2.2.2.2.2.2.2.2.1 hM h) (xoM_272 hM) rfl (x_gV xw_303 xw_304 xw_305 xw_5 xw_306) rfl rfl qX11_is ⟨(Nat.le_of_ble_eq_true rfl), (Nat.le_of_ble_eq_true rfl)⟩ rfl hl.1 rfl (Nat.le_of_ble_eq_true rfl) dX11_tray_28) (fun r8 u7 H locs hw h => ?_)
      exact x_zret _ C hw h rfl dX11_tray_31
    · have h := h.2 c6
      refine lv_iload_n hx hb dX11_tray_11 rfl (lv_at hl 2 rfl) ?_
      refine lv_iconst (v := 3) hx hb dX11_tray_12 (by decide) ?_
      refine lv_icmp_gt (tgt := 26) hx hb dX11_tray_13 (by decide) (fun c9 => ?_) (fun c9 => ?_)
      · have h := h.1 c9
        refine lv_aload_n hx hb dX11_tray_26 rfl (lv_at hl 0 rfl) ?_
        refine lv_iconst (v := 1) hx hb dX11_tray_27 (by decide) ?_
        refine x_callz hw (x_runV (ci := 11) C hw (m_X11_is l C.2.2.2.2.2.2.2.2.1 hM h) (xoM_272 hM) rfl (x_gV xw_303 xw_304 xw_305 xw_5 xw_306) rfl rfl qX11_is ⟨(Nat.le_of_ble_eq_true rfl), (Nat.le_of_ble_eq_true rfl)⟩ rfl hl.1 rfl (Nat.le_of_ble_eq_true rfl) dX11_tray_28) (fun r11 u10 H locs hw h => ?_)
        exact x_zret _ C hw h rfl dX11_tray_31
      · have h := h.2 c9
        refine lv_iload_n hx hb dX11_tray_16 rfl (lv_at hl 3 rfl) ?_
        refine lv_if_lt (tgt := 26) hx hb dX11_tray_17 (by decide) (fun c12 => ?_) (fun c12 => ?_)
        · have h := h.1 c12
          refine lv_aload_n hx hb dX11_tray_26 rfl (lv_at hl 0 rfl) ?_
          refine lv_iconst (v := 1) hx hb dX11_tray_27 (by decide) ?_
          refine x_callz hw (x_runV (ci := 11) C hw (m_X11_is l C.2.2.2.2.2.2.2.2.1 hM h) (xoM_272 hM) rfl (x_gV xw_303 xw_304 xw_305 xw_5 xw_306) rfl rfl qX11_is ⟨(Nat.le_of_ble_eq_true rfl), (Nat.le_of_ble_eq_true rfl)⟩ rfl hl.1 rfl (Nat.le_of_ble_eq_true rfl) dX11_tray_28) (fun r14 u13 H locs hw h => ?_)
          exact x_zret _ C hw h rfl dX11_tray_31
        · have h := h.2 c12
          refine lv_iload_n hx hb dX11_tray_20 rfl (lv_at hl 3 rfl) ?_
          refine lv_bipush (v := 60) hx hb dX11_tray_21 (by decide) ?_
          refine lv_icmp_le (tgt := 32) hx hb dX11_tray_23 (by decide) (fun c15 => ?_) (fun c15 => ?_)
          · have h := h.1 c15
            refine lv_aload_n hx hb dX11_tray_32 rfl (lv_at hl 0 rfl) ?_
            refine x_getr (ci := 11) C hw 5 (xoM_272 hM) rfl inlX11 (by decide) rfl rfl xrM_272_5 xw_222 dX11_tray_33 ?_
            refine lv_iload_n hx hb dX11_tray_36 rfl (lv_at hl 1 rfl) ?_
            refine lv_iload_n hx hb dX11_tray_37 rfl (lv_at hl 2 rfl) ?_
            have c16 := h.1
            have h := h.2
            obtain ⟨u17, eu17⟩ : ∃ q : xM, q = si u1 275 a1.toNatClampNeg a2 := ⟨_, rfl⟩
            have h := h u17 eu17
            refine x_iast C hw (xoM_275 hM) c16 dX11_tray_38 eu17 (fun H locs hw => ?_)
            refine lv_aload_n hx hb dX11_tray_39 rfl (lv_at hl 0 rfl) ?_
            refine x_getr (ci := 11) C hw 6 (xoM_272 hM) rfl inlX11 (by decide) rfl rfl xrM_272_6 xw_223 dX11_tray_40 ?_
            refine lv_iload_n hx hb dX11_tray_43 rfl (lv_at hl 1 rfl) ?_
            refine lv_iload_n hx hb dX11_tray_44 rfl (lv_at hl 3 rfl) ?_
            have c18 := h.1
            have h := h.2
            obtain ⟨u19, eu19⟩ : ∃ q : xM, q = si u17 276 a1.toNatClampNeg a3 := ⟨_, rfl⟩
            have h := h u19 eu19
            refine x_iast C hw (xoM_276 hM) c18 dX11_tray_45 eu19 (fun H locs hw => ?_)
            refine lv_iconst (v := 0) hx hb dX11_tray_46 (by decide) ?_
            refine lv_istore (lv' := [(4, .int 0), (0, .ref (xad g 272)), (1, .int a1), (2, .int a2), (3, .int a3)]) hx hb dX11_tray_47 hl (by decide) rfl (fun ls hl => ?_)
            obtain ⟨n9, h⟩ := h
            exact s_X11_tray_L49 C hM n9 hw (lv_sub hl [1, 2, 4, 0] rfl) h
          · have h := h.2 c15
            refine lv_aload_n hx hb dX11_tray_26 rfl (lv_at hl 0 rfl) ?_
            refine lv_iconst (v := 1) hx hb dX11_tray_27 (by decide) ?_
            refine x_callz hw (x_runV (ci := 11) C hw (m_X11_is l C.2.2.2.2.2.2.2.2.1 hM h) (xoM_272 hM) rfl (x_gV xw_303 xw_304 xw_305 xw_5 xw_306) rfl rfl qX11_is ⟨(Nat.le_of_ble_eq_true rfl), (Nat.le_of_ble_eq_true rfl)⟩ rfl hl.1 rfl (Nat.le_of_ble_eq_true rfl) dX11_tray_28) (fun r21 u20 H locs hw h => ?_)
            exact x_zret _ C hw h rfl dX11_tray_31
set_option maxHeartbeats 4000000 in
set_option maxRecDepth 100000 in
theorem m_X11_tray (l : Launch) {g : xG} (hD : x_D g) (hM : xpM g) {a1 : Int32} {a2 : Int32} {a3 : Int32} {u : xM} {Qf : Bool → xM → Prop} (h : p_X11_tray a1 a2 a3 u Qf) : Met l yX11_tray (Cond.code yX11_tray cX11_tray 5 (some .boolean) :: wsL_law) (x_rm 1 21) (va_Pc [.ref (xad g 272), .int a1, .int a2, .int a3] (x_B g u)) (x_Qz g Qf) 0 0 (x_A g) := by
  refine Met.ofW (cc := cX11_tray) (maxL := 5) (ret := (some .boolean)) (by decide) rfl ?_
  intro p e s m args below meth c s₁ B hml hv
  obtain ⟨rfl, hB⟩ := hv
  obtain ⟨C, hw⟩ := x_start B hml hD hB
  have hl := lv_entry [.ref (xad g 272), .int a1, .int a2, .int a3] (n := 5) (Nat.le_of_ble_eq_true rfl)
  rw [lg_entry_eq]
  exact s_X11_tray C hM hw hl h
set_option maxHeartbeats 4000000 in
set_option maxRecDepth 100000 in
theorem s_X11_wrongPlace {Qf : Int32 → xM → Prop} {a1 : Int32} {a2 : Int32} (C : x_C p s m args meth c g RX11 cX11_wrongPlace 3 (some .int)) (hM : xpM g) {u : xM} {H : Heap} {locs : List Loc} {ls : Array Slot} (hw : x_W g s.heap H locs u) (hl : lv_has ls 3 [(0, .ref (xad g 272)), (1, .int a1), (2, .int a2)]) (h : p_X11_wrongPlace a1 a2 u Qf) : W p l e (x_rm 1 20) s m args below meth c H locs 0 0 (MQ below (x_Qi g Qf) args s 0 0 (x_A g)) (F0 m 0 ls []) := by
  unfold p_X11_wrongPlace at h
  have hx := C.1
  have hb := C.2.1
  refine lv_iload_n hx hb dX11_wrongPlace_0 rfl (lv_at hl 1 rfl) ?_
  refine x_callz hw (x_runS C hw (m_X11_isTray l C.2.2.2.2.2.2.2.2.1  h) (x_gS xw_300 xw_301 xw_5 xw_302) rfl rfl qX11_isTray ⟨(Nat.le_of_ble_eq_true rfl), (Nat.le_of_ble_eq_true rfl)⟩ rfl hl.1 rfl (Nat.le_of_ble_eq_true rfl) dX11_wrongPlace_1) (fun r2 u1 H locs hw h => ?_)
  refine lv_if_ne (tgt := 11) hx hb dX11_wrongPlace_4 (by decide) (fun c3 => ?_) (fun c3 => ?_)
  · have h := h.1 (xb_t c3)
    refine lv_aload_n hx hb dX11_wrongPlace_11 rfl (lv_at hl 0 rfl) ?_
    refine x_getr (ci := 11) C hw 6 (xoM_272 hM) rfl inlX11 (by decide) rfl rfl xrM_272_6 xw_223 dX11_wrongPlace_12 ?_
    refine lv_iload_n hx hb dX11_wrongPlace_15 rfl (lv_at hl 1 rfl) ?_
    have c4 := h.1
    have h := h.2
    refine x_iald C hw (xoM_276 hM) c4 dX11_wrongPlace_16 ?_
    refine lv_iconst (v := -1) hx hb dX11_wrongPlace_17 (by decide) ?_
    refine lv_icmp_ne (tgt := 25) hx hb dX11_wrongPlace_18 (by decide) (fun c5 => ?_) (fun c5 => ?_)
    · have h := h.1 c5
      refine lv_iload_n hx hb dX11_wrongPlace_25 rfl (lv_at hl 2 rfl) ?_
      refine lv_if_lt (tgt := 39) hx hb dX11_wrongPlace_26 (by decide) (fun c6 => ?_) (fun c6 => ?_)
      · have h := h.1 c6
        refine lv_iconst (v := 3) hx hb dX11_wrongPlace_39 (by decide) ?_
        refine lv_goto (tgt := 44) hx hb dX11_wrongPlace_40 (by decide) ?_
        exact x_iret C hw h dX11_wrongPlace_44
      · have h := h.2 c6
        refine lv_iload_n hx hb dX11_wrongPlace_29 rfl (lv_at hl 2 rfl) ?_
        refine lv_aload_n hx hb dX11_wrongPlace_30 rfl (lv_at hl 0 rfl) ?_
        refine x_getr (ci := 11) C hw 6 (xoM_272 hM) rfl inlX11 (by decide) rfl rfl xrM_272_6 xw_223 dX11_wrongPlace_31 ?_
        refine lv_iload_n hx hb dX11_wrongPlace_34 rfl (lv_at hl 1 rfl) ?_
        have c7 := h.1
        have h := h.2
        refine x_iald C hw (xoM_276 hM) c7 dX11_wrongPlace_35 ?_
        refine lv_icmp_lt (tgt := 43) hx hb dX11_wrongPlace_36 (by decide) (fun c8 => ?_) (fun c8 => ?_)
        · have h := h.1 c8
          refine lv_iconst (v := 0) hx hb dX11_wrongPlace_43 (by decide) ?_
          exact x_iret C hw h dX11_wrongPlace_44
        · have h := h.2 c8
          refine lv_iconst (v := 3) hx hb dX11_wrongPlace_39 (by decide) ?_
          refine lv_goto (tgt := 44) hx hb dX11_wrongPlace_40 (by decide) ?_
          exact x_iret C hw h dX11_wrongPlace_44
    · have h := h.2 c5
      refine lv_iconst (v := 2) hx hb dX11_wrongPlace_21 (by decide) ?_
      refine lv_goto (tgt := 44) hx hb dX11_wrongPlace_22 (by decide) ?_
      exact x_iret C hw h dX11_wrongPlace_44
  · have h := h.2 (xb_f c3)
    refine lv_iconst (v := 1) hx hb dX11_wrongPlace_7 (by decide) ?_
    refine lv_goto (tgt := 44) hx hb dX11_wrongPlace_8 (by decide) ?_
    exact x_iret C hw h dX11_wrongPlace_44
set_option maxHeartbeats 4000000 in
set_option maxRecDepth 100000 in
theorem m_X11_wrongPlace (l : Launch) {g : xG} (hD : x_D g) (hM : xpM g) {a1 : Int32} {a2 : Int32} {u : xM} {Qf : Int32 → xM → Prop} (h : p_X11_wrongPlace a1 a2 u Qf) : Met l yX11_wrongPlace (Cond.code yX11_wrongPlace cX11_wrongPlace 3 (some .int) :: wsL_law) (x_rm 1 20) (va_Pc [.ref (xad g 272), .int a1, .int a2] (x_B g u)) (x_Qi g Qf) 0 0 (x_A g) := by
  refine Met.ofW (cc := cX11_wrongPlace) (maxL := 3) (ret := (some .int)) (by decide) rfl ?_
  intro p e s m args below meth c s₁ B hml hv
  obtain ⟨rfl, hB⟩ := hv
  obtain ⟨C, hw⟩ := x_start B hml hD hB
  have hl := lv_entry [.ref (xad g 272), .int a1, .int a2] (n := 3) (Nat.le_of_ble_eq_true rfl)
  rw [lg_entry_eq]
  exact s_X11_wrongPlace C hM hw hl h
set_option maxHeartbeats 4000000 in
set_option maxRecDepth 100000 in
theorem s_X11_write {Qf : Bool → xM → Prop} {a1 : Int32} {a2 : Int32} {a3 : Int64} (C : x_C p s m args meth c g RX11 cX11_write 6 (some .boolean)) (hM : xpM g) {u : xM} {H : Heap} {locs : List Loc} {ls : Array Slot} (hw : x_W g s.heap H locs u) (hl : lv_has ls 6 [(0, .ref (xad g 272)), (1, .int a1), (2, .int a2), (3, .long a3)]) (h : p_X11_write a1 a2 a3 u Qf) : W p l e (x_rm 2 42) s m args below meth c H locs 0 0 (MQ below (x_Qz g Qf) args s 0 0 (x_A g)) (F0 m 0 ls []) := by
  unfold p_X11_write at h
  have hx := C.1
  have hb := C.2.1
  refine lv_aload_n hx hb dX11_write_0 rfl (lv_at hl 0 rfl) ?_
  refine lv_iload_n hx hb dX11_write_1 rfl (lv_at hl 1 rfl) ?_
  refine lv_iload_n hx hb dX11_write_2 rfl (lv_at hl 2 rfl) ?_
  refine x_calli hw (x_runV (ci := 11) C hw (m_X11_wrongPlace l C.2.2.2.2.2.2.2.2.1 hM h) (xoM_272 hM) rfl (x_gV xw_332 xw_333 xw_334 xw_5 xw_335) rfl rfl qX11_wrongPlace ⟨(Nat.le_of_ble_eq_true rfl), (Nat.le_of_ble_eq_true rfl)⟩ rfl hl.1 rfl (Nat.le_of_ble_eq_true rfl) dX11_write_3) (fun r2 u1 H locs hw h => ?_)
  refine lv_istore (lv' := [(5, .int r2), (0, .ref (xad g 272)), (1, .int a1), (2, .int a2), (3, .long a3)]) hx hb dX11_write_6 hl (by decide) rfl (fun ls hl => ?_)
  refine lv_iload hx hb dX11_write_8 (lv_at hl 0 rfl) ?_
  refine lv_if_ne (tgt := 34) hx hb dX11_write_10 (by decide) (fun c3 => ?_) (fun c3 => ?_)
  · have h := h.1 c3
    refine lv_aload_n hx hb dX11_write_34 rfl (lv_at hl 1 rfl) ?_
    refine lv_iload hx hb dX11_write_35 (lv_at hl 0 rfl) ?_
    refine x_callz hw (x_runV (ci := 11) C hw (m_X11_is l C.2.2.2.2.2.2.2.2.1 hM h) (xoM_272 hM) rfl (x_gV xw_303 xw_304 xw_305 xw_5 xw_306) rfl rfl qX11_is ⟨(Nat.le_of_ble_eq_true rfl), (Nat.le_of_ble_eq_true rfl)⟩ rfl hl.1 rfl (Nat.le_of_ble_eq_true rfl) dX11_write_37) (fun r5 u4 H locs hw h => ?_)
    exact x_zret _ C hw h rfl dX11_write_40
  · have h := h.2 c3
    refine lv_aload_n hx hb dX11_write_13 rfl (lv_at hl 1 rfl) ?_
    refine x_getr (ci := 11) C hw 7 (xoM_272 hM) rfl inlX11 (by decide) rfl rfl xrM_272_7 xw_224 dX11_write_14 ?_
    refine lv_bipush (v := 60) hx hb dX11_write_17 (by decide) ?_
    refine lv_iload_n hx hb dX11_write_19 rfl (lv_at hl 2 rfl) ?_
    refine lv_imul hx hb dX11_write_20 ?_
    refine lv_iload_n hx hb dX11_write_21 rfl (lv_at hl 3 rfl) ?_
    refine lv_iadd hx hb dX11_write_22 ?_
    refine lv_lload_n hx hb dX11_write_23 rfl (lv_at hl 4 rfl) ?_
    refine lv_aload_n hx hb dX11_write_24 rfl (lv_at hl 1 rfl) ?_
    refine x_getr (ci := 11) C hw 5 (xoM_272 hM) rfl inlX11 (by decide) rfl rfl xrM_272_5 xw_222 dX11_write_25 ?_
    refine lv_iload_n hx hb dX11_write_28 rfl (lv_at hl 2 rfl) ?_
    have c6 := h.1
    have h := h.2
    refine x_iald C hw (xoM_275 hM) c6 dX11_write_29 ?_
    refine x_calll hw (x_runS C hw (m_X11_cut l C.2.2.2.2.2.2.2.2.1  h) (x_gS xw_336 xw_337 xw_5 xw_338) rfl rfl qX11_cut ⟨(Nat.le_of_ble_eq_true rfl), (Nat.le_of_ble_eq_true rfl)⟩ rfl hl.1 rfl (Nat.le_of_ble_eq_true rfl) dX11_write_30) (fun r8 u7 H locs hw h => ?_)
    have c9 := h.1
    have h := h.2
    obtain ⟨u10, eu10⟩ : ∃ q : xM, q = sl u7 277 (((60 : Int32) * a1) + a2).toNatClampNeg r8 := ⟨_, rfl⟩
    have h := h u10 eu10
    refine x_last C hw (xoM_277 hM) c9 dX11_write_33 eu10 (fun H locs hw => ?_)
    refine lv_aload_n hx hb dX11_write_34 rfl (lv_at hl 1 rfl) ?_
    refine lv_iload hx hb dX11_write_35 (lv_at hl 0 rfl) ?_
    refine x_callz hw (x_runV (ci := 11) C hw (m_X11_is l C.2.2.2.2.2.2.2.2.1 hM h) (xoM_272 hM) rfl (x_gV xw_303 xw_304 xw_305 xw_5 xw_306) rfl rfl qX11_is ⟨(Nat.le_of_ble_eq_true rfl), (Nat.le_of_ble_eq_true rfl)⟩ rfl hl.1 rfl (Nat.le_of_ble_eq_true rfl) dX11_write_37) (fun r12 u11 H locs hw h => ?_)
    exact x_zret _ C hw h rfl dX11_write_40
set_option maxHeartbeats 4000000 in
set_option maxRecDepth 100000 in
theorem m_X11_write (l : Launch) {g : xG} (hD : x_D g) (hM : xpM g) {a1 : Int32} {a2 : Int32} {a3 : Int64} {u : xM} {Qf : Bool → xM → Prop} (h : p_X11_write a1 a2 a3 u Qf) : Met l yX11_write (Cond.code yX11_write cX11_write 6 (some .boolean) :: wsL_law) (x_rm 2 42) (va_Pc [.ref (xad g 272), .int a1, .int a2, .long a3] (x_B g u)) (x_Qz g Qf) 0 0 (x_A g) := by
  refine Met.ofW (cc := cX11_write) (maxL := 6) (ret := (some .boolean)) (by decide) rfl ?_
  intro p e s m args below meth c s₁ B hml hv
  obtain ⟨rfl, hB⟩ := hv
  obtain ⟨C, hw⟩ := x_start B hml hD hB
  have hl := lv_entry [.ref (xad g 272), .int a1, .int a2, .long a3] (n := 6) (Nat.le_of_ble_eq_true rfl)
  rw [lg_entry_eq]
  exact s_X11_write C hM hw hl h
set_option maxHeartbeats 4000000 in
set_option maxRecDepth 100000 in
theorem s_X11_read {Qf : Int64 → xM → Prop} {a1 : Int32} {a2 : Int32} (C : x_C p s m args meth c g RX11 cX11_read 3 (some .long)) (hM : xpM g) {u : xM} {H : Heap} {locs : List Loc} {ls : Array Slot} (hw : x_W g s.heap H locs u) (hl : lv_has ls 3 [(0, .ref (xad g 272)), (1, .int a1), (2, .int a2)]) (h : p_X11_read a1 a2 u Qf) : W p l e (x_rm 2 42) s m args below meth c H locs 0 0 (MQ below (x_Ql g Qf) args s 0 0 (x_A g)) (F0 m 0 ls []) := by
  unfold p_X11_read at h
  have hx := C.1
  have hb := C.2.1
  refine lv_aload_n hx hb dX11_read_0 rfl (lv_at hl 0 rfl) ?_
  refine lv_aload_n hx hb dX11_read_1 rfl (lv_at hl 0 rfl) ?_
  refine lv_iload_n hx hb dX11_read_2 rfl (lv_at hl 1 rfl) ?_
  refine lv_iload_n hx hb dX11_read_3 rfl (lv_at hl 2 rfl) ?_
  refine x_calli hw (x_runV (ci := 11) C hw (m_X11_wrongPlace l C.2.2.2.2.2.2.2.2.1 hM h) (xoM_272 hM) rfl (x_gV xw_332 xw_333 xw_334 xw_5 xw_335) rfl rfl qX11_wrongPlace ⟨(Nat.le_of_ble_eq_true rfl), (Nat.le_of_ble_eq_true rfl)⟩ rfl hl.1 rfl (Nat.le_of_ble_eq_true rfl) dX11_read_4) (fun r2 u1 H locs hw h => ?_)
  obtain ⟨u3, eu3⟩ : ∃ q : xM, q = si u1 272 2 r2 := ⟨_, rfl⟩
  have h := h u3 eu3
  refine x_puti (ci := 11) (ty := .int) C hw 2 (xoM_272 hM) rfl inlX11 tyX11_ok nmX11 (by decide) rfl rfl xw_253 rfl (by decide +kernel) rfl rfl dX11_read_7 eu3 (fun H locs hw => ?_)
  refine lv_aload_n hx hb dX11_read_10 rfl (lv_at hl 0 rfl) ?_
  refine x_geti (ci := 11) C hw 2 (xoM_272 hM) rfl inlX11 (by decide) rfl rfl xw_253 dX11_read_11 ?_
  refine lv_if_le (tgt := 23) hx hb dX11_read_14 (by decide) (fun c4 => ?_) (fun c4 => ?_)
  · have h := h.1 c4
    refine lv_aload_n hx hb dX11_read_23 rfl (lv_at hl 0 rfl) ?_
    refine x_getr (ci := 11) C hw 7 (xoM_272 hM) rfl inlX11 (by decide) rfl rfl xrM_272_7 xw_224 dX11_read_24 ?_
    refine lv_bipush (v := 60) hx hb dX11_read_27 (by decide) ?_
    refine lv_iload_n hx hb dX11_read_29 rfl (lv_at hl 1 rfl) ?_
    refine lv_imul hx hb dX11_read_30 ?_
    refine lv_iload_n hx hb dX11_read_31 rfl (lv_at hl 2 rfl) ?_
    refine lv_iadd hx hb dX11_read_32 ?_
    have c5 := h.1
    have h := h.2
    refine x_lald C hw (xoM_277 hM) c5 dX11_read_33 ?_
    exact x_lret C hw h dX11_read_34
  · have h := h.2 c4
    refine lv_ldc2 (v := -1) hx hb C.2.2.2.1 (C.2.2.2.2.1 _ xw_355) dX11_read_17 ?_
    refine lv_goto (tgt := 34) hx hb dX11_read_20 (by decide) ?_
    exact x_lret C hw h dX11_read_34
set_option maxHeartbeats 4000000 in
set_option maxRecDepth 100000 in
theorem m_X11_read (l : Launch) {g : xG} (hD : x_D g) (hM : xpM g) {a1 : Int32} {a2 : Int32} {u : xM} {Qf : Int64 → xM → Prop} (h : p_X11_read a1 a2 u Qf) : Met l yX11_read (Cond.code yX11_read cX11_read 3 (some .long) :: wsL_law) (x_rm 2 42) (va_Pc [.ref (xad g 272), .int a1, .int a2] (x_B g u)) (x_Ql g Qf) 0 0 (x_A g) := by
  refine Met.ofW (cc := cX11_read) (maxL := 3) (ret := (some .long)) (by decide) rfl ?_
  intro p e s m args below meth c s₁ B hml hv
  obtain ⟨rfl, hB⟩ := hv
  obtain ⟨C, hw⟩ := x_start B hml hD hB
  have hl := lv_entry [.ref (xad g 272), .int a1, .int a2] (n := 3) (Nat.le_of_ble_eq_true rfl)
  rw [lg_entry_eq]
  exact s_X11_read C hM hw hl h
set_option maxHeartbeats 4000000 in
set_option maxRecDepth 100000 in
theorem s_X11_pour_L143 {Qf : Bool → xM → Prop} {K118 : Int32 → Int32 → Int32 → Int32 → Int32 → Int32 → xM → Prop} (C : x_C p s m args meth c g RX11 cX11_pour 8 (some .boolean)) (hM : xpM g) (hK118 : ∀ {v1 : Int32} {v2 : Int32} {v3 : Int32} {v4 : Int32} {v5 : Int32} {v6 : Int32} {u : xM} {H : Heap} {locs : List Loc} {ls : Array Slot}, x_W g s.heap H locs u → lv_has ls 8 [(0, .ref (xad g 272)), (1, .int v1), (2, .int v2), (3, .int v3), (4, .int v4), (5, .int v5), (6, .int v6)] → K118 v1 v2 v3 v4 v5 v6 u → W p l e (x_rm 1 21) s m args below meth c H locs 0 0 (MQ below (x_Qz g Qf) args s 0 0 (x_A g)) (F0 m 118 ls [])) {v1 : Int32} {v2 : Int32} {v3 : Int32} {v4 : Int32} {v5 : Int32} {v6 : Int32} {w0 : Int32} {u : xM} {H : Heap} {locs : List Loc} {ls : Array Slot} (hw : x_W g s.heap H locs u) (hl : lv_has ls 8 [(0, .ref (xad g 272)), (1, .int v1), (2, .int v2), (3, .int v3), (4, .int v4), (5, .int v5), (6, .int v6)]) (h : p_X11_pour_L143 Qf K118 v1 v2 v3 v4 v5 v6 w0 u) : W p l e (x_rm 1 21) s m args below meth c H locs 0 0 (MQ below (x_Qz g Qf) args s 0 0 (x_A g)) (F0 m 143 ls [.int w0]) := by
  unfold p_X11_pour_L143 at h
  have hx := C.1
  have hb := C.2.1
  refine lv_istore (lv' := [(7, .int w0), (0, .ref (xad g 272)), (1, .int v1), (2, .int v2), (3, .int v3), (4, .int v4), (5, .int v5), (6, .int v6)]) hx hb dX11_pour_143 hl (by decide) rfl (fun ls hl => ?_)
  refine lv_aload_n hx hb dX11_pour_145 rfl (lv_at hl 1 rfl) ?_
  refine x_getr (ci := 11) C hw 7 (xoM_272 hM) rfl inlX11 (by decide) rfl rfl xrM_272_7 xw_224 dX11_pour_146 ?_
  refine lv_bipush (v := 60) hx hb dX11_pour_149 (by decide) ?_
  refine lv_iload_n hx hb dX11_pour_151 rfl (lv_at hl 4 rfl) ?_
  refine lv_imul hx hb dX11_pour_152 ?_
  refine lv_iload hx hb dX11_pour_153 (lv_at hl 5 rfl) ?_
  refine lv_iadd hx hb dX11_pour_155 ?_
  refine lv_iload hx hb dX11_pour_156 (lv_at hl 0 rfl) ?_
  refine lv_iadd hx hb dX11_pour_158 ?_
  refine lv_aload_n hx hb dX11_pour_159 rfl (lv_at hl 1 rfl) ?_
  refine x_getr (ci := 11) C hw 7 (xoM_272 hM) rfl inlX11 (by decide) rfl rfl xrM_272_7 xw_224 dX11_pour_160 ?_
  refine lv_bipush (v := 60) hx hb dX11_pour_163 (by decide) ?_
  refine lv_iload_n hx hb dX11_pour_165 rfl (lv_at hl 2 rfl) ?_
  refine lv_imul hx hb dX11_pour_166 ?_
  refine lv_iload_n hx hb dX11_pour_167 rfl (lv_at hl 3 rfl) ?_
  refine lv_iadd hx hb dX11_pour_168 ?_
  refine lv_iload hx hb dX11_pour_169 (lv_at hl 0 rfl) ?_
  refine lv_iadd hx hb dX11_pour_171 ?_
  have c1 := h.1
  have h := h.2
  refine x_lald C hw (xoM_277 hM) c1 dX11_pour_172 ?_
  have c2 := h.1
  have h := h.2
  obtain ⟨u3, eu3⟩ : ∃ q : xM, q = sl u 277 ((((60 : Int32) * v3) + v4) + w0).toNatClampNeg (gl u 277 ((((60 : Int32) * v1) + v2) + w0).toNatClampNeg) := ⟨_, rfl⟩
  have h := h u3 eu3
  refine x_last C hw (xoM_277 hM) c2 dX11_pour_173 eu3 (fun H locs hw => ?_)
  obtain ⟨x4, ex4⟩ : ∃ y : Int32, y = v6 + 1 := ⟨_, rfl⟩
  have h := h x4 ex4
  refine lv_iinc (v := x4) (lv' := [(6, .int x4), (7, .int w0), (0, .ref (xad g 272)), (1, .int v1), (2, .int v2), (3, .int v3), (4, .int v4), (5, .int v5)]) hx hb dX11_pour_174 hl (k := 7) rfl (by rw [ex4]; rfl) (by decide) rfl (fun ls hl => ?_)
  refine lv_goto (tgt := 118) hx hb dX11_pour_177 (by decide) ?_
  exact hK118 hw (lv_sub hl [2, 3, 4, 5, 6, 7, 0] rfl) h
set_option maxHeartbeats 4000000 in
set_option maxRecDepth 100000 in
theorem s_X11_pour_L118 {Qf : Bool → xM → Prop} (C : x_C p s m args meth c g RX11 cX11_pour 8 (some .boolean)) (hM : xpM g) : ∀ (nn : Nat) {v1 : Int32} {v2 : Int32} {v3 : Int32} {v4 : Int32} {v5 : Int32} {v6 : Int32} {u : xM} {H : Heap} {locs : List Loc} {ls : Array Slot} (hw : x_W g s.heap H locs u) (hl : lv_has ls 8 [(0, .ref (xad g 272)), (1, .int v1), (2, .int v2), (3, .int v3), (4, .int v4), (5, .int v5), (6, .int v6)]) (h : p_X11_pour_L118 Qf nn v1 v2 v3 v4 v5 v6 u), W p l e (x_rm 1 21) s m args below meth c H locs 0 0 (MQ below (x_Qz g Qf) args s 0 0 (x_A g)) (F0 m 118 ls []) := by
  intro nn
  induction nn with
  | zero => intro v1 v2 v3 v4 v5 v6 u H locs ls hw hl h; exact h.elim
  | succ nn ih =>
    intro v1 v2 v3 v4 v5 v6 u H locs ls hw hl h
    unfold p_X11_pour_L118 at h
    have hx := C.1
    have hb := C.2.1
    refine lv_iload hx hb dX11_pour_118 (lv_at hl 6 rfl) ?_
    refine lv_iload hx hb dX11_pour_120 (lv_at hl 5 rfl) ?_
    refine lv_icmp_ge (tgt := 180) hx hb dX11_pour_122 (by decide) (fun c1 => ?_) (fun c1 => ?_)
    · have h := h.1 c1
      refine lv_aload_n hx hb dX11_pour_180 rfl (lv_at hl 0 rfl) ?_
      refine lv_iconst (v := 0) hx hb dX11_pour_181 (by decide) ?_
      refine x_callz hw (x_runV (ci := 11) C hw (m_X11_is l C.2.2.2.2.2.2.2.2.1 hM h) (xoM_272 hM) rfl (x_gV xw_303 xw_304 xw_305 xw_5 xw_306) rfl rfl qX11_is ⟨(Nat.le_of_ble_eq_true rfl), (Nat.le_of_ble_eq_true rfl)⟩ rfl hl.1 rfl (Nat.le_of_ble_eq_true rfl) dX11_pour_182) (fun r3 u2 H locs hw h => ?_)
      exact x_zret _ C hw h rfl dX11_pour_185
    · have h := h.2 c1
      refine lv_iload_n hx hb dX11_pour_125 rfl (lv_at hl 2 rfl) ?_
      refine lv_iload hx hb dX11_pour_126 (lv_at hl 4 rfl) ?_
      refine lv_icmp_ge (tgt := 141) hx hb dX11_pour_128 (by decide) (fun c4 => ?_) (fun c4 => ?_)
      · have h := h.1 c4
        refine lv_iload hx hb dX11_pour_141 (lv_at hl 6 rfl) ?_
        exact s_X11_pour_L143 C hM (fun hw hl h => ih hw hl h) hw (lv_sub hl [0, 1, 2, 3, 4, 5, 6] rfl) h
      · have h := h.2 c4
        refine lv_iload hx hb dX11_pour_131 (lv_at hl 5 rfl) ?_
        refine lv_iconst (v := 1) hx hb dX11_pour_133 (by decide) ?_
        refine lv_isub hx hb dX11_pour_134 ?_
        refine lv_iload hx hb dX11_pour_135 (lv_at hl 6 rfl) ?_
        refine lv_isub hx hb dX11_pour_137 ?_
        refine lv_goto (tgt := 143) hx hb dX11_pour_138 (by decide) ?_
        exact s_X11_pour_L143 C hM (fun hw hl h => ih hw hl h) hw (lv_sub hl [0, 1, 2, 3, 4, 5, 6] rfl) h
set_option maxHeartbeats 4000000 in
set_option maxRecDepth 100000 in
theorem s_X11_pour {Qf : Bool → xM → Prop} {a1 : Int32} {a2 : Int32} {a3 : Int32} {a4 : Int32} {a5 : Int32} (C : x_C p s m args meth c g RX11 cX11_pour 8 (some .boolean)) (hM : xpM g) {u : xM} {H : Heap} {locs : List Loc} {ls : Array Slot} (hw : x_W g s.heap H locs u) (hl : lv_has ls 8 [(0, .ref (xad g 272)), (1, .int a1), (2, .int a2), (3, .int a3), (4, .int a4), (5, .int a5)]) (h : p_X11_pour a1 a2 a3 a4 a5 u Qf) : W p l e (x_rm 1 21) s m args below meth c H locs 0 0 (MQ below (x_Qz g Qf) args s 0 0 (x_A g)) (F0 m 0 ls []) := by
  unfold p_X11_pour at h
  have hx := C.1
  have hb := C.2.1
  refine lv_iload_n hx hb dX11_pour_0 rfl (lv_at hl 1 rfl) ?_
  refine x_callz hw (x_runS C hw (m_X11_isTray l C.2.2.2.2.2.2.2.2.1  h) (x_gS xw_300 xw_301 xw_5 xw_302) rfl rfl qX11_isTray ⟨(Nat.le_of_ble_eq_true rfl), (Nat.le_of_ble_eq_true rfl)⟩ rfl hl.1 rfl (Nat.le_of_ble_eq_true rfl) dX11_pour_1) (fun r2 u1 H locs hw h => ?_)
  refine lv_if_eq (tgt := 28) hx hb dX11_pour_4 (by decide) (fun c3 => ?_) (fun c3 => ?_)
  · have h := h.1 (xb_f c3)
    refine lv_aload_n hx hb dX11_pour_28 rfl (lv_at hl 0 rfl) ?_
    refine lv_iconst (v := 1) hx hb dX11_pour_29 (by decide) ?_
    refine x_callz hw (x_runV (ci := 11) C hw (m_X11_is l C.2.2.2.2.2.2.2.2.1 hM h) (xoM_272 hM) rfl (x_gV xw_303 xw_304 xw_305 xw_5 xw_306) rfl rfl qX11_is ⟨(Nat.le_of_ble_eq_true rfl), (Nat.le_of_ble_eq_true rfl)⟩ rfl hl.1 rfl (Nat.le_of_ble_eq_true rfl) dX11_pour_30) (fun r5 u4 H locs hw h => ?_)
    exact x_zret _ C hw h rfl dX11_pour_33
  · have h := h.2 (xb_t c3)
    refine lv_iload_n hx hb dX11_pour_7 rfl (lv_at hl 3 rfl) ?_
    refine x_callz hw (x_runS C hw (m_X11_isTray l C.2.2.2.2.2.2.2.2.1  h) (x_gS xw_300 xw_301 xw_5 xw_302) rfl rfl qX11_isTray ⟨(Nat.le_of_ble_eq_true rfl), (Nat.le_of_ble_eq_true rfl)⟩ rfl hl.1 rfl (Nat.le_of_ble_eq_true rfl) dX11_pour_8) (fun r7 u6 H locs hw h => ?_)
    refine lv_if_eq (tgt := 28) hx hb dX11_pour_11 (by decide) (fun c8 => ?_) (fun c8 => ?_)
    · have h := h.1 (xb_f c8)
      refine lv_aload_n hx hb dX11_pour_28 rfl (lv_at hl 0 rfl) ?_
      refine lv_iconst (v := 1) hx hb dX11_pour_29 (by decide) ?_
      refine x_callz hw (x_runV (ci := 11) C hw (m_X11_is l C.2.2.2.2.2.2.2.2.1 hM h) (xoM_272 hM) rfl (x_gV xw_303 xw_304 xw_305 xw_5 xw_306) rfl rfl qX11_is ⟨(Nat.le_of_ble_eq_true rfl), (Nat.le_of_ble_eq_true rfl)⟩ rfl hl.1 rfl (Nat.le_of_ble_eq_true rfl) dX11_pour_30) (fun r10 u9 H locs hw h => ?_)
      exact x_zret _ C hw h rfl dX11_pour_33
    · have h := h.2 (xb_t c8)
      refine lv_iload_n hx hb dX11_pour_14 rfl (lv_at hl 2 rfl) ?_
      refine lv_if_lt (tgt := 28) hx hb dX11_pour_15 (by decide) (fun c11 => ?_) (fun c11 => ?_)
      · have h := h.1 c11
        refine lv_aload_n hx hb dX11_pour_28 rfl (lv_at hl 0 rfl) ?_
        refine lv_iconst (v := 1) hx hb dX11_pour_29 (by decide) ?_
        refine x_callz hw (x_runV (ci := 11) C hw (m_X11_is l C.2.2.2.2.2.2.2.2.1 hM h) (xoM_272 hM) rfl (x_gV xw_303 xw_304 xw_305 xw_5 xw_306) rfl rfl qX11_is ⟨(Nat.le_of_ble_eq_true rfl), (Nat.le_of_ble_eq_true rfl)⟩ rfl hl.1 rfl (Nat.le_of_ble_eq_true rfl) dX11_pour_30) (fun r13 u12 H locs hw h => ?_)
        exact x_zret _ C hw h rfl dX11_pour_33
      · have h := h.2 c11
        refine lv_iload hx hb dX11_pour_18 (lv_at hl 4 rfl) ?_
        refine lv_if_lt (tgt := 28) hx hb dX11_pour_20 (by decide) (fun c14 => ?_) (fun c14 => ?_)
        · have h := h.1 c14
          refine lv_aload_n hx hb dX11_pour_28 rfl (lv_at hl 0 rfl) ?_
          refine lv_iconst (v := 1) hx hb dX11_pour_29 (by decide) ?_
          refine x_callz hw (x_runV (ci := 11) C hw (m_X11_is l C.2.2.2.2.2.2.2.2.1 hM h) (xoM_272 hM) rfl (x_gV xw_303 xw_304 xw_305 xw_5 xw_306) rfl rfl qX11_is ⟨(Nat.le_of_ble_eq_true rfl), (Nat.le_of_ble_eq_true rfl)⟩ rfl hl.1 rfl (Nat.le_of_ble_eq_true rfl) dX11_pour_30) (fun r16 u15 H locs hw h => ?_)
          exact x_zret _ C hw h rfl dX11_pour_33
        · have h := h.2 c14
          refine lv_iload hx hb dX11_pour_23 (lv_at hl 5 rfl) ?_
          refine lv_if_ge (tgt := 34) hx hb dX11_pour_25 (by decide) (fun c17 => ?_) (fun c17 => ?_)
          · have h := h.1 c17
            refine lv_aload_n hx hb dX11_pour_34 rfl (lv_at hl 0 rfl) ?_
            refine x_getr (ci := 11) C hw 6 (xoM_272 hM) rfl inlX11 (by decide) rfl rfl xrM_272_6 xw_223 dX11_pour_35 ?_
            refine lv_iload_n hx hb dX11_pour_38 rfl (lv_at hl 1 rfl) ?_
            have c18 := h.1
            have h := h.2
            refine x_iald C hw (xoM_276 hM) c18 dX11_pour_39 ?_
            refine lv_iconst (v := -1) hx hb dX11_pour_40 (by decide) ?_
            refine lv_icmp_eq (tgt := 54) hx hb dX11_pour_41 (by decide) (fun c19 => ?_) (fun c19 => ?_)
            · have h := h.1 c19
              refine lv_aload_n hx hb dX11_pour_54 rfl (lv_at hl 0 rfl) ?_
              refine lv_iconst (v := 2) hx hb dX11_pour_55 (by decide) ?_
              refine x_callz hw (x_runV (ci := 11) C hw (m_X11_is l C.2.2.2.2.2.2.2.2.1 hM h) (xoM_272 hM) rfl (x_gV xw_303 xw_304 xw_305 xw_5 xw_306) rfl rfl qX11_is ⟨(Nat.le_of_ble_eq_true rfl), (Nat.le_of_ble_eq_true rfl)⟩ rfl hl.1 rfl (Nat.le_of_ble_eq_true rfl) dX11_pour_56) (fun r21 u20 H locs hw h => ?_)
              exact x_zret _ C hw h rfl dX11_pour_59
            · have h := h.2 c19
              refine lv_aload_n hx hb dX11_pour_44 rfl (lv_at hl 0 rfl) ?_
              refine x_getr (ci := 11) C hw 6 (xoM_272 hM) rfl inlX11 (by decide) rfl rfl xrM_272_6 xw_223 dX11_pour_45 ?_
              refine lv_iload_n hx hb dX11_pour_48 rfl (lv_at hl 3 rfl) ?_
              have c22 := h.1
              have h := h.2
              refine x_iald C hw (xoM_276 hM) c22 dX11_pour_49 ?_
              refine lv_iconst (v := -1) hx hb dX11_pour_50 (by decide) ?_
              refine lv_icmp_ne (tgt := 60) hx hb dX11_pour_51 (by decide) (fun c23 => ?_) (fun c23 => ?_)
              · have h := h.1 c23
                refine lv_aload_n hx hb dX11_pour_60 rfl (lv_at hl 0 rfl) ?_
                refine x_getr (ci := 11) C hw 5 (xoM_272 hM) rfl inlX11 (by decide) rfl rfl xrM_272_5 xw_222 dX11_pour_61 ?_
                refine lv_iload_n hx hb dX11_pour_64 rfl (lv_at hl 1 rfl) ?_
                have c24 := h.1
                have h := h.2
                refine x_iald C hw (xoM_275 hM) c24 dX11_pour_65 ?_
                refine lv_aload_n hx hb dX11_pour_66 rfl (lv_at hl 0 rfl) ?_
                refine x_getr (ci := 11) C hw 5 (xoM_272 hM) rfl inlX11 (by decide) rfl rfl xrM_272_5 xw_222 dX11_pour_67 ?_
                refine lv_iload_n hx hb dX11_pour_70 rfl (lv_at hl 3 rfl) ?_
                have c25 := h.1
                have h := h.2
                refine x_iald C hw (xoM_275 hM) c25 dX11_pour_71 ?_
                refine lv_icmp_eq (tgt := 82) hx hb dX11_pour_72 (by decide) (fun c26 => ?_) (fun c26 => ?_)
                · have h := h.1 c26
                  refine lv_iload hx hb dX11_pour_82 (lv_at hl 5 rfl) ?_
                  refine lv_aload_n hx hb dX11_pour_84 rfl (lv_at hl 0 rfl) ?_
                  refine x_getr (ci := 11) C hw 6 (xoM_272 hM) rfl inlX11 (by decide) rfl rfl xrM_272_6 xw_223 dX11_pour_85 ?_
                  refine lv_iload_n hx hb dX11_pour_88 rfl (lv_at hl 1 rfl) ?_
                  have c27 := h.1
                  have h := h.2
                  refine x_iald C hw (xoM_276 hM) c27 dX11_pour_89 ?_
                  refine lv_iload_n hx hb dX11_pour_90 rfl (lv_at hl 2 rfl) ?_
                  refine lv_isub hx hb dX11_pour_91 ?_
                  refine lv_icmp_gt (tgt := 109) hx hb dX11_pour_92 (by decide) (fun c28 => ?_) (fun c28 => ?_)
                  · have h := h.1 c28
                    refine lv_aload_n hx hb dX11_pour_109 rfl (lv_at hl 0 rfl) ?_
                    refine lv_iconst (v := 3) hx hb dX11_pour_110 (by decide) ?_
                    refine x_callz hw (x_runV (ci := 11) C hw (m_X11_is l C.2.2.2.2.2.2.2.2.1 hM h) (xoM_272 hM) rfl (x_gV xw_303 xw_304 xw_305 xw_5 xw_306) rfl rfl qX11_is ⟨(Nat.le_of_ble_eq_true rfl), (Nat.le_of_ble_eq_true rfl)⟩ rfl hl.1 rfl (Nat.le_of_ble_eq_true rfl) dX11_pour_111) (fun r30 u29 H locs hw h => ?_)
                    exact x_zret _ C hw h rfl dX11_pour_114
                  · have h := h.2 c28
                    refine lv_iload hx hb dX11_pour_95 (lv_at hl 5 rfl) ?_
                    refine lv_aload_n hx hb dX11_pour_97 rfl (lv_at hl 0 rfl) ?_
                    refine x_getr (ci := 11) C hw 6 (xoM_272 hM) rfl inlX11 (by decide) rfl rfl xrM_272_6 xw_223 dX11_pour_98 ?_
                    refine lv_iload_n hx hb dX11_pour_101 rfl (lv_at hl 3 rfl) ?_
                    have c31 := h.1
                    have h := h.2
                    refine x_iald C hw (xoM_276 hM) c31 dX11_pour_102 ?_
                    refine lv_iload hx hb dX11_pour_103 (lv_at hl 4 rfl) ?_
                    refine lv_isub hx hb dX11_pour_105 ?_
                    refine lv_icmp_le (tgt := 115) hx hb dX11_pour_106 (by decide) (fun c32 => ?_) (fun c32 => ?_)
                    · have h := h.1 c32
                      refine lv_iconst (v := 0) hx hb dX11_pour_115 (by decide) ?_
                      refine lv_istore (lv' := [(6, .int 0), (0, .ref (xad g 272)), (1, .int a1), (2, .int a2), (3, .int a3), (4, .int a4), (5, .int a5)]) hx hb dX11_pour_116 hl (by decide) rfl (fun ls hl => ?_)
                      obtain ⟨n9, h⟩ := h
                      exact s_X11_pour_L118 C hM n9 hw (lv_sub hl [1, 2, 3, 4, 5, 6, 0] rfl) h
                    · have h := h.2 c32
                      refine lv_aload_n hx hb dX11_pour_109 rfl (lv_at hl 0 rfl) ?_
                      refine lv_iconst (v := 3) hx hb dX11_pour_110 (by decide) ?_
                      refine x_callz hw (x_runV (ci := 11) C hw (m_X11_is l C.2.2.2.2.2.2.2.2.1 hM h) (xoM_272 hM) rfl (x_gV xw_303 xw_304 xw_305 xw_5 xw_306) rfl rfl qX11_is ⟨(Nat.le_of_ble_eq_true rfl), (Nat.le_of_ble_eq_true rfl)⟩ rfl hl.1 rfl (Nat.le_of_ble_eq_true rfl) dX11_pour_111) (fun r34 u33 H locs hw h => ?_)
                      exact x_zret _ C hw h rfl dX11_pour_114
                · have h := h.2 c26
                  refine lv_aload_n hx hb dX11_pour_75 rfl (lv_at hl 0 rfl) ?_
                  refine lv_bipush (v := 8) hx hb dX11_pour_76 (by decide) ?_
                  refine x_callz hw (x_runV (ci := 11) C hw (m_X11_is l C.2.2.2.2.2.2.2.2.1 hM h) (xoM_272 hM) rfl (x_gV xw_303 xw_304 xw_305 xw_5 xw_306) rfl rfl qX11_is ⟨(Nat.le_of_ble_eq_true rfl), (Nat.le_of_ble_eq_true rfl)⟩ rfl hl.1 rfl (Nat.le_of_ble_eq_true rfl) dX11_pour_78) (fun r36 u35 H locs hw h => ?_)
                  exact x_zret _ C hw h rfl dX11_pour_81
              · have h := h.2 c23
                refine lv_aload_n hx hb dX11_pour_54 rfl (lv_at hl 0 rfl) ?_
                refine lv_iconst (v := 2) hx hb dX11_pour_55 (by decide) ?_
                refine x_callz hw (x_runV (ci := 11) C hw (m_X11_is l C.2.2.2.2.2.2.2.2.1 hM h) (xoM_272 hM) rfl (x_gV xw_303 xw_304 xw_305 xw_5 xw_306) rfl rfl qX11_is ⟨(Nat.le_of_ble_eq_true rfl), (Nat.le_of_ble_eq_true rfl)⟩ rfl hl.1 rfl (Nat.le_of_ble_eq_true rfl) dX11_pour_56) (fun r38 u37 H locs hw h => ?_)
                exact x_zret _ C hw h rfl dX11_pour_59
          · have h := h.2 c17
            refine lv_aload_n hx hb dX11_pour_28 rfl (lv_at hl 0 rfl) ?_
            refine lv_iconst (v := 1) hx hb dX11_pour_29 (by decide) ?_
            refine x_callz hw (x_runV (ci := 11) C hw (m_X11_is l C.2.2.2.2.2.2.2.2.1 hM h) (xoM_272 hM) rfl (x_gV xw_303 xw_304 xw_305 xw_5 xw_306) rfl rfl qX11_is ⟨(Nat.le_of_ble_eq_true rfl), (Nat.le_of_ble_eq_true rfl)⟩ rfl hl.1 rfl (Nat.le_of_ble_eq_true rfl) dX11_pour_30) (fun r40 u39 H locs hw h => ?_)
            exact x_zret _ C hw h rfl dX11_pour_33
set_option maxHeartbeats 4000000 in
set_option maxRecDepth 100000 in
theorem m_X11_pour (l : Launch) {g : xG} (hD : x_D g) (hM : xpM g) {a1 : Int32} {a2 : Int32} {a3 : Int32} {a4 : Int32} {a5 : Int32} {u : xM} {Qf : Bool → xM → Prop} (h : p_X11_pour a1 a2 a3 a4 a5 u Qf) : Met l yX11_pour (Cond.code yX11_pour cX11_pour 8 (some .boolean) :: wsL_law) (x_rm 1 21) (va_Pc [.ref (xad g 272), .int a1, .int a2, .int a3, .int a4, .int a5] (x_B g u)) (x_Qz g Qf) 0 0 (x_A g) := by
  refine Met.ofW (cc := cX11_pour) (maxL := 8) (ret := (some .boolean)) (by decide) rfl ?_
  intro p e s m args below meth c s₁ B hml hv
  obtain ⟨rfl, hB⟩ := hv
  obtain ⟨C, hw⟩ := x_start B hml hD hB
  have hl := lv_entry [.ref (xad g 272), .int a1, .int a2, .int a3, .int a4, .int a5] (n := 8) (Nat.le_of_ble_eq_true rfl)
  rw [lg_entry_eq]
  exact s_X11_pour C hM hw hl h
set_option maxHeartbeats 4000000 in
set_option maxRecDepth 100000 in
theorem s_X11_isFrom {Qf : Bool → xM → Prop} {a1 : Int64} {a2 : Int64} {a3 : Int64} (C : x_C p s m args meth c g RX11 cX11_isFrom 6 (some .boolean)) {u : xM} {H : Heap} {locs : List Loc} {ls : Array Slot} (hw : x_W g s.heap H locs u) (hl : lv_has ls 6 [(0, .long a1), (2, .long a2), (4, .long a3)]) (h : p_X11_isFrom a1 a2 a3 u Qf) : W p l e (x_rm 0 0) s m args below meth c H locs 0 0 (MQ below (x_Qz g Qf) args s 0 0 (x_A g)) (F0 m 0 ls []) := by
  unfold p_X11_isFrom at h
  have hx := C.1
  have hb := C.2.1
  refine lv_lload_n hx hb dX11_isFrom_0 rfl (lv_at hl 0 rfl) ?_
  refine lv_lload_n hx hb dX11_isFrom_1 rfl (lv_at hl 1 rfl) ?_
  refine W.lcmp hx hb dX11_isFrom_2 ?_
  refine lv_if_lt (tgt := 17) hx hb dX11_isFrom_3 (by decide) (fun c1 => ?_) (fun c1 => ?_)
  · have h := h.1 c1
    refine lv_iconst (v := 0) hx hb dX11_isFrom_17 (by decide) ?_
    exact x_zret false C hw h rfl dX11_isFrom_18
  · have h := h.2 c1
    refine lv_lload_n hx hb dX11_isFrom_6 rfl (lv_at hl 0 rfl) ?_
    refine lv_lload hx hb dX11_isFrom_7 (lv_at hl 2 rfl) ?_
    refine W.lcmp hx hb dX11_isFrom_9 ?_
    refine lv_if_gt (tgt := 17) hx hb dX11_isFrom_10 (by decide) (fun c2 => ?_) (fun c2 => ?_)
    · have h := h.1 c2
      refine lv_iconst (v := 0) hx hb dX11_isFrom_17 (by decide) ?_
      exact x_zret false C hw h rfl dX11_isFrom_18
    · have h := h.2 c2
      refine lv_iconst (v := 1) hx hb dX11_isFrom_13 (by decide) ?_
      refine lv_goto (tgt := 18) hx hb dX11_isFrom_14 (by decide) ?_
      exact x_zret true C hw h rfl dX11_isFrom_18
set_option maxHeartbeats 4000000 in
set_option maxRecDepth 100000 in
theorem m_X11_isFrom (l : Launch) {g : xG} (hD : x_D g) {a1 : Int64} {a2 : Int64} {a3 : Int64} {u : xM} {Qf : Bool → xM → Prop} (h : p_X11_isFrom a1 a2 a3 u Qf) : Met l yX11_isFrom (Cond.code yX11_isFrom cX11_isFrom 6 (some .boolean) :: wsL_law) (x_rm 0 0) (va_Pc [.long a1, .long a2, .long a3] (x_B g u)) (x_Qz g Qf) 0 0 (x_A g) := by
  refine Met.ofW (cc := cX11_isFrom) (maxL := 6) (ret := (some .boolean)) (by decide) rfl ?_
  intro p e s m args below meth c s₁ B hml hv
  obtain ⟨rfl, hB⟩ := hv
  obtain ⟨C, hw⟩ := x_start B hml hD hB
  have hl := lv_entry [.long a1, .long a2, .long a3] (n := 6) (Nat.le_of_ble_eq_true rfl)
  rw [lg_entry_eq]
  exact s_X11_isFrom C hw hl h
set_option maxHeartbeats 4000000 in
set_option maxRecDepth 100000 in
theorem s_X11_four_L3 {Qf : xM → Prop} (C : x_C p s m args meth c g RX11 cX11_four 3 none) (hM : xpM g) : ∀ (nn : Nat) {v1 : Int32} {v2 : Int32} {u : xM} {H : Heap} {locs : List Loc} {ls : Array Slot} (hw : x_W g s.heap H locs u) (hl : lv_has ls 3 [(0, .ref (xad g 272)), (1, .int v1), (2, .int v2)]) (h : p_X11_four_L3 Qf nn v1 v2 u), W p l e (x_rm 0 0) s m args below meth c H locs 0 0 (MQ below (x_Qv g Qf) args s 0 0 (x_A g)) (F0 m 3 ls []) := by
  intro nn
  induction nn with
  | zero => intro v1 v2 u H locs ls hw hl h; exact h.elim
  | succ nn ih =>
    intro v1 v2 u H locs ls hw hl h
    unfold p_X11_four_L3 at h
    have hx := C.1
    have hb := C.2.1
    refine lv_iload_n hx hb dX11_four_3 rfl (lv_at hl 2 rfl) ?_
    refine lv_if_lt (tgt := 36) hx hb dX11_four_4 (by decide) (fun c1 => ?_) (fun c1 => ?_)
    · have h := h.1 c1
      exact x_vret C hw h dX11_four_36
    · have h := h.2 c1
      refine lv_aload_n hx hb dX11_four_7 rfl (lv_at hl 0 rfl) ?_
      refine x_getr (ci := 11) C hw 8 (xoM_272 hM) rfl inlX11 (by decide) rfl rfl xrM_272_8 xw_225 dX11_four_8 ?_
      refine lv_aload_n hx hb dX11_four_11 rfl (lv_at hl 0 rfl) ?_
      refine x_geti (ci := 11) C hw 10 (xoM_272 hM) rfl inlX11 (by decide) rfl rfl xw_387 dX11_four_12 ?_
      refine lv_iload_n hx hb dX11_four_15 rfl (lv_at hl 1 rfl) ?_
      refine lv_iload_n hx hb dX11_four_16 rfl (lv_at hl 2 rfl) ?_
      refine lv_ishr hx hb dX11_four_17 ?_
      refine lv_i2b hx hb dX11_four_18 rfl ?_
      have c2 := h.1
      have h := h.2
      obtain ⟨u3, eu3⟩ : ∃ q : xM, q = si u 278 (gi u 272 10).toNatClampNeg ((v1 >>> (v2 &&& 31)).toInt8.toInt32).toInt8.toInt32 := ⟨_, rfl⟩
      have h := h u3 eu3
      refine x_bast C hw (xoM_278 hM) c2 dX11_four_19 eu3 (fun H locs hw => ?_)
      refine lv_aload_n hx hb dX11_four_20 rfl (lv_at hl 0 rfl) ?_
      refine lv_dup hx hb dX11_four_21 rfl ?_
      refine x_geti (ci := 11) C hw 10 (xoM_272 hM) rfl inlX11 (by decide) rfl rfl xw_387 dX11_four_22 ?_
      refine lv_iconst (v := 1) hx hb dX11_four_25 (by decide) ?_
      refine lv_iadd hx hb dX11_four_26 ?_
      obtain ⟨u4, eu4⟩ : ∃ q : xM, q = si u3 272 10 ((gi u3 272 10) + (1 : Int32)) := ⟨_, rfl⟩
      have h := h u4 eu4
      refine x_puti (ci := 11) (ty := .int) C hw 10 (xoM_272 hM) rfl inlX11 tyX11_ok nmX11 (by decide) rfl rfl xw_387 rfl (by decide +kernel) rfl rfl dX11_four_27 eu4 (fun H locs hw => ?_)
      obtain ⟨x5, ex5⟩ : ∃ y : Int32, y = v2 + (-8) := ⟨_, rfl⟩
      have h := h x5 ex5
      refine lv_iinc (v := x5) (lv' := [(2, .int x5), (0, .ref (xad g 272)), (1, .int v1)]) hx hb dX11_four_30 hl (k := 2) rfl (by rw [ex5]; rfl) (by decide) rfl (fun ls hl => ?_)
      refine lv_goto (tgt := 3) hx hb dX11_four_33 (by decide) ?_
      exact ih hw (lv_sub hl [1, 2, 0] rfl) h
set_option maxHeartbeats 4000000 in
set_option maxRecDepth 100000 in
theorem s_X11_four {Qf : xM → Prop} {a1 : Int32} (C : x_C p s m args meth c g RX11 cX11_four 3 none) (hM : xpM g) {u : xM} {H : Heap} {locs : List Loc} {ls : Array Slot} (hw : x_W g s.heap H locs u) (hl : lv_has ls 3 [(0, .ref (xad g 272)), (1, .int a1)]) (h : p_X11_four a1 u Qf) : W p l e (x_rm 0 0) s m args below meth c H locs 0 0 (MQ below (x_Qv g Qf) args s 0 0 (x_A g)) (F0 m 0 ls []) := by
  unfold p_X11_four at h
  have hx := C.1
  have hb := C.2.1
  refine lv_bipush (v := 24) hx hb dX11_four_0 (by decide) ?_
  refine lv_istore_n (lv' := [(2, .int 24), (0, .ref (xad g 272)), (1, .int a1)]) hx hb dX11_four_2 rfl hl (by decide) rfl (fun ls hl => ?_)
  obtain ⟨n9, h⟩ := h
  exact s_X11_four_L3 C hM n9 hw (lv_sub hl [1, 2, 0] rfl) h
set_option maxHeartbeats 4000000 in
set_option maxRecDepth 100000 in
theorem m_X11_four (l : Launch) {g : xG} (hD : x_D g) (hM : xpM g) {a1 : Int32} {u : xM} {Qf : xM → Prop} (h : p_X11_four a1 u Qf) : Met l yX11_four (Cond.code yX11_four cX11_four 3 none :: wsL_law) (x_rm 0 0) (va_Pc [.ref (xad g 272), .int a1] (x_B g u)) (x_Qv g Qf) 0 0 (x_A g) := by
  refine Met.ofW (cc := cX11_four) (maxL := 3) (ret := none) (by decide) rfl ?_
  intro p e s m args below meth c s₁ B hml hv
  obtain ⟨rfl, hB⟩ := hv
  obtain ⟨C, hw⟩ := x_start B hml hD hB
  have hl := lv_entry [.ref (xad g 272), .int a1] (n := 3) (Nat.le_of_ble_eq_true rfl)
  rw [lg_entry_eq]
  exact s_X11_four C hM hw hl h
set_option maxHeartbeats 4000000 in
set_option maxRecDepth 100000 in
theorem s_X11_feed {Qf : Int32 → xM → Prop} {a1 : Int32} {a2 : Int32} {a3 : Int32} {a4 : Int32} {a5 : Int32} (C : x_C p s m args meth c g RX11 cX11_feed 6 (some .int)) (hM : xpM g) {u : xM} {H : Heap} {locs : List Loc} {ls : Array Slot} (hw : x_W g s.heap H locs u) (hl : lv_has ls 6 [(0, .ref (xad g 272)), (1, .int a1), (2, .int a2), (3, .int a3), (4, .int a4), (5, .int a5)]) (h : p_X11_feed a1 a2 a3 a4 a5 u Qf) : W p l e (x_rm 1 22) s m args below meth c H locs 0 0 (MQ below (x_Qi g Qf) args s 0 0 (x_A g)) (F0 m 0 ls []) := by
  unfold p_X11_feed at h
  have hx := C.1
  have hb := C.2.1
  refine lv_aload_n hx hb dX11_feed_0 rfl (lv_at hl 0 rfl) ?_
  refine x_geti (ci := 11) C hw 10 (xoM_272 hM) rfl inlX11 (by decide) rfl rfl xw_387 dX11_feed_1 ?_
  refine lv_bipush (v := 20) hx hb dX11_feed_4 (by decide) ?_
  refine lv_iadd hx hb dX11_feed_6 ?_
  refine lv_sipush (v := 900) hx hb dX11_feed_7 (by decide) ?_
  refine lv_icmp_le (tgt := 15) hx hb dX11_feed_10 (by decide) (fun c1 => ?_) (fun c1 => ?_)
  · have h := h.1 c1
    refine lv_aload_n hx hb dX11_feed_15 rfl (lv_at hl 0 rfl) ?_
    refine lv_iload_n hx hb dX11_feed_16 rfl (lv_at hl 1 rfl) ?_
    refine x_callv hw (x_runV (ci := 11) C hw (m_X11_four l C.2.2.2.2.2.2.2.2.1 hM h) (xoM_272 hM) rfl (x_gV xw_388 xw_389 xw_390 xw_5 xw_391) rfl rfl qX11_four ⟨(Nat.le_of_ble_eq_true rfl), (Nat.le_of_ble_eq_true rfl)⟩ rfl hl.1 rfl (Nat.le_of_ble_eq_true rfl) dX11_feed_17) (fun u2 H locs hw h => ?_)
    refine lv_aload_n hx hb dX11_feed_20 rfl (lv_at hl 0 rfl) ?_
    refine lv_iload_n hx hb dX11_feed_21 rfl (lv_at hl 2 rfl) ?_
    refine x_callv hw (x_runV (ci := 11) C hw (m_X11_four l C.2.2.2.2.2.2.2.2.1 hM h) (xoM_272 hM) rfl (x_gV xw_388 xw_389 xw_390 xw_5 xw_391) rfl rfl qX11_four ⟨(Nat.le_of_ble_eq_true rfl), (Nat.le_of_ble_eq_true rfl)⟩ rfl hl.1 rfl (Nat.le_of_ble_eq_true rfl) dX11_feed_22) (fun u3 H locs hw h => ?_)
    refine lv_aload_n hx hb dX11_feed_25 rfl (lv_at hl 0 rfl) ?_
    refine lv_iload_n hx hb dX11_feed_26 rfl (lv_at hl 3 rfl) ?_
    refine x_callv hw (x_runV (ci := 11) C hw (m_X11_four l C.2.2.2.2.2.2.2.2.1 hM h) (xoM_272 hM) rfl (x_gV xw_388 xw_389 xw_390 xw_5 xw_391) rfl rfl qX11_four ⟨(Nat.le_of_ble_eq_true rfl), (Nat.le_of_ble_eq_true rfl)⟩ rfl hl.1 rfl (Nat.le_of_ble_eq_true rfl) dX11_feed_27) (fun u4 H locs hw h => ?_)
    refine lv_aload_n hx hb dX11_feed_30 rfl (lv_at hl 0 rfl) ?_
    refine lv_iload hx hb dX11_feed_31 (lv_at hl 4 rfl) ?_
    refine x_callv hw (x_runV (ci := 11) C hw (m_X11_four l C.2.2.2.2.2.2.2.2.1 hM h) (xoM_272 hM) rfl (x_gV xw_388 xw_389 xw_390 xw_5 xw_391) rfl rfl qX11_four ⟨(Nat.le_of_ble_eq_true rfl), (Nat.le_of_ble_eq_true rfl)⟩ rfl hl.1 rfl (Nat.le_of_ble_eq_true rfl) dX11_feed_33) (fun u5 H locs hw h => ?_)
    refine lv_aload_n hx hb dX11_feed_36 rfl (lv_at hl 0 rfl) ?_
    refine lv_iload hx hb dX11_feed_37 (lv_at hl 5 rfl) ?_
    refine x_callv hw (x_runV (ci := 11) C hw (m_X11_four l C.2.2.2.2.2.2.2.2.1 hM h) (xoM_272 hM) rfl (x_gV xw_388 xw_389 xw_390 xw_5 xw_391) rfl rfl qX11_four ⟨(Nat.le_of_ble_eq_true rfl), (Nat.le_of_ble_eq_true rfl)⟩ rfl hl.1 rfl (Nat.le_of_ble_eq_true rfl) dX11_feed_39) (fun u6 H locs hw h => ?_)
    refine lv_aload_n hx hb dX11_feed_42 rfl (lv_at hl 0 rfl) ?_
    refine x_geti (ci := 11) C hw 10 (xoM_272 hM) rfl inlX11 (by decide) rfl rfl xw_387 dX11_feed_43 ?_
    exact x_iret C hw h dX11_feed_46
  · have h := h.2 c1
    refine lv_iconst (v := -1) hx hb dX11_feed_13 (by decide) ?_
    exact x_iret C hw h dX11_feed_14
set_option maxHeartbeats 4000000 in
set_option maxRecDepth 100000 in
theorem m_X11_feed (l : Launch) {g : xG} (hD : x_D g) (hM : xpM g) {a1 : Int32} {a2 : Int32} {a3 : Int32} {a4 : Int32} {a5 : Int32} {u : xM} {Qf : Int32 → xM → Prop} (h : p_X11_feed a1 a2 a3 a4 a5 u Qf) : Met l yX11_feed (Cond.code yX11_feed cX11_feed 6 (some .int) :: wsL_law) (x_rm 1 22) (va_Pc [.ref (xad g 272), .int a1, .int a2, .int a3, .int a4, .int a5] (x_B g u)) (x_Qi g Qf) 0 0 (x_A g) := by
  refine Met.ofW (cc := cX11_feed) (maxL := 6) (ret := (some .int)) (by decide) rfl ?_
  intro p e s m args below meth c s₁ B hml hv
  obtain ⟨rfl, hB⟩ := hv
  obtain ⟨C, hw⟩ := x_start B hml hD hB
  have hl := lv_entry [.ref (xad g 272), .int a1, .int a2, .int a3, .int a4, .int a5] (n := 6) (Nat.le_of_ble_eq_true rfl)
  rw [lg_entry_eq]
  exact s_X11_feed C hM hw hl h
set_option maxHeartbeats 4000000 in
set_option maxRecDepth 100000 in
theorem s_X11_byteAt {Qf : Int32 → xM → Prop} {a1 : Int32} (C : x_C p s m args meth c g RX11 cX11_byteAt 2 (some .int)) (hM : xpM g) {u : xM} {H : Heap} {locs : List Loc} {ls : Array Slot} (hw : x_W g s.heap H locs u) (hl : lv_has ls 2 [(0, .ref (xad g 272)), (1, .int a1)]) (h : p_X11_byteAt a1 u Qf) : W p l e (x_rm 0 0) s m args below meth c H locs 0 0 (MQ below (x_Qi g Qf) args s 0 0 (x_A g)) (F0 m 0 ls []) := by
  unfold p_X11_byteAt at h
  have hx := C.1
  have hb := C.2.1
  refine lv_iload_n hx hb dX11_byteAt_0 rfl (lv_at hl 1 rfl) ?_
  refine lv_aload_n hx hb dX11_byteAt_1 rfl (lv_at hl 0 rfl) ?_
  refine x_geti (ci := 11) C hw 11 (xoM_272 hM) rfl inlX11 (by decide) rfl rfl xw_636 dX11_byteAt_2 ?_
  refine lv_icmp_ge (tgt := 21) hx hb dX11_byteAt_5 (by decide) (fun c1 => ?_) (fun c1 => ?_)
  · have h := h.1 c1
    refine lv_iconst (v := -1) hx hb dX11_byteAt_21 (by decide) ?_
    exact x_iret C hw h dX11_byteAt_22
  · have h := h.2 c1
    refine lv_aload_n hx hb dX11_byteAt_8 rfl (lv_at hl 0 rfl) ?_
    refine x_getr (ci := 11) C hw 9 (xoM_272 hM) rfl inlX11 (by decide) rfl rfl xrM_272_9 xw_226 dX11_byteAt_9 ?_
    refine lv_iload_n hx hb dX11_byteAt_12 rfl (lv_at hl 1 rfl) ?_
    have c2 := h.1
    have h := h.2
    refine x_bald C hw (xoM_279 hM) c2 dX11_byteAt_13 ?_
    refine lv_sipush (v := 255) hx hb dX11_byteAt_14 (by decide) ?_
    refine lv_iand hx hb dX11_byteAt_17 ?_
    refine lv_goto (tgt := 22) hx hb dX11_byteAt_18 (by decide) ?_
    exact x_iret C hw h dX11_byteAt_22
set_option maxHeartbeats 4000000 in
set_option maxRecDepth 100000 in
theorem m_X11_byteAt (l : Launch) {g : xG} (hD : x_D g) (hM : xpM g) {a1 : Int32} {u : xM} {Qf : Int32 → xM → Prop} (h : p_X11_byteAt a1 u Qf) : Met l yX11_byteAt (Cond.code yX11_byteAt cX11_byteAt 2 (some .int) :: wsL_law) (x_rm 0 0) (va_Pc [.ref (xad g 272), .int a1] (x_B g u)) (x_Qi g Qf) 0 0 (x_A g) := by
  refine Met.ofW (cc := cX11_byteAt) (maxL := 2) (ret := (some .int)) (by decide) rfl ?_
  intro p e s m args below meth c s₁ B hml hv
  obtain ⟨rfl, hB⟩ := hv
  obtain ⟨C, hw⟩ := x_start B hml hD hB
  have hl := lv_entry [.ref (xad g 272), .int a1] (n := 2) (Nat.le_of_ble_eq_true rfl)
  rw [lg_entry_eq]
  exact s_X11_byteAt C hM hw hl h
end
