section
variable {p : Program} {l : Launch} {e : Env} {s : State} {m : MethodId} {args : Array Value} {below : List Frame} {meth : Method} {c : Code} {g : xG}
set_option maxHeartbeats 4000000 in
set_option maxRecDepth 100000 in
theorem s_X8_advance_L117 {o : Nat} {Qf : xM → Prop} (C : x_C p s m args meth c g RX8 cX8_advance 1 none) (ho : xpT g o) {w1 : Int32} {u : xM} {H : Heap} {locs : List Loc} {ls : Array Slot} (hw : x_W g s.heap H locs u) (hl : lv_has ls 1 [(0, .ref (xad g o))]) (h : p_X8_advance_L117 o Qf w1 u) : W p l e (x_rm 0 0) s m args below meth c H locs 0 0 (MQ below (x_Qv g Qf) args s 0 0 (x_A g)) (F0 m 117 ls [.int w1, .ref (xad g o)]) := by
  unfold p_X8_advance_L117 at h
  have hx := C.1
  have hb := C.2.1
  obtain ⟨u1, eu1⟩ : ∃ q : xM, q = si u o 12 w1 := ⟨_, rfl⟩
  have h := h u1 eu1
  refine x_puti (ci := 8) (ty := .int) C hw 12 (xoT_0 ho) rfl inlX8 tyX8_ok nmX8 (by decide) rfl rfl xw_476 rfl (by decide +kernel) rfl rfl dX8_advance_117 eu1 (fun H locs hw => ?_)
  refine lv_aload_n hx hb dX8_advance_120 rfl (lv_at hl 0 rfl) ?_
  refine lv_aload_n hx hb dX8_advance_121 rfl (lv_at hl 0 rfl) ?_
  refine x_geti (ci := 8) C hw 8 (xoT_0 ho) rfl inlX8 (by decide) rfl rfl xw_472 dX8_advance_122 ?_
  refine lv_iconst (v := 3) hx hb dX8_advance_125 (by decide) ?_
  refine lv_icmp_ne (tgt := 142) hx hb dX8_advance_126 (by decide) (fun c2 => ?_) (fun c2 => ?_)
  · have h := h.1 c2
    refine lv_iconst (v := 0) hx hb dX8_advance_142 (by decide) ?_
    obtain ⟨u3, eu3⟩ : ∃ q : xM, q = si u1 o 13 (0 : Int32) := ⟨_, rfl⟩
    have h := h u3 eu3
    refine x_puti (ci := 8) (ty := .int) C hw 13 (xoT_0 ho) rfl inlX8 tyX8_ok nmX8 (by decide) rfl rfl xw_477 rfl (by decide +kernel) rfl rfl dX8_advance_143 eu3 (fun H locs hw => ?_)
    exact x_vret C hw h dX8_advance_146
  · have h := h.2 c2
    refine lv_aload_n hx hb dX8_advance_129 rfl (lv_at hl 0 rfl) ?_
    refine x_getr (ci := 8) C hw 4 (xoT_0 ho) rfl inlX8 (by decide) rfl rfl (xrT_0_4 ho) xw_138 dX8_advance_130 ?_
    refine lv_aload_n hx hb dX8_advance_133 rfl (lv_at hl 0 rfl) ?_
    refine x_geti (ci := 8) C hw 7 (xoT_0 ho) rfl inlX8 (by decide) rfl rfl xw_437 dX8_advance_134 ?_
    have c4 := h.1
    have h := h.2
    refine x_lald C hw (xoT_4 ho) c4 dX8_advance_137 ?_
    refine lv_l2i hx hb dX8_advance_138 rfl ?_
    refine lv_goto (tgt := 143) hx hb dX8_advance_139 (by decide) ?_
    obtain ⟨u5, eu5⟩ : ∃ q : xM, q = si u1 o 13 ((gl u1 (o + 4) (gi u1 o 7).toNatClampNeg).toInt32) := ⟨_, rfl⟩
    have h := h u5 eu5
    refine x_puti (ci := 8) (ty := .int) C hw 13 (xoT_0 ho) rfl inlX8 tyX8_ok nmX8 (by decide) rfl rfl xw_477 rfl (by decide +kernel) rfl rfl dX8_advance_143 eu5 (fun H locs hw => ?_)
    exact x_vret C hw h dX8_advance_146
set_option maxHeartbeats 4000000 in
set_option maxRecDepth 100000 in
theorem s_X8_advance_L91 {o : Nat} {Qf : xM → Prop} (C : x_C p s m args meth c g RX8 cX8_advance 1 none) (ho : xpT g o) {w1 : Int64} {u : xM} {H : Heap} {locs : List Loc} {ls : Array Slot} (hw : x_W g s.heap H locs u) (hl : lv_has ls 1 [(0, .ref (xad g o))]) (h : p_X8_advance_L91 o Qf w1 u) : W p l e (x_rm 0 0) s m args below meth c H locs 0 0 (MQ below (x_Qv g Qf) args s 0 0 (x_A g)) (F0 m 91 ls [.long w1, .ref (xad g o)]) := by
  unfold p_X8_advance_L91 at h
  have hx := C.1
  have hb := C.2.1
  obtain ⟨u1, eu1⟩ : ∃ q : xM, q = sl u o 10 w1 := ⟨_, rfl⟩
  have h := h u1 eu1
  refine x_putl (ci := 8) C hw 10 (xoT_0 ho) rfl inlX8 tyX8_ok nmX8 (by decide) rfl rfl xw_475 rfl (by decide +kernel) dX8_advance_91 eu1 (fun H locs hw => ?_)
  refine lv_aload_n hx hb dX8_advance_94 rfl (lv_at hl 0 rfl) ?_
  refine lv_aload_n hx hb dX8_advance_95 rfl (lv_at hl 0 rfl) ?_
  refine x_geti (ci := 8) C hw 8 (xoT_0 ho) rfl inlX8 (by decide) rfl rfl xw_472 dX8_advance_96 ?_
  refine lv_iconst (v := 2) hx hb dX8_advance_99 (by decide) ?_
  refine lv_icmp_ne (tgt := 116) hx hb dX8_advance_100 (by decide) (fun c2 => ?_) (fun c2 => ?_)
  · have h := h.1 c2
    refine lv_iconst (v := 0) hx hb dX8_advance_116 (by decide) ?_
    exact s_X8_advance_L117 C ho hw (lv_sub hl [0] rfl) h
  · have h := h.2 c2
    refine lv_aload_n hx hb dX8_advance_103 rfl (lv_at hl 0 rfl) ?_
    refine x_getr (ci := 8) C hw 4 (xoT_0 ho) rfl inlX8 (by decide) rfl rfl (xrT_0_4 ho) xw_138 dX8_advance_104 ?_
    refine lv_aload_n hx hb dX8_advance_107 rfl (lv_at hl 0 rfl) ?_
    refine x_geti (ci := 8) C hw 7 (xoT_0 ho) rfl inlX8 (by decide) rfl rfl xw_437 dX8_advance_108 ?_
    have c3 := h.1
    have h := h.2
    refine x_lald C hw (xoT_4 ho) c3 dX8_advance_111 ?_
    refine lv_l2i hx hb dX8_advance_112 rfl ?_
    refine lv_goto (tgt := 117) hx hb dX8_advance_113 (by decide) ?_
    exact s_X8_advance_L117 C ho hw (lv_sub hl [0] rfl) h
set_option maxHeartbeats 4000000 in
set_option maxRecDepth 100000 in
theorem s_X8_advance_L27 {o : Nat} {Qf : xM → Prop} (C : x_C p s m args meth c g RX8 cX8_advance 1 none) (ho : xpT g o) {w1 : Int32} {u : xM} {H : Heap} {locs : List Loc} {ls : Array Slot} (hw : x_W g s.heap H locs u) (hl : lv_has ls 1 [(0, .ref (xad g o))]) (h : p_X8_advance_L27 o Qf w1 u) : W p l e (x_rm 0 0) s m args below meth c H locs 0 0 (MQ below (x_Qv g Qf) args s 0 0 (x_A g)) (F0 m 27 ls [.int w1, .ref (xad g o)]) := by
  unfold p_X8_advance_L27 at h
  have hx := C.1
  have hb := C.2.1
  obtain ⟨u1, eu1⟩ : ∃ q : xM, q = si u o 7 w1 := ⟨_, rfl⟩
  have h := h u1 eu1
  refine x_puti (ci := 8) (ty := .int) C hw 7 (xoT_0 ho) rfl inlX8 tyX8_ok nmX8 (by decide) rfl rfl xw_437 rfl (by decide +kernel) rfl rfl dX8_advance_27 eu1 (fun H locs hw => ?_)
  refine lv_aload_n hx hb dX8_advance_30 rfl (lv_at hl 0 rfl) ?_
  refine lv_aload_n hx hb dX8_advance_31 rfl (lv_at hl 0 rfl) ?_
  refine x_getr (ci := 8) C hw 2 (xoT_0 ho) rfl inlX8 (by decide) rfl rfl (xrT_0_2 ho) xw_136 dX8_advance_32 ?_
  refine lv_aload_n hx hb dX8_advance_35 rfl (lv_at hl 0 rfl) ?_
  refine x_geti (ci := 8) C hw 7 (xoT_0 ho) rfl inlX8 (by decide) rfl rfl xw_437 dX8_advance_36 ?_
  have c2 := h.1
  have h := h.2
  refine x_iald C hw (xoT_2 ho) c2 dX8_advance_39 ?_
  obtain ⟨u3, eu3⟩ : ∃ q : xM, q = si u1 o 8 (gi u1 (o + 2) (gi u1 o 7).toNatClampNeg) := ⟨_, rfl⟩
  have h := h u3 eu3
  refine x_puti (ci := 8) (ty := .int) C hw 8 (xoT_0 ho) rfl inlX8 tyX8_ok nmX8 (by decide) rfl rfl xw_472 rfl (by decide +kernel) rfl rfl dX8_advance_40 eu3 (fun H locs hw => ?_)
  refine lv_aload_n hx hb dX8_advance_43 rfl (lv_at hl 0 rfl) ?_
  refine lv_aload_n hx hb dX8_advance_44 rfl (lv_at hl 0 rfl) ?_
  refine x_getr (ci := 8) C hw 3 (xoT_0 ho) rfl inlX8 (by decide) rfl rfl (xrT_0_3 ho) xw_137 dX8_advance_45 ?_
  refine lv_aload_n hx hb dX8_advance_48 rfl (lv_at hl 0 rfl) ?_
  refine x_geti (ci := 8) C hw 7 (xoT_0 ho) rfl inlX8 (by decide) rfl rfl xw_437 dX8_advance_49 ?_
  have c4 := h.1
  have h := h.2
  refine x_iald C hw (xoT_3 ho) c4 dX8_advance_52 ?_
  obtain ⟨u5, eu5⟩ : ∃ q : xM, q = si u3 o 9 (gi u3 (o + 3) (gi u3 o 7).toNatClampNeg) := ⟨_, rfl⟩
  have h := h u5 eu5
  refine x_puti (ci := 8) (ty := .int) C hw 9 (xoT_0 ho) rfl inlX8 tyX8_ok nmX8 (by decide) rfl rfl xw_473 rfl (by decide +kernel) rfl rfl dX8_advance_53 eu5 (fun H locs hw => ?_)
  refine lv_aload_n hx hb dX8_advance_56 rfl (lv_at hl 0 rfl) ?_
  refine lv_aload_n hx hb dX8_advance_57 rfl (lv_at hl 0 rfl) ?_
  refine x_getr (ci := 8) C hw 5 (xoT_0 ho) rfl inlX8 (by decide) rfl rfl (xrT_0_5 ho) xw_139 dX8_advance_58 ?_
  refine lv_aload_n hx hb dX8_advance_61 rfl (lv_at hl 0 rfl) ?_
  refine x_geti (ci := 8) C hw 7 (xoT_0 ho) rfl inlX8 (by decide) rfl rfl xw_437 dX8_advance_62 ?_
  have c6 := h.1
  have h := h.2
  refine x_iald C hw (xoT_5 ho) c6 dX8_advance_65 ?_
  obtain ⟨u7, eu7⟩ : ∃ q : xM, q = si u5 o 11 (gi u5 (o + 5) (gi u5 o 7).toNatClampNeg) := ⟨_, rfl⟩
  have h := h u7 eu7
  refine x_puti (ci := 8) (ty := .int) C hw 11 (xoT_0 ho) rfl inlX8 tyX8_ok nmX8 (by decide) rfl rfl xw_474 rfl (by decide +kernel) rfl rfl dX8_advance_66 eu7 (fun H locs hw => ?_)
  refine lv_aload_n hx hb dX8_advance_69 rfl (lv_at hl 0 rfl) ?_
  refine lv_aload_n hx hb dX8_advance_70 rfl (lv_at hl 0 rfl) ?_
  refine x_geti (ci := 8) C hw 8 (xoT_0 ho) rfl inlX8 (by decide) rfl rfl xw_472 dX8_advance_71 ?_
  refine lv_iconst (v := 1) hx hb dX8_advance_74 (by decide) ?_
  refine lv_icmp_ne (tgt := 90) hx hb dX8_advance_75 (by decide) (fun c8 => ?_) (fun c8 => ?_)
  · have h := h.1 c8
    refine lv_lconst (v := 0) hx hb dX8_advance_90 (by decide) ?_
    exact s_X8_advance_L91 C ho hw (lv_sub hl [0] rfl) h
  · have h := h.2 c8
    refine lv_aload_n hx hb dX8_advance_78 rfl (lv_at hl 0 rfl) ?_
    refine x_getr (ci := 8) C hw 4 (xoT_0 ho) rfl inlX8 (by decide) rfl rfl (xrT_0_4 ho) xw_138 dX8_advance_79 ?_
    refine lv_aload_n hx hb dX8_advance_82 rfl (lv_at hl 0 rfl) ?_
    refine x_geti (ci := 8) C hw 7 (xoT_0 ho) rfl inlX8 (by decide) rfl rfl xw_437 dX8_advance_83 ?_
    have c9 := h.1
    have h := h.2
    refine x_lald C hw (xoT_4 ho) c9 dX8_advance_86 ?_
    refine lv_goto (tgt := 91) hx hb dX8_advance_87 (by decide) ?_
    exact s_X8_advance_L91 C ho hw (lv_sub hl [0] rfl) h
set_option maxHeartbeats 4000000 in
set_option maxRecDepth 100000 in
theorem s_X8_advance {o : Nat} {Qf : xM → Prop} (C : x_C p s m args meth c g RX8 cX8_advance 1 none) (ho : xpT g o) {u : xM} {H : Heap} {locs : List Loc} {ls : Array Slot} (hw : x_W g s.heap H locs u) (hl : lv_has ls 1 [(0, .ref (xad g o))]) (h : p_X8_advance o u Qf) : W p l e (x_rm 0 0) s m args below meth c H locs 0 0 (MQ below (x_Qv g Qf) args s 0 0 (x_A g)) (F0 m 0 ls []) := by
  unfold p_X8_advance at h
  have hx := C.1
  have hb := C.2.1
  refine lv_aload_n hx hb dX8_advance_0 rfl (lv_at hl 0 rfl) ?_
  refine lv_aload_n hx hb dX8_advance_1 rfl (lv_at hl 0 rfl) ?_
  refine x_geti (ci := 8) C hw 7 (xoT_0 ho) rfl inlX8 (by decide) rfl rfl xw_437 dX8_advance_2 ?_
  refine lv_iconst (v := 1) hx hb dX8_advance_5 (by decide) ?_
  refine lv_iadd hx hb dX8_advance_6 ?_
  refine lv_aload_n hx hb dX8_advance_7 rfl (lv_at hl 0 rfl) ?_
  refine x_geti (ci := 8) C hw 6 (xoT_0 ho) rfl inlX8 (by decide) rfl rfl xw_431 dX8_advance_8 ?_
  refine lv_icmp_ge (tgt := 23) hx hb dX8_advance_11 (by decide) (fun c1 => ?_) (fun c1 => ?_)
  · have h := h.1 c1
    refine lv_aload_n hx hb dX8_advance_23 rfl (lv_at hl 0 rfl) ?_
    refine x_geti (ci := 8) C hw 7 (xoT_0 ho) rfl inlX8 (by decide) rfl rfl xw_437 dX8_advance_24 ?_
    exact s_X8_advance_L27 C ho hw (lv_sub hl [0] rfl) h
  · have h := h.2 c1
    refine lv_aload_n hx hb dX8_advance_14 rfl (lv_at hl 0 rfl) ?_
    refine x_geti (ci := 8) C hw 7 (xoT_0 ho) rfl inlX8 (by decide) rfl rfl xw_437 dX8_advance_15 ?_
    refine lv_iconst (v := 1) hx hb dX8_advance_18 (by decide) ?_
    refine lv_iadd hx hb dX8_advance_19 ?_
    refine lv_goto (tgt := 27) hx hb dX8_advance_20 (by decide) ?_
    exact s_X8_advance_L27 C ho hw (lv_sub hl [0] rfl) h
set_option maxHeartbeats 4000000 in
set_option maxRecDepth 100000 in
theorem m_X8_advance (l : Launch) {g : xG} (hD : x_D g) {o : Nat} (ho : xpT g o) {u : xM} {Qf : xM → Prop} (h : p_X8_advance o u Qf) : Met l yX8_advance (Cond.code yX8_advance cX8_advance 1 none :: wsL_law) (x_rm 0 0) (va_Pc [.ref (xad g o)] (x_B g u)) (x_Qv g Qf) 0 0 (x_A g) := by
  refine Met.ofW (cc := cX8_advance) (maxL := 1) (ret := none) (by decide) rfl ?_
  intro p e s m args below meth c s₁ B hml hv
  obtain ⟨rfl, hB⟩ := hv
  obtain ⟨C, hw⟩ := x_start B hml hD hB
  have hl := lv_entry [.ref (xad g o)] (n := 1) (Nat.le_of_ble_eq_true rfl)
  rw [lg_entry_eq]
  exact s_X8_advance C ho hw hl h
set_option maxHeartbeats 4000000 in
set_option maxRecDepth 100000 in
theorem s_X8_begin_L63 {o : Nat} {Qf : xM → Prop} (C : x_C p s m args meth c g RX8 cX8_begin 6 none) (ho : xpT g o) (hX : xpX g) {v3 : Int32} {u : xM} {H : Heap} {locs : List Loc} {ls : Array Slot} (hw : x_W g s.heap H locs u) (hl : lv_has ls 6 [(0, .ref (xad g o)), (3, .int v3)]) (h : p_X8_begin_L63 o Qf v3 u) : W p l e (x_rm 4 97) s m args below meth c H locs 0 0 (MQ below (x_Qv g Qf) args s 0 0 (x_A g)) (F0 m 63 ls []) := by
  unfold p_X8_begin_L63 at h
  have hx := C.1
  have hb := C.2.1
  refine lv_aload_n hx hb dX8_begin_63 rfl (lv_at hl 0 rfl) ?_
  refine lv_iconst (v := 0) hx hb dX8_begin_64 (by decide) ?_
  refine lv_iload_n hx hb dX8_begin_65 rfl (lv_at hl 1 rfl) ?_
  refine lv_lconst (v := 0) hx hb dX8_begin_66 (by decide) ?_
  refine x_callv hw (x_runV (ci := 8) C hw (m_X8_add l C.2.2.2.2.2.2.2.2.1 ho h) (xoT_0 ho) rfl (x_gV xw_452 xw_453 xw_454 xw_122 xw_455) rfl rfl qX8_add ⟨(Nat.le_of_ble_eq_true rfl), (Nat.le_of_ble_eq_true rfl)⟩ rfl hl.1 rfl (Nat.le_of_ble_eq_true rfl) dX8_begin_67) (fun u1 H locs hw h => ?_)
  refine lv_aload_n hx hb dX8_begin_70 rfl (lv_at hl 0 rfl) ?_
  refine lv_iconst (v := 0) hx hb dX8_begin_71 (by decide) ?_
  obtain ⟨u2, eu2⟩ : ∃ q : xM, q = si u1 o 14 (0 : Int32) := ⟨_, rfl⟩
  have h := h u2 eu2
  refine x_puti (ci := 8) (ty := .int) C hw 14 (xoT_0 ho) rfl inlX8 tyX8_ok nmX8 (by decide) rfl rfl xw_435 rfl (by decide +kernel) rfl rfl dX8_begin_72 eu2 (fun H locs hw => ?_)
  refine lv_aload_n hx hb dX8_begin_75 rfl (lv_at hl 0 rfl) ?_
  refine lv_iconst (v := -1) hx hb dX8_begin_76 (by decide) ?_
  obtain ⟨u3, eu3⟩ : ∃ q : xM, q = si u2 o 15 (-1 : Int32) := ⟨_, rfl⟩
  have h := h u3 eu3
  refine x_puti (ci := 8) (ty := .int) C hw 15 (xoT_0 ho) rfl inlX8 tyX8_ok nmX8 (by decide) rfl rfl xw_436 rfl (by decide +kernel) rfl rfl dX8_begin_77 eu3 (fun H locs hw => ?_)
  refine lv_aload_n hx hb dX8_begin_80 rfl (lv_at hl 0 rfl) ?_
  refine lv_iconst (v := -1) hx hb dX8_begin_81 (by decide) ?_
  obtain ⟨u4, eu4⟩ : ∃ q : xM, q = si u3 o 7 (-1 : Int32) := ⟨_, rfl⟩
  have h := h u4 eu4
  refine x_puti (ci := 8) (ty := .int) C hw 7 (xoT_0 ho) rfl inlX8 tyX8_ok nmX8 (by decide) rfl rfl xw_437 rfl (by decide +kernel) rfl rfl dX8_begin_82 eu4 (fun H locs hw => ?_)
  refine lv_aload_n hx hb dX8_begin_85 rfl (lv_at hl 0 rfl) ?_
  refine x_callv hw (x_runV (ci := 8) C hw (m_X8_advance l C.2.2.2.2.2.2.2.2.1 ho h) (xoT_0 ho) rfl (x_gV xw_468 xw_469 xw_470 xw_122 xw_471) rfl rfl qX8_advance ⟨(Nat.le_of_ble_eq_true rfl), (Nat.le_of_ble_eq_true rfl)⟩ rfl hl.1 rfl (Nat.le_of_ble_eq_true rfl) dX8_begin_86) (fun u5 H locs hw h => ?_)
  exact x_vret C hw h dX8_begin_89
set_option maxHeartbeats 4000000 in
set_option maxRecDepth 100000 in
theorem s_X8_begin_L18 {o : Nat} {Qf : xM → Prop} (C : x_C p s m args meth c g RX8 cX8_begin 6 none) (ho : xpT g o) (hX : xpX g) : ∀ (nn : Nat) {v3 : Int32} {v4 : Int32} {v5 : Int32} {u : xM} {H : Heap} {locs : List Loc} {ls : Array Slot} (hw : x_W g s.heap H locs u) (hl : lv_has ls 6 [(0, .ref (xad g o)), (1, .ref (xad g 4)), (3, .int v3), (4, .int v4), (5, .int v5)]) (h : p_X8_begin_L18 o Qf nn v3 v4 v5 u), W p l e (x_rm 4 97) s m args below meth c H locs 0 0 (MQ below (x_Qv g Qf) args s 0 0 (x_A g)) (F0 m 18 ls []) := by
  intro nn
  induction nn with
  | zero => intro v3 v4 v5 u H locs ls hw hl h; exact h.elim
  | succ nn ih =>
    intro v3 v4 v5 u H locs ls hw hl h
    unfold p_X8_begin_L18 at h
    have hx := C.1
    have hb := C.2.1
    refine lv_iload hx hb dX8_begin_18 (lv_at hl 4 rfl) ?_
    refine lv_iload_n hx hb dX8_begin_20 rfl (lv_at hl 2 rfl) ?_
    refine lv_icmp_gt (tgt := 63) hx hb dX8_begin_21 (by decide) (fun c1 => ?_) (fun c1 => ?_)
    · have h := h.1 c1
      exact s_X8_begin_L63 C ho hX hw (lv_sub hl [0, 2] rfl) h
    · have h := h.2 c1
      refine lv_iload hx hb dX8_begin_24 (lv_at hl 3 rfl) ?_
      refine lv_iload_n hx hb dX8_begin_26 rfl (lv_at hl 2 rfl) ?_
      refine lv_icmp_ge (tgt := 63) hx hb dX8_begin_27 (by decide) (fun c2 => ?_) (fun c2 => ?_)
      · have h := h.1 c2
        exact s_X8_begin_L63 C ho hX hw (lv_sub hl [0, 2] rfl) h
      · have h := h.2 c2
        refine lv_aload_n hx hb dX8_begin_30 rfl (lv_at hl 1 rfl) ?_
        refine lv_iload hx hb dX8_begin_31 (lv_at hl 3 rfl) ?_
        have c3 := h.1
        have h := h.2
        refine x_bald C hw (xoX_4 hX) c3 dX8_begin_33 ?_
        refine x_callz hw (x_runS C hw (m_X8_isBlank l C.2.2.2.2.2.2.2.2.1  h) (x_gS xw_438 xw_439 xw_122 xw_440) rfl rfl qX8_isBlank ⟨(Nat.le_of_ble_eq_true rfl), (Nat.le_of_ble_eq_true rfl)⟩ rfl hl.1 rfl (Nat.le_of_ble_eq_true rfl) dX8_begin_34) (fun r5 u4 H locs hw h => ?_)
        refine lv_if_eq (tgt := 47) hx hb dX8_begin_37 (by decide) (fun c6 => ?_) (fun c6 => ?_)
        · have h := h.1 (xb_f c6)
          refine lv_aload_n hx hb dX8_begin_47 rfl (lv_at hl 0 rfl) ?_
          refine lv_aload_n hx hb dX8_begin_48 rfl (lv_at hl 1 rfl) ?_
          refine lv_iload hx hb dX8_begin_49 (lv_at hl 3 rfl) ?_
          refine lv_iload_n hx hb dX8_begin_51 rfl (lv_at hl 2 rfl) ?_
          refine x_calli hw (x_runV (ci := 8) C hw (m_X8_behindToken l C.2.2.2.2.2.2.2.2.1 ho hX h) (xoT_0 ho) rfl (x_gV xw_441 xw_442 xw_443 xw_122 xw_444) rfl rfl qX8_behindToken ⟨(Nat.le_of_ble_eq_true rfl), (Nat.le_of_ble_eq_true rfl)⟩ rfl hl.1 rfl (Nat.le_of_ble_eq_true rfl) dX8_begin_52) (fun r8 u7 H locs hw h => ?_)
          refine lv_istore (lv' := [(4, .int r8), (0, .ref (xad g o)), (1, .ref (xad g 4)), (3, .int v3), (5, .int v5)]) hx hb dX8_begin_55 hl (by decide) rfl (fun ls hl => ?_)
          obtain ⟨x9, ex9⟩ : ∃ y : Int32, y = v5 + 1 := ⟨_, rfl⟩
          have h := h x9 ex9
          refine lv_iinc (v := x9) (lv' := [(5, .int x9), (4, .int r8), (0, .ref (xad g o)), (1, .ref (xad g 4)), (3, .int v3)]) hx hb dX8_begin_57 hl (k := 4) rfl (by rw [ex9]; rfl) (by decide) rfl (fun ls hl => ?_)
          refine lv_goto (tgt := 18) hx hb dX8_begin_60 (by decide) ?_
          exact ih hw (lv_sub hl [2, 3, 4, 1, 0] rfl) h
        · have h := h.2 (xb_t c6)
          refine lv_iload hx hb dX8_begin_40 (lv_at hl 3 rfl) ?_
          refine lv_iconst (v := 1) hx hb dX8_begin_42 (by decide) ?_
          refine lv_iadd hx hb dX8_begin_43 ?_
          refine lv_goto (tgt := 55) hx hb dX8_begin_44 (by decide) ?_
          refine lv_topi (fun x10 ex10 => ?_)
          have h := h x10 ex10
          refine lv_istore (lv' := [(4, .int x10), (0, .ref (xad g o)), (1, .ref (xad g 4)), (3, .int v3), (5, .int v5)]) hx hb dX8_begin_55 hl (by decide) rfl (fun ls hl => ?_)
          obtain ⟨x11, ex11⟩ : ∃ y : Int32, y = v5 + 1 := ⟨_, rfl⟩
          have h := h x11 ex11
          refine lv_iinc (v := x11) (lv' := [(5, .int x11), (4, .int x10), (0, .ref (xad g o)), (1, .ref (xad g 4)), (3, .int v3)]) hx hb dX8_begin_57 hl (k := 4) rfl (by rw [ex11]; rfl) (by decide) rfl (fun ls hl => ?_)
          refine lv_goto (tgt := 18) hx hb dX8_begin_60 (by decide) ?_
          exact ih hw (lv_sub hl [2, 3, 4, 1, 0] rfl) h
set_option maxHeartbeats 4000000 in
set_option maxRecDepth 100000 in
theorem s_X8_begin {o : Nat} {Qf : xM → Prop} {a2 : Int32} (C : x_C p s m args meth c g RX8 cX8_begin 6 none) (ho : xpT g o) (hX : xpX g) {u : xM} {H : Heap} {locs : List Loc} {ls : Array Slot} (hw : x_W g s.heap H locs u) (hl : lv_has ls 6 [(0, .ref (xad g o)), (1, .ref (xad g 4)), (2, .int a2)]) (h : p_X8_begin o a2 u Qf) : W p l e (x_rm 4 97) s m args below meth c H locs 0 0 (MQ below (x_Qv g Qf) args s 0 0 (x_A g)) (F0 m 0 ls []) := by
  unfold p_X8_begin at h
  have hx := C.1
  have hb := C.2.1
  refine lv_aload_n hx hb dX8_begin_0 rfl (lv_at hl 0 rfl) ?_
  refine lv_iconst (v := 0) hx hb dX8_begin_1 (by decide) ?_
  obtain ⟨u1, eu1⟩ : ∃ q : xM, q = si u o 6 (0 : Int32) := ⟨_, rfl⟩
  have h := h u1 eu1
  refine x_puti (ci := 8) (ty := .int) C hw 6 (xoT_0 ho) rfl inlX8 tyX8_ok nmX8 (by decide) rfl rfl xw_431 rfl (by decide +kernel) rfl rfl dX8_begin_2 eu1 (fun H locs hw => ?_)
  refine lv_iload_n hx hb dX8_begin_5 rfl (lv_at hl 2 rfl) ?_
  refine lv_aload_n hx hb dX8_begin_6 rfl (lv_at hl 1 rfl) ?_
  refine x_alen C hw (xoX_4 hX) (by decide) dX8_begin_7 ?_
  refine x_mmin C hl.1 xw_432 (Nat.le_of_ble_eq_true rfl) (Nat.le_of_ble_eq_true rfl) dX8_begin_8 ?_
  refine lv_topi (fun x2 ex2 => ?_)
  have h := h x2 ex2
  refine lv_istore_n (lv' := [(3, .int x2), (0, .ref (xad g o)), (1, .ref (xad g 4)), (2, .int a2)]) hx hb dX8_begin_11 rfl hl (by decide) rfl (fun ls hl => ?_)
  refine lv_iconst (v := 0) hx hb dX8_begin_12 (by decide) ?_
  refine lv_istore (lv' := [(4, .int 0), (3, .int x2), (0, .ref (xad g o)), (1, .ref (xad g 4)), (2, .int a2)]) hx hb dX8_begin_13 hl (by decide) rfl (fun ls hl => ?_)
  refine lv_iconst (v := 0) hx hb dX8_begin_15 (by decide) ?_
  refine lv_istore (lv' := [(5, .int 0), (4, .int 0), (3, .int x2), (0, .ref (xad g o)), (1, .ref (xad g 4)), (2, .int a2)]) hx hb dX8_begin_16 hl (by decide) rfl (fun ls hl => ?_)
  obtain ⟨n9, h⟩ := h
  exact s_X8_begin_L18 C ho hX n9 hw (lv_sub hl [3, 4, 2, 1, 0] rfl) h
set_option maxHeartbeats 4000000 in
set_option maxRecDepth 100000 in
theorem m_X8_begin (l : Launch) {g : xG} (hD : x_D g) {o : Nat} (ho : xpT g o) (hX : xpX g) {a2 : Int32} {u : xM} {Qf : xM → Prop} (h : p_X8_begin o a2 u Qf) : Met l yX8_begin (Cond.code yX8_begin cX8_begin 6 none :: wsL_law) (x_rm 4 97) (va_Pc [.ref (xad g o), .ref (xad g 4), .int a2] (x_B g u)) (x_Qv g Qf) 0 0 (x_A g) := by
  refine Met.ofW (cc := cX8_begin) (maxL := 6) (ret := none) (by decide) rfl ?_
  intro p e s m args below meth c s₁ B hml hv
  obtain ⟨rfl, hB⟩ := hv
  obtain ⟨C, hw⟩ := x_start B hml hD hB
  have hl := lv_entry [.ref (xad g o), .ref (xad g 4), .int a2] (n := 6) (Nat.le_of_ble_eq_true rfl)
  rw [lg_entry_eq]
  exact s_X8_begin C ho hX hw hl h
set_option maxHeartbeats 4000000 in
set_option maxRecDepth 100000 in
theorem s_X8_isAtEnd {o : Nat} {Qf : Bool → xM → Prop} (C : x_C p s m args meth c g RX8 cX8_isAtEnd 1 (some .boolean)) (ho : xpT g o) {u : xM} {H : Heap} {locs : List Loc} {ls : Array Slot} (hw : x_W g s.heap H locs u) (hl : lv_has ls 1 [(0, .ref (xad g o))]) (h : p_X8_isAtEnd o u Qf) : W p l e (x_rm 0 0) s m args below meth c H locs 0 0 (MQ below (x_Qz g Qf) args s 0 0 (x_A g)) (F0 m 0 ls []) := by
  unfold p_X8_isAtEnd at h
  have hx := C.1
  have hb := C.2.1
  refine lv_aload_n hx hb dX8_isAtEnd_0 rfl (lv_at hl 0 rfl) ?_
  refine x_geti (ci := 8) C hw 8 (xoT_0 ho) rfl inlX8 (by decide) rfl rfl xw_472 dX8_isAtEnd_1 ?_
  refine lv_if_ne (tgt := 11) hx hb dX8_isAtEnd_4 (by decide) (fun c1 => ?_) (fun c1 => ?_)
  · have h := h.1 c1
    refine lv_iconst (v := 0) hx hb dX8_isAtEnd_11 (by decide) ?_
    exact x_zret false C hw h rfl dX8_isAtEnd_12
  · have h := h.2 c1
    refine lv_iconst (v := 1) hx hb dX8_isAtEnd_7 (by decide) ?_
    refine lv_goto (tgt := 12) hx hb dX8_isAtEnd_8 (by decide) ?_
    exact x_zret true C hw h rfl dX8_isAtEnd_12
set_option maxHeartbeats 4000000 in
set_option maxRecDepth 100000 in
theorem m_X8_isAtEnd (l : Launch) {g : xG} (hD : x_D g) {o : Nat} (ho : xpT g o) {u : xM} {Qf : Bool → xM → Prop} (h : p_X8_isAtEnd o u Qf) : Met l yX8_isAtEnd (Cond.code yX8_isAtEnd cX8_isAtEnd 1 (some .boolean) :: wsL_law) (x_rm 0 0) (va_Pc [.ref (xad g o)] (x_B g u)) (x_Qz g Qf) 0 0 (x_A g) := by
  refine Met.ofW (cc := cX8_isAtEnd) (maxL := 1) (ret := (some .boolean)) (by decide) rfl ?_
  intro p e s m args below meth c s₁ B hml hv
  obtain ⟨rfl, hB⟩ := hv
  obtain ⟨C, hw⟩ := x_start B hml hD hB
  have hl := lv_entry [.ref (xad g o)] (n := 1) (Nat.le_of_ble_eq_true rfl)
  rw [lg_entry_eq]
  exact s_X8_isAtEnd C ho hw hl h
set_option maxHeartbeats 4000000 in
set_option maxRecDepth 100000 in
theorem s_X8_wrong {o : Nat} {Qf : Bool → xM → Prop} {a1 : Int32} (C : x_C p s m args meth c g RX8 cX8_wrong 2 (some .boolean)) (ho : xpT g o) {u : xM} {H : Heap} {locs : List Loc} {ls : Array Slot} (hw : x_W g s.heap H locs u) (hl : lv_has ls 2 [(0, .ref (xad g o)), (1, .int a1)]) (h : p_X8_wrong o a1 u Qf) : W p l e (x_rm 0 0) s m args below meth c H locs 0 0 (MQ below (x_Qz g Qf) args s 0 0 (x_A g)) (F0 m 0 ls []) := by
  unfold p_X8_wrong at h
  have hx := C.1
  have hb := C.2.1
  refine lv_aload_n hx hb dX8_wrong_0 rfl (lv_at hl 0 rfl) ?_
  refine lv_aload_n hx hb dX8_wrong_1 rfl (lv_at hl 0 rfl) ?_
  refine x_geti (ci := 8) C hw 8 (xoT_0 ho) rfl inlX8 (by decide) rfl rfl xw_472 dX8_wrong_2 ?_
  refine lv_iconst (v := 4) hx hb dX8_wrong_5 (by decide) ?_
  refine lv_icmp_ne (tgt := 13) hx hb dX8_wrong_6 (by decide) (fun c1 => ?_) (fun c1 => ?_)
  · have h := h.1 c1
    refine lv_iload_n hx hb dX8_wrong_13 rfl (lv_at hl 1 rfl) ?_
    obtain ⟨u2, eu2⟩ : ∃ q : xM, q = si u o 14 a1 := ⟨_, rfl⟩
    have h := h u2 eu2
    refine x_puti (ci := 8) (ty := .int) C hw 14 (xoT_0 ho) rfl inlX8 tyX8_ok nmX8 (by decide) rfl rfl xw_435 rfl (by decide +kernel) rfl rfl dX8_wrong_14 eu2 (fun H locs hw => ?_)
    refine lv_aload_n hx hb dX8_wrong_17 rfl (lv_at hl 0 rfl) ?_
    refine lv_aload_n hx hb dX8_wrong_18 rfl (lv_at hl 0 rfl) ?_
    refine x_geti (ci := 8) C hw 9 (xoT_0 ho) rfl inlX8 (by decide) rfl rfl xw_473 dX8_wrong_19 ?_
    obtain ⟨u3, eu3⟩ : ∃ q : xM, q = si u2 o 15 (gi u2 o 9) := ⟨_, rfl⟩
    have h := h u3 eu3
    refine x_puti (ci := 8) (ty := .int) C hw 15 (xoT_0 ho) rfl inlX8 tyX8_ok nmX8 (by decide) rfl rfl xw_436 rfl (by decide +kernel) rfl rfl dX8_wrong_22 eu3 (fun H locs hw => ?_)
    refine lv_iconst (v := 0) hx hb dX8_wrong_25 (by decide) ?_
    exact x_zret false C hw h rfl dX8_wrong_26
  · have h := h.2 c1
    refine lv_iconst (v := 1) hx hb dX8_wrong_9 (by decide) ?_
    refine lv_goto (tgt := 14) hx hb dX8_wrong_10 (by decide) ?_
    obtain ⟨u4, eu4⟩ : ∃ q : xM, q = si u o 14 (1 : Int32) := ⟨_, rfl⟩
    have h := h u4 eu4
    refine x_puti (ci := 8) (ty := .int) C hw 14 (xoT_0 ho) rfl inlX8 tyX8_ok nmX8 (by decide) rfl rfl xw_435 rfl (by decide +kernel) rfl rfl dX8_wrong_14 eu4 (fun H locs hw => ?_)
    refine lv_aload_n hx hb dX8_wrong_17 rfl (lv_at hl 0 rfl) ?_
    refine lv_aload_n hx hb dX8_wrong_18 rfl (lv_at hl 0 rfl) ?_
    refine x_geti (ci := 8) C hw 9 (xoT_0 ho) rfl inlX8 (by decide) rfl rfl xw_473 dX8_wrong_19 ?_
    obtain ⟨u5, eu5⟩ : ∃ q : xM, q = si u4 o 15 (gi u4 o 9) := ⟨_, rfl⟩
    have h := h u5 eu5
    refine x_puti (ci := 8) (ty := .int) C hw 15 (xoT_0 ho) rfl inlX8 tyX8_ok nmX8 (by decide) rfl rfl xw_436 rfl (by decide +kernel) rfl rfl dX8_wrong_22 eu5 (fun H locs hw => ?_)
    refine lv_iconst (v := 0) hx hb dX8_wrong_25 (by decide) ?_
    exact x_zret false C hw h rfl dX8_wrong_26
set_option maxHeartbeats 4000000 in
set_option maxRecDepth 100000 in
theorem m_X8_wrong (l : Launch) {g : xG} (hD : x_D g) {o : Nat} (ho : xpT g o) {a1 : Int32} {u : xM} {Qf : Bool → xM → Prop} (h : p_X8_wrong o a1 u Qf) : Met l yX8_wrong (Cond.code yX8_wrong cX8_wrong 2 (some .boolean) :: wsL_law) (x_rm 0 0) (va_Pc [.ref (xad g o), .int a1] (x_B g u)) (x_Qz g Qf) 0 0 (x_A g) := by
  refine Met.ofW (cc := cX8_wrong) (maxL := 2) (ret := (some .boolean)) (by decide) rfl ?_
  intro p e s m args below meth c s₁ B hml hv
  obtain ⟨rfl, hB⟩ := hv
  obtain ⟨C, hw⟩ := x_start B hml hD hB
  have hl := lv_entry [.ref (xad g o), .int a1] (n := 2) (Nat.le_of_ble_eq_true rfl)
  rw [lg_entry_eq]
  exact s_X8_wrong C ho hw hl h
set_option maxHeartbeats 4000000 in
set_option maxRecDepth 100000 in
theorem s_X8_isName {o : Nat} {Qf : Bool → xM → Prop} (C : x_C p s m args meth c g RX8 cX8_isName 1 (some .boolean)) (ho : xpT g o) {u : xM} {H : Heap} {locs : List Loc} {ls : Array Slot} (hw : x_W g s.heap H locs u) (hl : lv_has ls 1 [(0, .ref (xad g o))]) (h : p_X8_isName o u Qf) : W p l e (x_rm 0 0) s m args below meth c H locs 0 0 (MQ below (x_Qz g Qf) args s 0 0 (x_A g)) (F0 m 0 ls []) := by
  unfold p_X8_isName at h
  have hx := C.1
  have hb := C.2.1
  refine lv_aload_n hx hb dX8_isName_0 rfl (lv_at hl 0 rfl) ?_
  refine x_geti (ci := 8) C hw 8 (xoT_0 ho) rfl inlX8 (by decide) rfl rfl xw_472 dX8_isName_1 ?_
  refine lv_iconst (v := 1) hx hb dX8_isName_4 (by decide) ?_
  refine lv_icmp_ne (tgt := 29) hx hb dX8_isName_5 (by decide) (fun c1 => ?_) (fun c1 => ?_)
  · have h := h.1 c1
    refine lv_iconst (v := 0) hx hb dX8_isName_29 (by decide) ?_
    exact x_zret false C hw h rfl dX8_isName_30
  · have h := h.2 c1
    refine lv_aload_n hx hb dX8_isName_8 rfl (lv_at hl 0 rfl) ?_
    refine x_getl (ci := 8) C hw 10 (xoT_0 ho) rfl inlX8 (by decide) rfl rfl xw_475 dX8_isName_9 ?_
    refine lv_lconst (v := 0) hx hb dX8_isName_12 (by decide) ?_
    refine W.lcmp hx hb dX8_isName_13 ?_
    refine lv_if_eq (tgt := 29) hx hb dX8_isName_14 (by decide) (fun c2 => ?_) (fun c2 => ?_)
    · have h := h.1 c2
      refine lv_iconst (v := 0) hx hb dX8_isName_29 (by decide) ?_
      exact x_zret false C hw h rfl dX8_isName_30
    · have h := h.2 c2
      refine lv_aload_n hx hb dX8_isName_17 rfl (lv_at hl 0 rfl) ?_
      refine x_geti (ci := 8) C hw 11 (xoT_0 ho) rfl inlX8 (by decide) rfl rfl xw_474 dX8_isName_18 ?_
      refine lv_iconst (v := -1) hx hb dX8_isName_21 (by decide) ?_
      refine lv_icmp_ne (tgt := 29) hx hb dX8_isName_22 (by decide) (fun c3 => ?_) (fun c3 => ?_)
      · have h := h.1 c3
        refine lv_iconst (v := 0) hx hb dX8_isName_29 (by decide) ?_
        exact x_zret false C hw h rfl dX8_isName_30
      · have h := h.2 c3
        refine lv_iconst (v := 1) hx hb dX8_isName_25 (by decide) ?_
        refine lv_goto (tgt := 30) hx hb dX8_isName_26 (by decide) ?_
        exact x_zret true C hw h rfl dX8_isName_30
set_option maxHeartbeats 4000000 in
set_option maxRecDepth 100000 in
theorem m_X8_isName (l : Launch) {g : xG} (hD : x_D g) {o : Nat} (ho : xpT g o) {u : xM} {Qf : Bool → xM → Prop} (h : p_X8_isName o u Qf) : Met l yX8_isName (Cond.code yX8_isName cX8_isName 1 (some .boolean) :: wsL_law) (x_rm 0 0) (va_Pc [.ref (xad g o)] (x_B g u)) (x_Qz g Qf) 0 0 (x_A g) := by
  refine Met.ofW (cc := cX8_isName) (maxL := 1) (ret := (some .boolean)) (by decide) rfl ?_
  intro p e s m args below meth c s₁ B hml hv
  obtain ⟨rfl, hB⟩ := hv
  obtain ⟨C, hw⟩ := x_start B hml hD hB
  have hl := lv_entry [.ref (xad g o)] (n := 1) (Nat.le_of_ble_eq_true rfl)
  rw [lg_entry_eq]
  exact s_X8_isName C ho hw hl h
set_option maxHeartbeats 4000000 in
set_option maxRecDepth 100000 in
theorem s_X7_indexOf {o : Nat} {Qf : Int32 → xM → Prop} {a1 : Int64} (C : x_C p s m args meth c g RX7 cX7_indexOf 3 (some .int)) (ho : xpL g o) {u : xM} {H : Heap} {locs : List Loc} {ls : Array Slot} (hw : x_W g s.heap H locs u) (hl : lv_has ls 3 [(0, .ref (xad g (o + 1))), (1, .long a1)]) (h : p_X7_indexOf o a1 u Qf) : W p l e (x_rm 1 24) s m args below meth c H locs 0 0 (MQ below (x_Qi g Qf) args s 0 0 (x_A g)) (F0 m 0 ls []) := by
  unfold p_X7_indexOf at h
  have hx := C.1
  have hb := C.2.1
  refine lv_aload_n hx hb dX7_indexOf_0 rfl (lv_at hl 0 rfl) ?_
  refine x_getr (ci := 7) C hw 2 (xoL_1 ho) rfl inlX7 (by decide) rfl rfl (xrL_1_2 ho) xw_79 dX7_indexOf_1 ?_
  refine lv_aload_n hx hb dX7_indexOf_4 rfl (lv_at hl 0 rfl) ?_
  refine x_geti (ci := 7) C hw 0 (xoL_1 ho) rfl inlX7 (by decide) rfl rfl xw_414 dX7_indexOf_5 ?_
  refine lv_lload_n hx hb dX7_indexOf_8 rfl (lv_at hl 1 rfl) ?_
  refine x_calli hw (x_runSN C hw (m_X10_indexIn l C.2.2.2.2.2.2.2.2.1 (x_okl (xoL_2 ho)) h) C.2.2.2.2.2.2.2.2.2.1.1.2.2.1 xw_456 xw_2 xw_457 rfl rfl qX10_indexIn ⟨(Nat.le_of_ble_eq_true rfl), (Nat.le_of_ble_eq_true rfl)⟩ rfl hl.1 rfl (Nat.le_of_ble_eq_true rfl) dX7_indexOf_9) (fun r2 u1 H locs hw h => ?_)
  exact x_iret C hw h dX7_indexOf_12
set_option maxHeartbeats 4000000 in
set_option maxRecDepth 100000 in
theorem m_X7_indexOf (l : Launch) {g : xG} (hD : x_D g) {o : Nat} (ho : xpL g o) {a1 : Int64} {u : xM} {Qf : Int32 → xM → Prop} (h : p_X7_indexOf o a1 u Qf) : Met l yX7_indexOf (Cond.code yX7_indexOf cX7_indexOf 3 (some .int) :: wsL_law) (x_rm 1 24) (va_Pc [.ref (xad g (o + 1)), .long a1] (x_B g u)) (x_Qi g Qf) 0 0 (x_A g) := by
  refine Met.ofW (cc := cX7_indexOf) (maxL := 3) (ret := (some .int)) (by decide) rfl ?_
  intro p e s m args below meth c s₁ B hml hv
  obtain ⟨rfl, hB⟩ := hv
  obtain ⟨C, hw⟩ := x_start B hml hD hB
  have hl := lv_entry [.ref (xad g (o + 1)), .long a1] (n := 3) (Nat.le_of_ble_eq_true rfl)
  rw [lg_entry_eq]
  exact s_X7_indexOf C ho hw hl h
set_option maxHeartbeats 4000000 in
set_option maxRecDepth 100000 in
theorem s_X0_indexOf {o : Nat} {Qf : Int32 → xM → Prop} {a1 : Int64} (C : x_C p s m args meth c g RX0 cX0_indexOf 3 (some .int)) (ho : xpL g o) {u : xM} {H : Heap} {locs : List Loc} {ls : Array Slot} (hw : x_W g s.heap H locs u) (hl : lv_has ls 3 [(0, .ref (xad g (o + 9))), (1, .long a1)]) (h : p_X0_indexOf o a1 u Qf) : W p l e (x_rm 1 24) s m args below meth c H locs 0 0 (MQ below (x_Qi g Qf) args s 0 0 (x_A g)) (F0 m 0 ls []) := by
  unfold p_X0_indexOf at h
  have hx := C.1
  have hb := C.2.1
  refine lv_aload_n hx hb dX0_indexOf_0 rfl (lv_at hl 0 rfl) ?_
  refine x_getr (ci := 0) C hw 3 (xoL_9 ho) rfl inlX0 (by decide) rfl rfl (xrL_9_3 ho) xw_89 dX0_indexOf_1 ?_
  refine lv_aload_n hx hb dX0_indexOf_4 rfl (lv_at hl 0 rfl) ?_
  refine x_geti (ci := 0) C hw 0 (xoL_9 ho) rfl inlX0 (by decide) rfl rfl xw_420 dX0_indexOf_5 ?_
  refine lv_lload_n hx hb dX0_indexOf_8 rfl (lv_at hl 1 rfl) ?_
  refine x_calli hw (x_runSN C hw (m_X10_indexIn l C.2.2.2.2.2.2.2.2.1 (x_okl (xoL_10 ho)) h) C.2.2.2.2.2.2.2.2.2.1.1.1 xw_456 xw_2 xw_457 rfl rfl qX10_indexIn ⟨(Nat.le_of_ble_eq_true rfl), (Nat.le_of_ble_eq_true rfl)⟩ rfl hl.1 rfl (Nat.le_of_ble_eq_true rfl) dX0_indexOf_9) (fun r2 u1 H locs hw h => ?_)
  exact x_iret C hw h dX0_indexOf_12
set_option maxHeartbeats 4000000 in
set_option maxRecDepth 100000 in
theorem m_X0_indexOf (l : Launch) {g : xG} (hD : x_D g) {o : Nat} (ho : xpL g o) {a1 : Int64} {u : xM} {Qf : Int32 → xM → Prop} (h : p_X0_indexOf o a1 u Qf) : Met l yX0_indexOf (Cond.code yX0_indexOf cX0_indexOf 3 (some .int) :: wsL_law) (x_rm 1 24) (va_Pc [.ref (xad g (o + 9)), .long a1] (x_B g u)) (x_Qi g Qf) 0 0 (x_A g) := by
  refine Met.ofW (cc := cX0_indexOf) (maxL := 3) (ret := (some .int)) (by decide) rfl ?_
  intro p e s m args below meth c s₁ B hml hv
  obtain ⟨rfl, hB⟩ := hv
  obtain ⟨C, hw⟩ := x_start B hml hD hB
  have hl := lv_entry [.ref (xad g (o + 9)), .long a1] (n := 3) (Nat.le_of_ble_eq_true rfl)
  rw [lg_entry_eq]
  exact s_X0_indexOf C ho hw hl h
set_option maxHeartbeats 4000000 in
set_option maxRecDepth 100000 in
theorem s_X1_isNameTaken {o : Nat} {Qf : Bool → xM → Prop} {a1 : Int64} (C : x_C p s m args meth c g RX1 cX1_isNameTaken 3 (some .boolean)) (ho : xpL g o) {u : xM} {H : Heap} {locs : List Loc} {ls : Array Slot} (hw : x_W g s.heap H locs u) (hl : lv_has ls 3 [(0, .ref (xad g o)), (1, .long a1)]) (h : p_X1_isNameTaken o a1 u Qf) : W p l e (x_rm 2 46) s m args below meth c H locs 0 0 (MQ below (x_Qz g Qf) args s 0 0 (x_A g)) (F0 m 0 ls []) := by
  unfold p_X1_isNameTaken at h
  have hx := C.1
  have hb := C.2.1
  refine lv_aload_n hx hb dX1_isNameTaken_0 rfl (lv_at hl 0 rfl) ?_
  refine x_getr (ci := 1) C hw 0 (xoL_0 ho) rfl inlX1 (by decide) rfl rfl (xrL_0_0 ho) xw_58 dX1_isNameTaken_1 ?_
  refine lv_lload_n hx hb dX1_isNameTaken_4 rfl (lv_at hl 1 rfl) ?_
  refine x_calli hw (x_runV (ci := 7) C hw (m_X7_indexOf l C.2.2.2.2.2.2.2.2.1 ho h) (xoL_1 ho) rfl (x_gV xw_511 xw_512 xw_513 xw_57 xw_514) rfl rfl qX7_indexOf ⟨(Nat.le_of_ble_eq_true rfl), (Nat.le_of_ble_eq_true rfl)⟩ rfl hl.1 rfl (Nat.le_of_ble_eq_true rfl) dX1_isNameTaken_5) (fun r2 u1 H locs hw h => ?_)
  refine lv_iconst (v := -1) hx hb dX1_isNameTaken_8 (by decide) ?_
  refine lv_icmp_ne (tgt := 40) hx hb dX1_isNameTaken_9 (by decide) (fun c3 => ?_) (fun c3 => ?_)
  · have h := h.1 c3
    refine lv_iconst (v := 1) hx hb dX1_isNameTaken_40 (by decide) ?_
    refine lv_goto (tgt := 45) hx hb dX1_isNameTaken_41 (by decide) ?_
    exact x_zret true C hw h rfl dX1_isNameTaken_45
  · have h := h.2 c3
    refine lv_aload_n hx hb dX1_isNameTaken_12 rfl (lv_at hl 0 rfl) ?_
    refine x_getr (ci := 1) C hw 1 (xoL_0 ho) rfl inlX1 (by decide) rfl rfl (xrL_0_1 ho) xw_62 dX1_isNameTaken_13 ?_
    refine lv_lload_n hx hb dX1_isNameTaken_16 rfl (lv_at hl 1 rfl) ?_
    refine x_calli hw (x_runV (ci := 0) C hw (m_X0_indexOf l C.2.2.2.2.2.2.2.2.1 ho h) (xoL_9 ho) rfl (x_gV xw_515 xw_516 xw_517 xw_61 xw_518) rfl rfl qX0_indexOf ⟨(Nat.le_of_ble_eq_true rfl), (Nat.le_of_ble_eq_true rfl)⟩ rfl hl.1 rfl (Nat.le_of_ble_eq_true rfl) dX1_isNameTaken_17) (fun r5 u4 H locs hw h => ?_)
    refine lv_iconst (v := -1) hx hb dX1_isNameTaken_20 (by decide) ?_
    refine lv_icmp_ne (tgt := 40) hx hb dX1_isNameTaken_21 (by decide) (fun c6 => ?_) (fun c6 => ?_)
    · have h := h.1 c6
      refine lv_iconst (v := 1) hx hb dX1_isNameTaken_40 (by decide) ?_
      refine lv_goto (tgt := 45) hx hb dX1_isNameTaken_41 (by decide) ?_
      exact x_zret true C hw h rfl dX1_isNameTaken_45
    · have h := h.2 c6
      refine lv_aload_n hx hb dX1_isNameTaken_24 rfl (lv_at hl 0 rfl) ?_
      refine x_getr (ci := 1) C hw 3 (xoL_0 ho) rfl inlX1 (by decide) rfl rfl (xrL_0_3 ho) xw_64 dX1_isNameTaken_25 ?_
      refine lv_aload_n hx hb dX1_isNameTaken_28 rfl (lv_at hl 0 rfl) ?_
      refine x_geti (ci := 1) C hw 2 (xoL_0 ho) rfl inlX1 (by decide) rfl rfl xw_408 dX1_isNameTaken_29 ?_
      refine lv_lload_n hx hb dX1_isNameTaken_32 rfl (lv_at hl 1 rfl) ?_
      refine x_calli hw (x_runSN C hw (m_X10_indexIn l C.2.2.2.2.2.2.2.2.1 (x_okl (xoL_17 ho)) h) C.2.2.2.2.2.2.2.2.2.1.1.2.1 xw_456 xw_2 xw_457 rfl rfl qX10_indexIn ⟨(Nat.le_of_ble_eq_true rfl), (Nat.le_of_ble_eq_true rfl)⟩ rfl hl.1 rfl (Nat.le_of_ble_eq_true rfl) dX1_isNameTaken_33) (fun r8 u7 H locs hw h => ?_)
      refine lv_iconst (v := -1) hx hb dX1_isNameTaken_36 (by decide) ?_
      refine lv_icmp_eq (tgt := 44) hx hb dX1_isNameTaken_37 (by decide) (fun c9 => ?_) (fun c9 => ?_)
      · have h := h.1 c9
        refine lv_iconst (v := 0) hx hb dX1_isNameTaken_44 (by decide) ?_
        exact x_zret false C hw h rfl dX1_isNameTaken_45
      · have h := h.2 c9
        refine lv_iconst (v := 1) hx hb dX1_isNameTaken_40 (by decide) ?_
        refine lv_goto (tgt := 45) hx hb dX1_isNameTaken_41 (by decide) ?_
        exact x_zret true C hw h rfl dX1_isNameTaken_45
set_option maxHeartbeats 4000000 in
set_option maxRecDepth 100000 in
theorem m_X1_isNameTaken (l : Launch) {g : xG} (hD : x_D g) {o : Nat} (ho : xpL g o) {a1 : Int64} {u : xM} {Qf : Bool → xM → Prop} (h : p_X1_isNameTaken o a1 u Qf) : Met l yX1_isNameTaken (Cond.code yX1_isNameTaken cX1_isNameTaken 3 (some .boolean) :: wsL_law) (x_rm 2 46) (va_Pc [.ref (xad g o), .long a1] (x_B g u)) (x_Qz g Qf) 0 0 (x_A g) := by
  refine Met.ofW (cc := cX1_isNameTaken) (maxL := 3) (ret := (some .boolean)) (by decide) rfl ?_
  intro p e s m args below meth c s₁ B hml hv
  obtain ⟨rfl, hB⟩ := hv
  obtain ⟨C, hw⟩ := x_start B hml hD hB
  have hl := lv_entry [.ref (xad g o), .long a1] (n := 3) (Nat.le_of_ble_eq_true rfl)
  rw [lg_entry_eq]
  exact s_X1_isNameTaken C ho hw hl h
set_option maxHeartbeats 4000000 in
set_option maxRecDepth 100000 in
theorem s_X8_takeNewName {o : Nat} {o1 : Nat} {Qf : Int64 → xM → Prop} (C : x_C p s m args meth c g RX8 cX8_takeNewName 4 (some .long)) (ho : xpT g o) (ho1 : xpL g o1) {u : xM} {H : Heap} {locs : List Loc} {ls : Array Slot} (hw : x_W g s.heap H locs u) (hl : lv_has ls 4 [(0, .ref (xad g o)), (1, .ref (xad g o1))]) (h : p_X8_takeNewName o o1 u Qf) : W p l e (x_rm 3 68) s m args below meth c H locs 0 0 (MQ below (x_Ql g Qf) args s 0 0 (x_A g)) (F0 m 0 ls []) := by
  unfold p_X8_takeNewName at h
  have hx := C.1
  have hb := C.2.1
  refine lv_aload_n hx hb dX8_takeNewName_0 rfl (lv_at hl 0 rfl) ?_
  refine x_callz hw (x_runV (ci := 8) C hw (m_X8_isName l C.2.2.2.2.2.2.2.2.1 ho h) (xoT_0 ho) rfl (x_gV xw_502 xw_503 xw_504 xw_122 xw_505) rfl rfl qX8_isName ⟨(Nat.le_of_ble_eq_true rfl), (Nat.le_of_ble_eq_true rfl)⟩ rfl hl.1 rfl (Nat.le_of_ble_eq_true rfl) dX8_takeNewName_1) (fun r2 u1 H locs hw h => ?_)
  refine lv_if_ne (tgt := 15) hx hb dX8_takeNewName_4 (by decide) (fun c3 => ?_) (fun c3 => ?_)
  · have h := h.1 (xb_t c3)
    refine lv_aload_n hx hb dX8_takeNewName_15 rfl (lv_at hl 1 rfl) ?_
    refine lv_aload_n hx hb dX8_takeNewName_16 rfl (lv_at hl 0 rfl) ?_
    refine x_getl (ci := 8) C hw 10 (xoT_0 ho) rfl inlX8 (by decide) rfl rfl xw_475 dX8_takeNewName_17 ?_
    refine x_callz hw (x_runV (ci := 1) C hw (m_X1_isNameTaken l C.2.2.2.2.2.2.2.2.1 ho1 h) (xoL_0 ho1) rfl (x_gV xw_507 xw_508 xw_509 xw_15 xw_510) rfl rfl qX1_isNameTaken ⟨(Nat.le_of_ble_eq_true rfl), (Nat.le_of_ble_eq_true rfl)⟩ rfl hl.1 rfl (Nat.le_of_ble_eq_true rfl) dX8_takeNewName_20) (fun r5 u4 H locs hw h => ?_)
    refine lv_if_eq (tgt := 34) hx hb dX8_takeNewName_23 (by decide) (fun c6 => ?_) (fun c6 => ?_)
    · have h := h.1 (xb_f c6)
      refine lv_aload_n hx hb dX8_takeNewName_34 rfl (lv_at hl 0 rfl) ?_
      refine x_getl (ci := 8) C hw 10 (xoT_0 ho) rfl inlX8 (by decide) rfl rfl xw_475 dX8_takeNewName_35 ?_
      refine lv_topl (fun x7 ex7 => ?_)
      have h := h x7 ex7
      refine lv_lstore_n (lv' := [(2, .long x7), (0, .ref (xad g o)), (1, .ref (xad g o1))]) hx hb dX8_takeNewName_38 rfl hl (by decide) rfl (fun ls hl => ?_)
      refine lv_aload_n hx hb dX8_takeNewName_39 rfl (lv_at hl 1 rfl) ?_
      refine x_callv hw (x_runV (ci := 8) C hw (m_X8_advance l C.2.2.2.2.2.2.2.2.1 ho h) (xoT_0 ho) rfl (x_gV xw_468 xw_469 xw_470 xw_122 xw_471) rfl rfl qX8_advance ⟨(Nat.le_of_ble_eq_true rfl), (Nat.le_of_ble_eq_true rfl)⟩ rfl hl.1 rfl (Nat.le_of_ble_eq_true rfl) dX8_takeNewName_40) (fun u8 H locs hw h => ?_)
      refine lv_lload_n hx hb dX8_takeNewName_43 rfl (lv_at hl 0 rfl) ?_
      exact x_lret C hw h dX8_takeNewName_44
    · have h := h.2 (xb_t c6)
      refine lv_aload_n hx hb dX8_takeNewName_26 rfl (lv_at hl 0 rfl) ?_
      refine lv_iconst (v := 3) hx hb dX8_takeNewName_27 (by decide) ?_
      refine x_callz hw (x_runV (ci := 8) C hw (m_X8_wrong l C.2.2.2.2.2.2.2.2.1 ho h) (xoT_0 ho) rfl (x_gV xw_506 xw_494 xw_495 xw_122 xw_496) rfl rfl qX8_wrong ⟨(Nat.le_of_ble_eq_true rfl), (Nat.le_of_ble_eq_true rfl)⟩ rfl hl.1 rfl (Nat.le_of_ble_eq_true rfl) dX8_takeNewName_28) (fun r10 u9 H locs hw h => ?_)
      refine lv_pop hx hb dX8_takeNewName_31 rfl ?_
      refine lv_lconst (v := 0) hx hb dX8_takeNewName_32 (by decide) ?_
      exact x_lret C hw h dX8_takeNewName_33
  · have h := h.2 (xb_f c3)
    refine lv_aload_n hx hb dX8_takeNewName_7 rfl (lv_at hl 0 rfl) ?_
    refine lv_iconst (v := 2) hx hb dX8_takeNewName_8 (by decide) ?_
    refine x_callz hw (x_runV (ci := 8) C hw (m_X8_wrong l C.2.2.2.2.2.2.2.2.1 ho h) (xoT_0 ho) rfl (x_gV xw_506 xw_494 xw_495 xw_122 xw_496) rfl rfl qX8_wrong ⟨(Nat.le_of_ble_eq_true rfl), (Nat.le_of_ble_eq_true rfl)⟩ rfl hl.1 rfl (Nat.le_of_ble_eq_true rfl) dX8_takeNewName_9) (fun r12 u11 H locs hw h => ?_)
    refine lv_pop hx hb dX8_takeNewName_12 rfl ?_
    refine lv_lconst (v := 0) hx hb dX8_takeNewName_13 (by decide) ?_
    exact x_lret C hw h dX8_takeNewName_14
set_option maxHeartbeats 4000000 in
set_option maxRecDepth 100000 in
theorem m_X8_takeNewName (l : Launch) {g : xG} (hD : x_D g) {o : Nat} {o1 : Nat} (ho : xpT g o) (ho1 : xpL g o1) {u : xM} {Qf : Int64 → xM → Prop} (h : p_X8_takeNewName o o1 u Qf) : Met l yX8_takeNewName (Cond.code yX8_takeNewName cX8_takeNewName 4 (some .long) :: wsL_law) (x_rm 3 68) (va_Pc [.ref (xad g o), .ref (xad g o1)] (x_B g u)) (x_Ql g Qf) 0 0 (x_A g) := by
  refine Met.ofW (cc := cX8_takeNewName) (maxL := 4) (ret := (some .long)) (by decide) rfl ?_
  intro p e s m args below meth c s₁ B hml hv
  obtain ⟨rfl, hB⟩ := hv
  obtain ⟨C, hw⟩ := x_start B hml hD hB
  have hl := lv_entry [.ref (xad g o), .ref (xad g o1)] (n := 4) (Nat.le_of_ble_eq_true rfl)
  rw [lg_entry_eq]
  exact s_X8_takeNewName C ho ho1 hw hl h
set_option maxHeartbeats 4000000 in
set_option maxRecDepth 100000 in
theorem s_X8_takeWord {o : Nat} {Qf : Bool → xM → Prop} {a1 : Int32} (C : x_C p s m args meth c g RX8 cX8_takeWord 2 (some .boolean)) (ho : xpT g o) {u : xM} {H : Heap} {locs : List Loc} {ls : Array Slot} (hw : x_W g s.heap H locs u) (hl : lv_has ls 2 [(0, .ref (xad g o)), (1, .int a1)]) (h : p_X8_takeWord o a1 u Qf) : W p l e (x_rm 1 21) s m args below meth c H locs 0 0 (MQ below (x_Qz g Qf) args s 0 0 (x_A g)) (F0 m 0 ls []) := by
  unfold p_X8_takeWord at h
  have hx := C.1
  have hb := C.2.1
  refine lv_aload_n hx hb dX8_takeWord_0 rfl (lv_at hl 0 rfl) ?_
  refine x_geti (ci := 8) C hw 11 (xoT_0 ho) rfl inlX8 (by decide) rfl rfl xw_474 dX8_takeWord_1 ?_
  refine lv_iload_n hx hb dX8_takeWord_4 rfl (lv_at hl 1 rfl) ?_
  refine lv_icmp_eq (tgt := 14) hx hb dX8_takeWord_5 (by decide) (fun c1 => ?_) (fun c1 => ?_)
  · have h := h.1 c1
    refine lv_aload_n hx hb dX8_takeWord_14 rfl (lv_at hl 0 rfl) ?_
    refine x_callv hw (x_runV (ci := 8) C hw (m_X8_advance l C.2.2.2.2.2.2.2.2.1 ho h) (xoT_0 ho) rfl (x_gV xw_468 xw_469 xw_470 xw_122 xw_471) rfl rfl qX8_advance ⟨(Nat.le_of_ble_eq_true rfl), (Nat.le_of_ble_eq_true rfl)⟩ rfl hl.1 rfl (Nat.le_of_ble_eq_true rfl) dX8_takeWord_15) (fun u2 H locs hw h => ?_)
    refine lv_iconst (v := 1) hx hb dX8_takeWord_18 (by decide) ?_
    exact x_zret true C hw h rfl dX8_takeWord_19
  · have h := h.2 c1
    refine lv_aload_n hx hb dX8_takeWord_8 rfl (lv_at hl 0 rfl) ?_
    refine lv_iconst (v := 2) hx hb dX8_takeWord_9 (by decide) ?_
    refine x_callz hw (x_runV (ci := 8) C hw (m_X8_wrong l C.2.2.2.2.2.2.2.2.1 ho h) (xoT_0 ho) rfl (x_gV xw_506 xw_494 xw_495 xw_122 xw_496) rfl rfl qX8_wrong ⟨(Nat.le_of_ble_eq_true rfl), (Nat.le_of_ble_eq_true rfl)⟩ rfl hl.1 rfl (Nat.le_of_ble_eq_true rfl) dX8_takeWord_10) (fun r4 u3 H locs hw h => ?_)
    exact x_zret _ C hw h rfl dX8_takeWord_13
set_option maxHeartbeats 4000000 in
set_option maxRecDepth 100000 in
theorem m_X8_takeWord (l : Launch) {g : xG} (hD : x_D g) {o : Nat} (ho : xpT g o) {a1 : Int32} {u : xM} {Qf : Bool → xM → Prop} (h : p_X8_takeWord o a1 u Qf) : Met l yX8_takeWord (Cond.code yX8_takeWord cX8_takeWord 2 (some .boolean) :: wsL_law) (x_rm 1 21) (va_Pc [.ref (xad g o), .int a1] (x_B g u)) (x_Qz g Qf) 0 0 (x_A g) := by
  refine Met.ofW (cc := cX8_takeWord) (maxL := 2) (ret := (some .boolean)) (by decide) rfl ?_
  intro p e s m args below meth c s₁ B hml hv
  obtain ⟨rfl, hB⟩ := hv
  obtain ⟨C, hw⟩ := x_start B hml hD hB
  have hl := lv_entry [.ref (xad g o), .int a1] (n := 2) (Nat.le_of_ble_eq_true rfl)
  rw [lg_entry_eq]
  exact s_X8_takeWord C ho hw hl h
set_option maxHeartbeats 4000000 in
set_option maxRecDepth 100000 in
theorem s_X8_takeNumber {o : Nat} {Qf : Int32 → xM → Prop} {a1 : Int32} {a2 : Int32} (C : x_C p s m args meth c g RX8 cX8_takeNumber 4 (some .int)) (ho : xpT g o) {u : xM} {H : Heap} {locs : List Loc} {ls : Array Slot} (hw : x_W g s.heap H locs u) (hl : lv_has ls 4 [(0, .ref (xad g o)), (1, .int a1), (2, .int a2)]) (h : p_X8_takeNumber o a1 a2 u Qf) : W p l e (x_rm 1 21) s m args below meth c H locs 0 0 (MQ below (x_Qi g Qf) args s 0 0 (x_A g)) (F0 m 0 ls []) := by
  unfold p_X8_takeNumber at h
  have hx := C.1
  have hb := C.2.1
  refine lv_aload_n hx hb dX8_takeNumber_0 rfl (lv_at hl 0 rfl) ?_
  refine x_geti (ci := 8) C hw 8 (xoT_0 ho) rfl inlX8 (by decide) rfl rfl xw_472 dX8_takeNumber_1 ?_
  refine lv_iconst (v := 2) hx hb dX8_takeNumber_4 (by decide) ?_
  refine lv_icmp_eq (tgt := 16) hx hb dX8_takeNumber_5 (by decide) (fun c1 => ?_) (fun c1 => ?_)
  · have h := h.1 c1
    refine lv_aload_n hx hb dX8_takeNumber_16 rfl (lv_at hl 0 rfl) ?_
    refine x_geti (ci := 8) C hw 12 (xoT_0 ho) rfl inlX8 (by decide) rfl rfl xw_476 dX8_takeNumber_17 ?_
    refine lv_iload_n hx hb dX8_takeNumber_20 rfl (lv_at hl 1 rfl) ?_
    refine lv_icmp_lt (tgt := 32) hx hb dX8_takeNumber_21 (by decide) (fun c2 => ?_) (fun c2 => ?_)
    · have h := h.1 c2
      refine lv_aload_n hx hb dX8_takeNumber_32 rfl (lv_at hl 0 rfl) ?_
      refine lv_iconst (v := 4) hx hb dX8_takeNumber_33 (by decide) ?_
      refine x_callz hw (x_runV (ci := 8) C hw (m_X8_wrong l C.2.2.2.2.2.2.2.2.1 ho h) (xoT_0 ho) rfl (x_gV xw_506 xw_494 xw_495 xw_122 xw_496) rfl rfl qX8_wrong ⟨(Nat.le_of_ble_eq_true rfl), (Nat.le_of_ble_eq_true rfl)⟩ rfl hl.1 rfl (Nat.le_of_ble_eq_true rfl) dX8_takeNumber_34) (fun r4 u3 H locs hw h => ?_)
      refine lv_pop hx hb dX8_takeNumber_37 rfl ?_
      refine lv_iconst (v := -1) hx hb dX8_takeNumber_38 (by decide) ?_
      exact x_iret C hw h dX8_takeNumber_39
    · have h := h.2 c2
      refine lv_aload_n hx hb dX8_takeNumber_24 rfl (lv_at hl 0 rfl) ?_
      refine x_geti (ci := 8) C hw 12 (xoT_0 ho) rfl inlX8 (by decide) rfl rfl xw_476 dX8_takeNumber_25 ?_
      refine lv_iload_n hx hb dX8_takeNumber_28 rfl (lv_at hl 2 rfl) ?_
      refine lv_icmp_le (tgt := 40) hx hb dX8_takeNumber_29 (by decide) (fun c5 => ?_) (fun c5 => ?_)
      · have h := h.1 c5
        refine lv_aload_n hx hb dX8_takeNumber_40 rfl (lv_at hl 0 rfl) ?_
        refine x_geti (ci := 8) C hw 12 (xoT_0 ho) rfl inlX8 (by decide) rfl rfl xw_476 dX8_takeNumber_41 ?_
        refine lv_topi (fun x6 ex6 => ?_)
        have h := h x6 ex6
        refine lv_istore_n (lv' := [(3, .int x6), (0, .ref (xad g o)), (1, .int a1), (2, .int a2)]) hx hb dX8_takeNumber_44 rfl hl (by decide) rfl (fun ls hl => ?_)
        refine lv_aload_n hx hb dX8_takeNumber_45 rfl (lv_at hl 1 rfl) ?_
        refine x_callv hw (x_runV (ci := 8) C hw (m_X8_advance l C.2.2.2.2.2.2.2.2.1 ho h) (xoT_0 ho) rfl (x_gV xw_468 xw_469 xw_470 xw_122 xw_471) rfl rfl qX8_advance ⟨(Nat.le_of_ble_eq_true rfl), (Nat.le_of_ble_eq_true rfl)⟩ rfl hl.1 rfl (Nat.le_of_ble_eq_true rfl) dX8_takeNumber_46) (fun u7 H locs hw h => ?_)
        refine lv_iload_n hx hb dX8_takeNumber_49 rfl (lv_at hl 0 rfl) ?_
        exact x_iret C hw h dX8_takeNumber_50
      · have h := h.2 c5
        refine lv_aload_n hx hb dX8_takeNumber_32 rfl (lv_at hl 0 rfl) ?_
        refine lv_iconst (v := 4) hx hb dX8_takeNumber_33 (by decide) ?_
        refine x_callz hw (x_runV (ci := 8) C hw (m_X8_wrong l C.2.2.2.2.2.2.2.2.1 ho h) (xoT_0 ho) rfl (x_gV xw_506 xw_494 xw_495 xw_122 xw_496) rfl rfl qX8_wrong ⟨(Nat.le_of_ble_eq_true rfl), (Nat.le_of_ble_eq_true rfl)⟩ rfl hl.1 rfl (Nat.le_of_ble_eq_true rfl) dX8_takeNumber_34) (fun r9 u8 H locs hw h => ?_)
        refine lv_pop hx hb dX8_takeNumber_37 rfl ?_
        refine lv_iconst (v := -1) hx hb dX8_takeNumber_38 (by decide) ?_
        exact x_iret C hw h dX8_takeNumber_39
  · have h := h.2 c1
    refine lv_aload_n hx hb dX8_takeNumber_8 rfl (lv_at hl 0 rfl) ?_
    refine lv_iconst (v := 2) hx hb dX8_takeNumber_9 (by decide) ?_
    refine x_callz hw (x_runV (ci := 8) C hw (m_X8_wrong l C.2.2.2.2.2.2.2.2.1 ho h) (xoT_0 ho) rfl (x_gV xw_506 xw_494 xw_495 xw_122 xw_496) rfl rfl qX8_wrong ⟨(Nat.le_of_ble_eq_true rfl), (Nat.le_of_ble_eq_true rfl)⟩ rfl hl.1 rfl (Nat.le_of_ble_eq_true rfl) dX8_takeNumber_10) (fun r11 u10 H locs hw h => ?_)
    refine lv_pop hx hb dX8_takeNumber_13 rfl ?_
    refine lv_iconst (v := -1) hx hb dX8_takeNumber_14 (by decide) ?_
    exact x_iret C hw h dX8_takeNumber_15
set_option maxHeartbeats 4000000 in
set_option maxRecDepth 100000 in
theorem m_X8_takeNumber (l : Launch) {g : xG} (hD : x_D g) {o : Nat} (ho : xpT g o) {a1 : Int32} {a2 : Int32} {u : xM} {Qf : Int32 → xM → Prop} (h : p_X8_takeNumber o a1 a2 u Qf) : Met l yX8_takeNumber (Cond.code yX8_takeNumber cX8_takeNumber 4 (some .int) :: wsL_law) (x_rm 1 21) (va_Pc [.ref (xad g o), .int a1, .int a2] (x_B g u)) (x_Qi g Qf) 0 0 (x_A g) := by
  refine Met.ofW (cc := cX8_takeNumber) (maxL := 4) (ret := (some .int)) (by decide) rfl ?_
  intro p e s m args below meth c s₁ B hml hv
  obtain ⟨rfl, hB⟩ := hv
  obtain ⟨C, hw⟩ := x_start B hml hD hB
  have hl := lv_entry [.ref (xad g o), .int a1, .int a2] (n := 4) (Nat.le_of_ble_eq_true rfl)
  rw [lg_entry_eq]
  exact s_X8_takeNumber C ho hw hl h
set_option maxHeartbeats 4000000 in
set_option maxRecDepth 100000 in
theorem s_X8_takeNumberBehind {o : Nat} {Qf : Int32 → xM → Prop} {a1 : Int32} {a2 : Int32} {a3 : Int32} {a4 : Int32} (C : x_C p s m args meth c g RX8 cX8_takeNumberBehind 5 (some .int)) (ho : xpT g o) {u : xM} {H : Heap} {locs : List Loc} {ls : Array Slot} (hw : x_W g s.heap H locs u) (hl : lv_has ls 5 [(0, .ref (xad g o)), (1, .int a1), (2, .int a2), (3, .int a3), (4, .int a4)]) (h : p_X8_takeNumberBehind o a1 a2 a3 a4 u Qf) : W p l e (x_rm 2 44) s m args below meth c H locs 0 0 (MQ below (x_Qi g Qf) args s 0 0 (x_A g)) (F0 m 0 ls []) := by
  unfold p_X8_takeNumberBehind at h
  have hx := C.1
  have hb := C.2.1
  refine lv_aload_n hx hb dX8_takeNumberBehind_0 rfl (lv_at hl 0 rfl) ?_
  refine x_geti (ci := 8) C hw 11 (xoT_0 ho) rfl inlX8 (by decide) rfl rfl xw_474 dX8_takeNumberBehind_1 ?_
  refine lv_iload_n hx hb dX8_takeNumberBehind_4 rfl (lv_at hl 1 rfl) ?_
  refine lv_icmp_eq (tgt := 11) hx hb dX8_takeNumberBehind_5 (by decide) (fun c1 => ?_) (fun c1 => ?_)
  · have h := h.1 c1
    refine lv_aload_n hx hb dX8_takeNumberBehind_11 rfl (lv_at hl 0 rfl) ?_
    refine x_callv hw (x_runV (ci := 8) C hw (m_X8_advance l C.2.2.2.2.2.2.2.2.1 ho h) (xoT_0 ho) rfl (x_gV xw_468 xw_469 xw_470 xw_122 xw_471) rfl rfl qX8_advance ⟨(Nat.le_of_ble_eq_true rfl), (Nat.le_of_ble_eq_true rfl)⟩ rfl hl.1 rfl (Nat.le_of_ble_eq_true rfl) dX8_takeNumberBehind_12) (fun u2 H locs hw h => ?_)
    refine lv_aload_n hx hb dX8_takeNumberBehind_15 rfl (lv_at hl 0 rfl) ?_
    refine lv_iload_n hx hb dX8_takeNumberBehind_16 rfl (lv_at hl 2 rfl) ?_
    refine lv_iload_n hx hb dX8_takeNumberBehind_17 rfl (lv_at hl 3 rfl) ?_
    refine x_calli hw (x_runV (ci := 8) C hw (m_X8_takeNumber l C.2.2.2.2.2.2.2.2.1 ho h) (xoT_0 ho) rfl (x_gV xw_531 xw_524 xw_525 xw_122 xw_526) rfl rfl qX8_takeNumber ⟨(Nat.le_of_ble_eq_true rfl), (Nat.le_of_ble_eq_true rfl)⟩ rfl hl.1 rfl (Nat.le_of_ble_eq_true rfl) dX8_takeNumberBehind_18) (fun r4 u3 H locs hw h => ?_)
    exact x_iret C hw h dX8_takeNumberBehind_21
  · have h := h.2 c1
    refine lv_iload hx hb dX8_takeNumberBehind_8 (lv_at hl 4 rfl) ?_
    exact x_iret C hw h dX8_takeNumberBehind_10
set_option maxHeartbeats 4000000 in
set_option maxRecDepth 100000 in
theorem m_X8_takeNumberBehind (l : Launch) {g : xG} (hD : x_D g) {o : Nat} (ho : xpT g o) {a1 : Int32} {a2 : Int32} {a3 : Int32} {a4 : Int32} {u : xM} {Qf : Int32 → xM → Prop} (h : p_X8_takeNumberBehind o a1 a2 a3 a4 u Qf) : Met l yX8_takeNumberBehind (Cond.code yX8_takeNumberBehind cX8_takeNumberBehind 5 (some .int) :: wsL_law) (x_rm 2 44) (va_Pc [.ref (xad g o), .int a1, .int a2, .int a3, .int a4] (x_B g u)) (x_Qi g Qf) 0 0 (x_A g) := by
  refine Met.ofW (cc := cX8_takeNumberBehind) (maxL := 5) (ret := (some .int)) (by decide) rfl ?_
  intro p e s m args below meth c s₁ B hml hv
  obtain ⟨rfl, hB⟩ := hv
  obtain ⟨C, hw⟩ := x_start B hml hD hB
  have hl := lv_entry [.ref (xad g o), .int a1, .int a2, .int a3, .int a4] (n := 5) (Nat.le_of_ble_eq_true rfl)
  rw [lg_entry_eq]
  exact s_X8_takeNumberBehind C ho hw hl h
set_option maxHeartbeats 4000000 in
set_option maxRecDepth 100000 in
theorem s_X8_takeStop {o : Nat} {Qf : Bool → xM → Prop} (C : x_C p s m args meth c g RX8 cX8_takeStop 1 (some .boolean)) (ho : xpT g o) {u : xM} {H : Heap} {locs : List Loc} {ls : Array Slot} (hw : x_W g s.heap H locs u) (hl : lv_has ls 1 [(0, .ref (xad g o))]) (h : p_X8_takeStop o u Qf) : W p l e (x_rm 1 21) s m args below meth c H locs 0 0 (MQ below (x_Qz g Qf) args s 0 0 (x_A g)) (F0 m 0 ls []) := by
  unfold p_X8_takeStop at h
  have hx := C.1
  have hb := C.2.1
  refine lv_aload_n hx hb dX8_takeStop_0 rfl (lv_at hl 0 rfl) ?_
  refine x_geti (ci := 8) C hw 13 (xoT_0 ho) rfl inlX8 (by decide) rfl rfl xw_477 dX8_takeStop_1 ?_
  refine lv_bipush (v := 59) hx hb dX8_takeStop_4 (by decide) ?_
  refine lv_icmp_eq (tgt := 15) hx hb dX8_takeStop_6 (by decide) (fun c1 => ?_) (fun c1 => ?_)
  · have h := h.1 c1
    refine lv_aload_n hx hb dX8_takeStop_15 rfl (lv_at hl 0 rfl) ?_
    refine x_callv hw (x_runV (ci := 8) C hw (m_X8_advance l C.2.2.2.2.2.2.2.2.1 ho h) (xoT_0 ho) rfl (x_gV xw_468 xw_469 xw_470 xw_122 xw_471) rfl rfl qX8_advance ⟨(Nat.le_of_ble_eq_true rfl), (Nat.le_of_ble_eq_true rfl)⟩ rfl hl.1 rfl (Nat.le_of_ble_eq_true rfl) dX8_takeStop_16) (fun u2 H locs hw h => ?_)
    refine lv_iconst (v := 1) hx hb dX8_takeStop_19 (by decide) ?_
    exact x_zret true C hw h rfl dX8_takeStop_20
  · have h := h.2 c1
    refine lv_aload_n hx hb dX8_takeStop_9 rfl (lv_at hl 0 rfl) ?_
    refine lv_iconst (v := 2) hx hb dX8_takeStop_10 (by decide) ?_
    refine x_callz hw (x_runV (ci := 8) C hw (m_X8_wrong l C.2.2.2.2.2.2.2.2.1 ho h) (xoT_0 ho) rfl (x_gV xw_506 xw_494 xw_495 xw_122 xw_496) rfl rfl qX8_wrong ⟨(Nat.le_of_ble_eq_true rfl), (Nat.le_of_ble_eq_true rfl)⟩ rfl hl.1 rfl (Nat.le_of_ble_eq_true rfl) dX8_takeStop_11) (fun r4 u3 H locs hw h => ?_)
    exact x_zret _ C hw h rfl dX8_takeStop_14
set_option maxHeartbeats 4000000 in
set_option maxRecDepth 100000 in
theorem m_X8_takeStop (l : Launch) {g : xG} (hD : x_D g) {o : Nat} (ho : xpT g o) {u : xM} {Qf : Bool → xM → Prop} (h : p_X8_takeStop o u Qf) : Met l yX8_takeStop (Cond.code yX8_takeStop cX8_takeStop 1 (some .boolean) :: wsL_law) (x_rm 1 21) (va_Pc [.ref (xad g o)] (x_B g u)) (x_Qz g Qf) 0 0 (x_A g) := by
  refine Met.ofW (cc := cX8_takeStop) (maxL := 1) (ret := (some .boolean)) (by decide) rfl ?_
  intro p e s m args below meth c s₁ B hml hv
  obtain ⟨rfl, hB⟩ := hv
  obtain ⟨C, hw⟩ := x_start B hml hD hB
  have hl := lv_entry [.ref (xad g o)] (n := 1) (Nat.le_of_ble_eq_true rfl)
  rw [lg_entry_eq]
  exact s_X8_takeStop C ho hw hl h
set_option maxHeartbeats 4000000 in
set_option maxRecDepth 100000 in
theorem s_X7_add {o : Nat} {Qf : xM → Prop} {a1 : Int64} {a2 : Int32} {a3 : Int32} {a4 : Int32} {a5 : Int32} (C : x_C p s m args meth c g RX7 cX7_add 7 none) (ho : xpL g o) {u : xM} {H : Heap} {locs : List Loc} {ls : Array Slot} (hw : x_W g s.heap H locs u) (hl : lv_has ls 7 [(0, .ref (xad g (o + 1))), (1, .long a1), (3, .int a2), (4, .int a3), (5, .int a4), (6, .int a5)]) (h : p_X7_add o a1 a2 a3 a4 a5 u Qf) : W p l e (x_rm 0 0) s m args below meth c H locs 0 0 (MQ below (x_Qv g Qf) args s 0 0 (x_A g)) (F0 m 0 ls []) := by
  unfold p_X7_add at h
  have hx := C.1
  have hb := C.2.1
  refine lv_aload_n hx hb dX7_add_0 rfl (lv_at hl 0 rfl) ?_
  refine x_geti (ci := 7) C hw 0 (xoL_1 ho) rfl inlX7 (by decide) rfl rfl xw_414 dX7_add_1 ?_
  refine lv_bipush (v := 7) hx hb dX7_add_4 (by decide) ?_
  refine lv_icmp_lt (tgt := 10) hx hb dX7_add_6 (by decide) (fun c1 => ?_) (fun c1 => ?_)
  · have h := h.1 c1
    refine lv_aload_n hx hb dX7_add_10 rfl (lv_at hl 0 rfl) ?_
    refine x_getr (ci := 7) C hw 2 (xoL_1 ho) rfl inlX7 (by decide) rfl rfl (xrL_1_2 ho) xw_79 dX7_add_11 ?_
    refine lv_aload_n hx hb dX7_add_14 rfl (lv_at hl 0 rfl) ?_
    refine x_geti (ci := 7) C hw 0 (xoL_1 ho) rfl inlX7 (by decide) rfl rfl xw_414 dX7_add_15 ?_
    refine lv_lload_n hx hb dX7_add_18 rfl (lv_at hl 1 rfl) ?_
    have c2 := h.1
    have h := h.2
    obtain ⟨u3, eu3⟩ : ∃ q : xM, q = sl u (o + 2) (gi u (o + 1) 0).toNatClampNeg a1 := ⟨_, rfl⟩
    have h := h u3 eu3
    refine x_last C hw (xoL_2 ho) c2 dX7_add_19 eu3 (fun H locs hw => ?_)
    refine lv_aload_n hx hb dX7_add_20 rfl (lv_at hl 0 rfl) ?_
    refine x_getr (ci := 7) C hw 3 (xoL_1 ho) rfl inlX7 (by decide) rfl rfl (xrL_1_3 ho) xw_80 dX7_add_21 ?_
    refine lv_aload_n hx hb dX7_add_24 rfl (lv_at hl 0 rfl) ?_
    refine x_geti (ci := 7) C hw 0 (xoL_1 ho) rfl inlX7 (by decide) rfl rfl xw_414 dX7_add_25 ?_
    refine lv_iload_n hx hb dX7_add_28 rfl (lv_at hl 2 rfl) ?_
    have c4 := h.1
    have h := h.2
    obtain ⟨u5, eu5⟩ : ∃ q : xM, q = si u3 (o + 3) (gi u3 (o + 1) 0).toNatClampNeg a2 := ⟨_, rfl⟩
    have h := h u5 eu5
    refine x_iast C hw (xoL_3 ho) c4 dX7_add_29 eu5 (fun H locs hw => ?_)
    refine lv_aload_n hx hb dX7_add_30 rfl (lv_at hl 0 rfl) ?_
    refine x_getr (ci := 7) C hw 4 (xoL_1 ho) rfl inlX7 (by decide) rfl rfl (xrL_1_4 ho) xw_81 dX7_add_31 ?_
    refine lv_aload_n hx hb dX7_add_34 rfl (lv_at hl 0 rfl) ?_
    refine x_geti (ci := 7) C hw 0 (xoL_1 ho) rfl inlX7 (by decide) rfl rfl xw_414 dX7_add_35 ?_
    refine lv_iload hx hb dX7_add_38 (lv_at hl 3 rfl) ?_
    have c6 := h.1
    have h := h.2
    obtain ⟨u7, eu7⟩ : ∃ q : xM, q = si u5 (o + 4) (gi u5 (o + 1) 0).toNatClampNeg a3 := ⟨_, rfl⟩
    have h := h u7 eu7
    refine x_iast C hw (xoL_4 ho) c6 dX7_add_40 eu7 (fun H locs hw => ?_)
    refine lv_aload_n hx hb dX7_add_41 rfl (lv_at hl 0 rfl) ?_
    refine x_getr (ci := 7) C hw 5 (xoL_1 ho) rfl inlX7 (by decide) rfl rfl (xrL_1_5 ho) xw_82 dX7_add_42 ?_
    refine lv_aload_n hx hb dX7_add_45 rfl (lv_at hl 0 rfl) ?_
    refine x_geti (ci := 7) C hw 0 (xoL_1 ho) rfl inlX7 (by decide) rfl rfl xw_414 dX7_add_46 ?_
    refine lv_iload hx hb dX7_add_49 (lv_at hl 4 rfl) ?_
    have c8 := h.1
    have h := h.2
    obtain ⟨u9, eu9⟩ : ∃ q : xM, q = si u7 (o + 5) (gi u7 (o + 1) 0).toNatClampNeg a4 := ⟨_, rfl⟩
    have h := h u9 eu9
    refine x_iast C hw (xoL_5 ho) c8 dX7_add_51 eu9 (fun H locs hw => ?_)
    refine lv_aload_n hx hb dX7_add_52 rfl (lv_at hl 0 rfl) ?_
    refine x_getr (ci := 7) C hw 7 (xoL_1 ho) rfl inlX7 (by decide) rfl rfl (xrL_1_7 ho) xw_84 dX7_add_53 ?_
    refine lv_aload_n hx hb dX7_add_56 rfl (lv_at hl 0 rfl) ?_
    refine x_geti (ci := 7) C hw 0 (xoL_1 ho) rfl inlX7 (by decide) rfl rfl xw_414 dX7_add_57 ?_
    refine lv_iload hx hb dX7_add_60 (lv_at hl 5 rfl) ?_
    have c10 := h.1
    have h := h.2
    obtain ⟨u11, eu11⟩ : ∃ q : xM, q = si u9 (o + 7) (gi u9 (o + 1) 0).toNatClampNeg a5 := ⟨_, rfl⟩
    have h := h u11 eu11
    refine x_iast C hw (xoL_7 ho) c10 dX7_add_62 eu11 (fun H locs hw => ?_)
    refine lv_aload_n hx hb dX7_add_63 rfl (lv_at hl 0 rfl) ?_
    refine x_getr (ci := 7) C hw 6 (xoL_1 ho) rfl inlX7 (by decide) rfl rfl (xrL_1_6 ho) xw_83 dX7_add_64 ?_
    refine lv_aload_n hx hb dX7_add_67 rfl (lv_at hl 0 rfl) ?_
    refine x_geti (ci := 7) C hw 0 (xoL_1 ho) rfl inlX7 (by decide) rfl rfl xw_414 dX7_add_68 ?_
    refine lv_iconst (v := 0) hx hb dX7_add_71 (by decide) ?_
    have c12 := h.1
    have h := h.2
    obtain ⟨u13, eu13⟩ : ∃ q : xM, q = si u11 (o + 6) (gi u11 (o + 1) 0).toNatClampNeg (0 : Int32) := ⟨_, rfl⟩
    have h := h u13 eu13
    refine x_iast C hw (xoL_6 ho) c12 dX7_add_72 eu13 (fun H locs hw => ?_)
    refine lv_aload_n hx hb dX7_add_73 rfl (lv_at hl 0 rfl) ?_
    refine x_getr (ci := 7) C hw 8 (xoL_1 ho) rfl inlX7 (by decide) rfl rfl (xrL_1_8 ho) xw_85 dX7_add_74 ?_
    refine lv_aload_n hx hb dX7_add_77 rfl (lv_at hl 0 rfl) ?_
    refine x_geti (ci := 7) C hw 0 (xoL_1 ho) rfl inlX7 (by decide) rfl rfl xw_414 dX7_add_78 ?_
    refine lv_iconst (v := 0) hx hb dX7_add_81 (by decide) ?_
    have c14 := h.1
    have h := h.2
    obtain ⟨u15, eu15⟩ : ∃ q : xM, q = si u13 (o + 8) (gi u13 (o + 1) 0).toNatClampNeg (0 : Int32) := ⟨_, rfl⟩
    have h := h u15 eu15
    refine x_iast C hw (xoL_8 ho) c14 dX7_add_82 eu15 (fun H locs hw => ?_)
    refine lv_aload_n hx hb dX7_add_83 rfl (lv_at hl 0 rfl) ?_
    refine lv_dup hx hb dX7_add_84 rfl ?_
    refine x_geti (ci := 7) C hw 0 (xoL_1 ho) rfl inlX7 (by decide) rfl rfl xw_414 dX7_add_85 ?_
    refine lv_iconst (v := 1) hx hb dX7_add_88 (by decide) ?_
    refine lv_iadd hx hb dX7_add_89 ?_
    obtain ⟨u16, eu16⟩ : ∃ q : xM, q = si u15 (o + 1) 0 ((gi u15 (o + 1) 0) + (1 : Int32)) := ⟨_, rfl⟩
    have h := h u16 eu16
    refine x_puti (ci := 7) (ty := .int) C hw 0 (xoL_1 ho) rfl inlX7 tyX7_ok nmX7 (by decide) rfl rfl xw_414 rfl (by decide +kernel) rfl rfl dX7_add_90 eu16 (fun H locs hw => ?_)
    exact x_vret C hw h dX7_add_93
  · have h := h.2 c1
    exact x_vret C hw h dX7_add_9
set_option maxHeartbeats 4000000 in
set_option maxRecDepth 100000 in
theorem m_X7_add (l : Launch) {g : xG} (hD : x_D g) {o : Nat} (ho : xpL g o) {a1 : Int64} {a2 : Int32} {a3 : Int32} {a4 : Int32} {a5 : Int32} {u : xM} {Qf : xM → Prop} (h : p_X7_add o a1 a2 a3 a4 a5 u Qf) : Met l yX7_add (Cond.code yX7_add cX7_add 7 none :: wsL_law) (x_rm 0 0) (va_Pc [.ref (xad g (o + 1)), .long a1, .int a2, .int a3, .int a4, .int a5] (x_B g u)) (x_Qv g Qf) 0 0 (x_A g) := by
  refine Met.ofW (cc := cX7_add) (maxL := 7) (ret := none) (by decide) rfl ?_
  intro p e s m args below meth c s₁ B hml hv
  obtain ⟨rfl, hB⟩ := hv
  obtain ⟨C, hw⟩ := x_start B hml hD hB
  have hl := lv_entry [.ref (xad g (o + 1)), .long a1, .int a2, .int a3, .int a4, .int a5] (n := 7) (Nat.le_of_ble_eq_true rfl)
  rw [lg_entry_eq]
  exact s_X7_add C ho hw hl h
set_option maxHeartbeats 4000000 in
set_option maxRecDepth 100000 in
theorem s_X2_readRoom {Qf : Bool → xM → Prop} (C : x_C p s m args meth c g RX2 cX2_readRoom 7 (some .boolean)) (hX : xpX g) {u : xM} {H : Heap} {locs : List Loc} {ls : Array Slot} (hw : x_W g s.heap H locs u) (hl : lv_has ls 7 [(0, .ref (xad g 31))]) (h : p_X2_readRoom  u Qf) : W p l e (x_rm 4 91) s m args below meth c H locs 0 0 (MQ below (x_Qz g Qf) args s 0 0 (x_A g)) (F0 m 0 ls []) := by
  unfold p_X2_readRoom at h
  have hx := C.1
  have hb := C.2.1
  refine lv_aload_n hx hb dX2_readRoom_0 rfl (lv_at hl 0 rfl) ?_
  refine x_getr (ci := 2) C hw 1 (xoX_31 hX) rfl inlX2 (by decide) rfl rfl xrX_31_1 xw_125 dX2_readRoom_1 ?_
  refine x_getr (ci := 1) C hw 0 (xoL_0 (xpL_164 hX)) rfl inlX1 (by decide) rfl rfl (xrL_0_0 (xpL_164 hX)) xw_491 dX2_readRoom_4 ?_
  refine x_geti (ci := 7) C hw 0 (xoL_1 (xpL_164 hX)) rfl inlX7 (by decide) rfl rfl xw_492 dX2_readRoom_7 ?_
  refine lv_bipush (v := 7) hx hb dX2_readRoom_10 (by decide) ?_
  refine lv_icmp_lt (tgt := 25) hx hb dX2_readRoom_12 (by decide) (fun c1 => ?_) (fun c1 => ?_)
  · have h := h.1 c1
    refine lv_aload_n hx hb dX2_readRoom_25 rfl (lv_at hl 0 rfl) ?_
    refine x_getr (ci := 2) C hw 0 (xoX_31 hX) rfl inlX2 (by decide) rfl rfl xrX_31_0 xw_123 dX2_readRoom_26 ?_
    refine x_callv hw (x_runV (ci := 8) C hw (m_X8_advance l C.2.2.2.2.2.2.2.2.1 (xpT_34 hX) h) (xoT_0 (xpT_34 hX)) rfl (x_gV xw_497 xw_469 xw_470 xw_122 xw_471) rfl rfl qX8_advance ⟨(Nat.le_of_ble_eq_true rfl), (Nat.le_of_ble_eq_true rfl)⟩ rfl hl.1 rfl (Nat.le_of_ble_eq_true rfl) dX2_readRoom_29) (fun u2 H locs hw h => ?_)
    refine lv_aload_n hx hb dX2_readRoom_32 rfl (lv_at hl 0 rfl) ?_
    refine x_getr (ci := 2) C hw 0 (xoX_31 hX) rfl inlX2 (by decide) rfl rfl xrX_31_0 xw_123 dX2_readRoom_33 ?_
    refine lv_aload_n hx hb dX2_readRoom_36 rfl (lv_at hl 0 rfl) ?_
    refine x_getr (ci := 2) C hw 1 (xoX_31 hX) rfl inlX2 (by decide) rfl rfl xrX_31_1 xw_125 dX2_readRoom_37 ?_
    refine x_calll hw (x_runV (ci := 8) C hw (m_X8_takeNewName l C.2.2.2.2.2.2.2.2.1 (xpT_34 hX) (xpL_164 hX) h) (xoT_0 (xpT_34 hX)) rfl (x_gV xw_498 xw_499 xw_500 xw_122 xw_501) rfl rfl qX8_takeNewName ⟨(Nat.le_of_ble_eq_true rfl), (Nat.le_of_ble_eq_true rfl)⟩ rfl hl.1 rfl (Nat.le_of_ble_eq_true rfl) dX2_readRoom_40) (fun r4 u3 H locs hw h => ?_)
    refine lv_lstore_n (lv' := [(1, .long r4), (0, .ref (xad g 31))]) hx hb dX2_readRoom_43 rfl hl (by decide) rfl (fun ls hl => ?_)
    refine lv_lload_n hx hb dX2_readRoom_44 rfl (lv_at hl 0 rfl) ?_
    refine lv_lconst (v := 0) hx hb dX2_readRoom_45 (by decide) ?_
    refine W.lcmp hx hb dX2_readRoom_46 ?_
    refine lv_if_eq (tgt := 61) hx hb dX2_readRoom_47 (by decide) (fun c5 => ?_) (fun c5 => ?_)
    · have h := h.1 c5
      refine lv_iconst (v := 0) hx hb dX2_readRoom_61 (by decide) ?_
      exact x_zret false C hw h rfl dX2_readRoom_62
    · have h := h.2 c5
      refine lv_aload_n hx hb dX2_readRoom_50 rfl (lv_at hl 1 rfl) ?_
      refine x_getr (ci := 2) C hw 0 (xoX_31 hX) rfl inlX2 (by decide) rfl rfl xrX_31_0 xw_123 dX2_readRoom_51 ?_
      refine lv_iconst (v := 1) hx hb dX2_readRoom_54 (by decide) ?_
      refine x_callz hw (x_runV (ci := 8) C hw (m_X8_takeWord l C.2.2.2.2.2.2.2.2.1 (xpT_34 hX) h) (xoT_0 (xpT_34 hX)) rfl (x_gV xw_519 xw_520 xw_521 xw_122 xw_522) rfl rfl qX8_takeWord ⟨(Nat.le_of_ble_eq_true rfl), (Nat.le_of_ble_eq_true rfl)⟩ rfl hl.1 rfl (Nat.le_of_ble_eq_true rfl) dX2_readRoom_55) (fun r7 u6 H locs hw h => ?_)
      refine lv_if_ne (tgt := 63) hx hb dX2_readRoom_58 (by decide) (fun c8 => ?_) (fun c8 => ?_)
      · have h := h.1 (xb_t c8)
        refine lv_aload_n hx hb dX2_readRoom_63 rfl (lv_at hl 1 rfl) ?_
        refine x_getr (ci := 2) C hw 0 (xoX_31 hX) rfl inlX2 (by decide) rfl rfl xrX_31_0 xw_123 dX2_readRoom_64 ?_
        refine lv_iconst (v := 0) hx hb dX2_readRoom_67 (by decide) ?_
        refine lv_bipush (v := 99) hx hb dX2_readRoom_68 (by decide) ?_
        refine x_calli hw (x_runV (ci := 8) C hw (m_X8_takeNumber l C.2.2.2.2.2.2.2.2.1 (xpT_34 hX) h) (xoT_0 (xpT_34 hX)) rfl (x_gV xw_523 xw_524 xw_525 xw_122 xw_526) rfl rfl qX8_takeNumber ⟨(Nat.le_of_ble_eq_true rfl), (Nat.le_of_ble_eq_true rfl)⟩ rfl hl.1 rfl (Nat.le_of_ble_eq_true rfl) dX2_readRoom_70) (fun r10 u9 H locs hw h => ?_)
        refine lv_istore_n (lv' := [(3, .int r10), (1, .long r4), (0, .ref (xad g 31))]) hx hb dX2_readRoom_73 rfl hl (by decide) rfl (fun ls hl => ?_)
        refine lv_iload_n hx hb dX2_readRoom_74 rfl (lv_at hl 0 rfl) ?_
        refine lv_iconst (v := -1) hx hb dX2_readRoom_75 (by decide) ?_
        refine lv_icmp_ne (tgt := 81) hx hb dX2_readRoom_76 (by decide) (fun c11 => ?_) (fun c11 => ?_)
        · have h := h.1 c11
          refine lv_aload_n hx hb dX2_readRoom_81 rfl (lv_at hl 2 rfl) ?_
          refine x_getr (ci := 2) C hw 0 (xoX_31 hX) rfl inlX2 (by decide) rfl rfl xrX_31_0 xw_123 dX2_readRoom_82 ?_
          refine lv_iconst (v := 2) hx hb dX2_readRoom_85 (by decide) ?_
          refine lv_iconst (v := 1) hx hb dX2_readRoom_86 (by decide) ?_
          refine lv_bipush (v := 20) hx hb dX2_readRoom_87 (by decide) ?_
          refine lv_iconst (v := 1) hx hb dX2_readRoom_89 (by decide) ?_
          refine x_calli hw (x_runV (ci := 8) C hw (m_X8_takeNumberBehind l C.2.2.2.2.2.2.2.2.1 (xpT_34 hX) h) (xoT_0 (xpT_34 hX)) rfl (x_gV xw_527 xw_528 xw_529 xw_122 xw_530) rfl rfl qX8_takeNumberBehind ⟨(Nat.le_of_ble_eq_true rfl), (Nat.le_of_ble_eq_true rfl)⟩ rfl hl.1 rfl (Nat.le_of_ble_eq_true rfl) dX2_readRoom_90) (fun r13 u12 H locs hw h => ?_)
          refine lv_istore (lv' := [(4, .int r13), (3, .int r10), (1, .long r4), (0, .ref (xad g 31))]) hx hb dX2_readRoom_93 hl (by decide) rfl (fun ls hl => ?_)
          refine lv_iload hx hb dX2_readRoom_95 (lv_at hl 0 rfl) ?_
          refine lv_iconst (v := -1) hx hb dX2_readRoom_97 (by decide) ?_
          refine lv_icmp_ne (tgt := 103) hx hb dX2_readRoom_98 (by decide) (fun c14 => ?_) (fun c14 => ?_)
          · have h := h.1 c14
            refine lv_aload_n hx hb dX2_readRoom_103 rfl (lv_at hl 3 rfl) ?_
            refine x_getr (ci := 2) C hw 0 (xoX_31 hX) rfl inlX2 (by decide) rfl rfl xrX_31_0 xw_123 dX2_readRoom_104 ?_
            refine lv_iconst (v := 3) hx hb dX2_readRoom_107 (by decide) ?_
            refine lv_iconst (v := 1) hx hb dX2_readRoom_108 (by decide) ?_
            refine lv_bipush (v := 99) hx hb dX2_readRoom_109 (by decide) ?_
            refine lv_bipush (v := 10) hx hb dX2_readRoom_111 (by decide) ?_
            refine x_calli hw (x_runV (ci := 8) C hw (m_X8_takeNumberBehind l C.2.2.2.2.2.2.2.2.1 (xpT_34 hX) h) (xoT_0 (xpT_34 hX)) rfl (x_gV xw_527 xw_528 xw_529 xw_122 xw_530) rfl rfl qX8_takeNumberBehind ⟨(Nat.le_of_ble_eq_true rfl), (Nat.le_of_ble_eq_true rfl)⟩ rfl hl.1 rfl (Nat.le_of_ble_eq_true rfl) dX2_readRoom_113) (fun r16 u15 H locs hw h => ?_)
            refine lv_istore (lv' := [(5, .int r16), (4, .int r13), (3, .int r10), (1, .long r4), (0, .ref (xad g 31))]) hx hb dX2_readRoom_116 hl (by decide) rfl (fun ls hl => ?_)
            refine lv_iload hx hb dX2_readRoom_118 (lv_at hl 0 rfl) ?_
            refine lv_iconst (v := -1) hx hb dX2_readRoom_120 (by decide) ?_
            refine lv_icmp_ne (tgt := 126) hx hb dX2_readRoom_121 (by decide) (fun c17 => ?_) (fun c17 => ?_)
            · have h := h.1 c17
              refine lv_aload_n hx hb dX2_readRoom_126 rfl (lv_at hl 4 rfl) ?_
              refine x_getr (ci := 2) C hw 0 (xoX_31 hX) rfl inlX2 (by decide) rfl rfl xrX_31_0 xw_123 dX2_readRoom_127 ?_
              refine lv_iconst (v := 4) hx hb dX2_readRoom_130 (by decide) ?_
              refine lv_iconst (v := 0) hx hb dX2_readRoom_131 (by decide) ?_
              refine lv_sipush (v := 999) hx hb dX2_readRoom_132 (by decide) ?_
              refine lv_iconst (v := 0) hx hb dX2_readRoom_135 (by decide) ?_
              refine x_calli hw (x_runV (ci := 8) C hw (m_X8_takeNumberBehind l C.2.2.2.2.2.2.2.2.1 (xpT_34 hX) h) (xoT_0 (xpT_34 hX)) rfl (x_gV xw_527 xw_528 xw_529 xw_122 xw_530) rfl rfl qX8_takeNumberBehind ⟨(Nat.le_of_ble_eq_true rfl), (Nat.le_of_ble_eq_true rfl)⟩ rfl hl.1 rfl (Nat.le_of_ble_eq_true rfl) dX2_readRoom_136) (fun r19 u18 H locs hw h => ?_)
              refine lv_istore (lv' := [(6, .int r19), (5, .int r16), (4, .int r13), (3, .int r10), (1, .long r4), (0, .ref (xad g 31))]) hx hb dX2_readRoom_139 hl (by decide) rfl (fun ls hl => ?_)
              refine lv_iload hx hb dX2_readRoom_141 (lv_at hl 0 rfl) ?_
              refine lv_iconst (v := -1) hx hb dX2_readRoom_143 (by decide) ?_
              refine lv_icmp_eq (tgt := 157) hx hb dX2_readRoom_144 (by decide) (fun c20 => ?_) (fun c20 => ?_)
              · have h := h.1 c20
                refine lv_iconst (v := 0) hx hb dX2_readRoom_157 (by decide) ?_
                exact x_zret false C hw h rfl dX2_readRoom_158
              · have h := h.2 c20
                refine lv_aload_n hx hb dX2_readRoom_147 rfl (lv_at hl 5 rfl) ?_
                refine x_getr (ci := 2) C hw 0 (xoX_31 hX) rfl inlX2 (by decide) rfl rfl xrX_31_0 xw_123 dX2_readRoom_148 ?_
                refine x_callz hw (x_runV (ci := 8) C hw (m_X8_takeStop l C.2.2.2.2.2.2.2.2.1 (xpT_34 hX) h) (xoT_0 (xpT_34 hX)) rfl (x_gV xw_532 xw_533 xw_534 xw_122 xw_535) rfl rfl qX8_takeStop ⟨(Nat.le_of_ble_eq_true rfl), (Nat.le_of_ble_eq_true rfl)⟩ rfl hl.1 rfl (Nat.le_of_ble_eq_true rfl) dX2_readRoom_151) (fun r22 u21 H locs hw h => ?_)
                refine lv_if_ne (tgt := 159) hx hb dX2_readRoom_154 (by decide) (fun c23 => ?_) (fun c23 => ?_)
                · have h := h.1 (xb_t c23)
                  refine lv_aload_n hx hb dX2_readRoom_159 rfl (lv_at hl 5 rfl) ?_
                  refine x_getr (ci := 2) C hw 1 (xoX_31 hX) rfl inlX2 (by decide) rfl rfl xrX_31_1 xw_125 dX2_readRoom_160 ?_
                  refine x_getr (ci := 1) C hw 0 (xoL_0 (xpL_164 hX)) rfl inlX1 (by decide) rfl rfl (xrL_0_0 (xpL_164 hX)) xw_491 dX2_readRoom_163 ?_
                  refine lv_lload_n hx hb dX2_readRoom_166 rfl (lv_at hl 4 rfl) ?_
                  refine lv_iload_n hx hb dX2_readRoom_167 rfl (lv_at hl 3 rfl) ?_
                  refine lv_iload hx hb dX2_readRoom_168 (lv_at hl 2 rfl) ?_
                  refine lv_iload hx hb dX2_readRoom_170 (lv_at hl 1 rfl) ?_
                  refine lv_iload hx hb dX2_readRoom_172 (lv_at hl 0 rfl) ?_
                  refine x_callv hw (x_runV (ci := 7) C hw (m_X7_add l C.2.2.2.2.2.2.2.2.1 (xpL_164 hX) h) (xoL_1 (xpL_164 hX)) rfl (x_gV xw_536 xw_537 xw_538 xw_57 xw_539) rfl rfl qX7_add ⟨(Nat.le_of_ble_eq_true rfl), (Nat.le_of_ble_eq_true rfl)⟩ rfl hl.1 rfl (Nat.le_of_ble_eq_true rfl) dX2_readRoom_174) (fun u24 H locs hw h => ?_)
                  refine lv_iconst (v := 1) hx hb dX2_readRoom_177 (by decide) ?_
                  exact x_zret true C hw h rfl dX2_readRoom_178
                · have h := h.2 (xb_f c23)
                  refine lv_iconst (v := 0) hx hb dX2_readRoom_157 (by decide) ?_
                  exact x_zret false C hw h rfl dX2_readRoom_158
            · have h := h.2 c17
              refine lv_iconst (v := 0) hx hb dX2_readRoom_124 (by decide) ?_
              exact x_zret false C hw h rfl dX2_readRoom_125
          · have h := h.2 c14
            refine lv_iconst (v := 0) hx hb dX2_readRoom_101 (by decide) ?_
            exact x_zret false C hw h rfl dX2_readRoom_102
        · have h := h.2 c11
          refine lv_iconst (v := 0) hx hb dX2_readRoom_79 (by decide) ?_
          exact x_zret false C hw h rfl dX2_readRoom_80
      · have h := h.2 (xb_f c8)
        refine lv_iconst (v := 0) hx hb dX2_readRoom_61 (by decide) ?_
        exact x_zret false C hw h rfl dX2_readRoom_62
  · have h := h.2 c1
    refine lv_aload_n hx hb dX2_readRoom_15 rfl (lv_at hl 0 rfl) ?_
    refine x_getr (ci := 2) C hw 0 (xoX_31 hX) rfl inlX2 (by decide) rfl rfl xrX_31_0 xw_123 dX2_readRoom_16 ?_
    refine lv_bipush (v := 6) hx hb dX2_readRoom_19 (by decide) ?_
    refine x_callz hw (x_runV (ci := 8) C hw (m_X8_wrong l C.2.2.2.2.2.2.2.2.1 (xpT_34 hX) h) (xoT_0 (xpT_34 hX)) rfl (x_gV xw_493 xw_494 xw_495 xw_122 xw_496) rfl rfl qX8_wrong ⟨(Nat.le_of_ble_eq_true rfl), (Nat.le_of_ble_eq_true rfl)⟩ rfl hl.1 rfl (Nat.le_of_ble_eq_true rfl) dX2_readRoom_21) (fun r26 u25 H locs hw h => ?_)
    exact x_zret _ C hw h rfl dX2_readRoom_24
set_option maxHeartbeats 4000000 in
set_option maxRecDepth 100000 in
theorem m_X2_readRoom (l : Launch) {g : xG} (hD : x_D g) (hX : xpX g) {u : xM} {Qf : Bool → xM → Prop} (h : p_X2_readRoom  u Qf) : Met l yX2_readRoom (Cond.code yX2_readRoom cX2_readRoom 7 (some .boolean) :: wsL_law) (x_rm 4 91) (va_Pc [.ref (xad g 31)] (x_B g u)) (x_Qz g Qf) 0 0 (x_A g) := by
  refine Met.ofW (cc := cX2_readRoom) (maxL := 7) (ret := (some .boolean)) (by decide) rfl ?_
  intro p e s m args below meth c s₁ B hml hv
  obtain ⟨rfl, hB⟩ := hv
  obtain ⟨C, hw⟩ := x_start B hml hD hB
  have hl := lv_entry [.ref (xad g 31)] (n := 7) (Nat.le_of_ble_eq_true rfl)
  rw [lg_entry_eq]
  exact s_X2_readRoom C hX hw hl h
set_option maxHeartbeats 4000000 in
set_option maxRecDepth 100000 in
theorem s_X8_takeEnd_L54 {o : Nat} {o1 : Nat} {Qf : Int32 → xM → Prop} (C : x_C p s m args meth c g RX8 cX8_takeEnd 5 (some .int)) (ho : xpT g o) (ho1 : xpL g o1) {v2 : Int32} {w0 : Int32} {u : xM} {H : Heap} {locs : List Loc} {ls : Array Slot} (hw : x_W g s.heap H locs u) (hl : lv_has ls 5 [(0, .ref (xad g o)), (2, .int v2)]) (h : p_X8_takeEnd_L54 o o1 Qf v2 w0 u) : W p l e (x_rm 2 46) s m args below meth c H locs 0 0 (MQ below (x_Qi g Qf) args s 0 0 (x_A g)) (F0 m 54 ls [.int w0]) := by
  unfold p_X8_takeEnd_L54 at h
  have hx := C.1
  have hb := C.2.1
  refine lv_istore (lv' := [(4, .int w0), (0, .ref (xad g o)), (2, .int v2)]) hx hb dX8_takeEnd_54 hl (by decide) rfl (fun ls hl => ?_)
  refine lv_iload hx hb dX8_takeEnd_56 (lv_at hl 0 rfl) ?_
  refine lv_iconst (v := -1) hx hb dX8_takeEnd_58 (by decide) ?_
  refine lv_icmp_ne (tgt := 70) hx hb dX8_takeEnd_59 (by decide) (fun c1 => ?_) (fun c1 => ?_)
  · have h := h.1 c1
    refine lv_iload hx hb dX8_takeEnd_70 (lv_at hl 0 rfl) ?_
    refine lv_iload_n hx hb dX8_takeEnd_72 rfl (lv_at hl 2 rfl) ?_
    refine lv_icmp_ne (tgt := 84) hx hb dX8_takeEnd_73 (by decide) (fun c2 => ?_) (fun c2 => ?_)
    · have h := h.1 c2
      refine lv_aload_n hx hb dX8_takeEnd_84 rfl (lv_at hl 1 rfl) ?_
      refine x_callv hw (x_runV (ci := 8) C hw (m_X8_advance l C.2.2.2.2.2.2.2.2.1 ho h) (xoT_0 ho) rfl (x_gV xw_468 xw_469 xw_470 xw_122 xw_471) rfl rfl qX8_advance ⟨(Nat.le_of_ble_eq_true rfl), (Nat.le_of_ble_eq_true rfl)⟩ rfl hl.1 rfl (Nat.le_of_ble_eq_true rfl) dX8_takeEnd_85) (fun u3 H locs hw h => ?_)
      refine lv_iload hx hb dX8_takeEnd_88 (lv_at hl 0 rfl) ?_
      exact x_iret C hw h dX8_takeEnd_90
    · have h := h.2 c2
      refine lv_aload_n hx hb dX8_takeEnd_76 rfl (lv_at hl 1 rfl) ?_
      refine lv_iconst (v := 5) hx hb dX8_takeEnd_77 (by decide) ?_
      refine x_callz hw (x_runV (ci := 8) C hw (m_X8_wrong l C.2.2.2.2.2.2.2.2.1 ho h) (xoT_0 ho) rfl (x_gV xw_506 xw_494 xw_495 xw_122 xw_496) rfl rfl qX8_wrong ⟨(Nat.le_of_ble_eq_true rfl), (Nat.le_of_ble_eq_true rfl)⟩ rfl hl.1 rfl (Nat.le_of_ble_eq_true rfl) dX8_takeEnd_78) (fun r5 u4 H locs hw h => ?_)
      refine lv_pop hx hb dX8_takeEnd_81 rfl ?_
      refine lv_iconst (v := -1) hx hb dX8_takeEnd_82 (by decide) ?_
      exact x_iret C hw h dX8_takeEnd_83
  · have h := h.2 c1
    refine lv_aload_n hx hb dX8_takeEnd_62 rfl (lv_at hl 1 rfl) ?_
    refine lv_iconst (v := 3) hx hb dX8_takeEnd_63 (by decide) ?_
    refine x_callz hw (x_runV (ci := 8) C hw (m_X8_wrong l C.2.2.2.2.2.2.2.2.1 ho h) (xoT_0 ho) rfl (x_gV xw_506 xw_494 xw_495 xw_122 xw_496) rfl rfl qX8_wrong ⟨(Nat.le_of_ble_eq_true rfl), (Nat.le_of_ble_eq_true rfl)⟩ rfl hl.1 rfl (Nat.le_of_ble_eq_true rfl) dX8_takeEnd_64) (fun r7 u6 H locs hw h => ?_)
    refine lv_pop hx hb dX8_takeEnd_67 rfl ?_
    refine lv_iconst (v := -1) hx hb dX8_takeEnd_68 (by decide) ?_
    exact x_iret C hw h dX8_takeEnd_69
set_option maxHeartbeats 4000000 in
set_option maxRecDepth 100000 in
theorem s_X8_takeEnd_L34 {o : Nat} {o1 : Nat} {Qf : Int32 → xM → Prop} (C : x_C p s m args meth c g RX8 cX8_takeEnd 5 (some .int)) (ho : xpT g o) (ho1 : xpL g o1) {v2 : Int32} {v3 : Bool} {u : xM} {H : Heap} {locs : List Loc} {ls : Array Slot} (hw : x_W g s.heap H locs u) (hl : lv_has ls 5 [(0, .ref (xad g o)), (1, .ref (xad g o1)), (2, .int v2), (3, .int (xb v3))]) (h : p_X8_takeEnd_L34 o o1 Qf v2 v3 u) : W p l e (x_rm 2 46) s m args below meth c H locs 0 0 (MQ below (x_Qi g Qf) args s 0 0 (x_A g)) (F0 m 34 ls []) := by
  unfold p_X8_takeEnd_L34 at h
  have hx := C.1
  have hb := C.2.1
  refine lv_iload_n hx hb dX8_takeEnd_34 rfl (lv_at hl 3 rfl) ?_
  refine lv_if_eq (tgt := 43) hx hb dX8_takeEnd_35 (by decide) (fun c1 => ?_) (fun c1 => ?_)
  · have h := h.1 (xb_f c1)
    refine lv_aload_n hx hb dX8_takeEnd_43 rfl (lv_at hl 1 rfl) ?_
    refine x_getr (ci := 1) C hw 0 (xoL_0 ho1) rfl inlX1 (by decide) rfl rfl (xrL_0_0 ho1) xw_550 dX8_takeEnd_44 ?_
    refine lv_aload_n hx hb dX8_takeEnd_47 rfl (lv_at hl 0 rfl) ?_
    refine x_getl (ci := 8) C hw 10 (xoT_0 ho) rfl inlX8 (by decide) rfl rfl xw_475 dX8_takeEnd_48 ?_
    refine x_calli hw (x_runV (ci := 7) C hw (m_X7_indexOf l C.2.2.2.2.2.2.2.2.1 ho1 h) (xoL_1 ho1) rfl (x_gV xw_551 xw_512 xw_513 xw_57 xw_514) rfl rfl qX7_indexOf ⟨(Nat.le_of_ble_eq_true rfl), (Nat.le_of_ble_eq_true rfl)⟩ rfl hl.1 rfl (Nat.le_of_ble_eq_true rfl) dX8_takeEnd_51) (fun r3 u2 H locs hw h => ?_)
    exact s_X8_takeEnd_L54 C ho ho1 hw (lv_sub hl [0, 2] rfl) h
  · have h := h.2 (xb_t c1)
    refine lv_bipush (v := 7) hx hb dX8_takeEnd_38 (by decide) ?_
    refine lv_goto (tgt := 54) hx hb dX8_takeEnd_40 (by decide) ?_
    exact s_X8_takeEnd_L54 C ho ho1 hw (lv_sub hl [0, 2] rfl) h
set_option maxHeartbeats 4000000 in
set_option maxRecDepth 100000 in
theorem s_X8_takeEnd_L14 {o : Nat} {o1 : Nat} {Qf : Int32 → xM → Prop} (C : x_C p s m args meth c g RX8 cX8_takeEnd 5 (some .int)) (ho : xpT g o) (ho1 : xpL g o1) {v2 : Int32} {w0 : Bool} {u : xM} {H : Heap} {locs : List Loc} {ls : Array Slot} (hw : x_W g s.heap H locs u) (hl : lv_has ls 5 [(0, .ref (xad g o)), (1, .ref (xad g o1)), (2, .int v2)]) (h : p_X8_takeEnd_L14 o o1 Qf v2 w0 u) : W p l e (x_rm 2 46) s m args below meth c H locs 0 0 (MQ below (x_Qi g Qf) args s 0 0 (x_A g)) (F0 m 14 ls [.int (xb w0)]) := by
  unfold p_X8_takeEnd_L14 at h
  have hx := C.1
  have hb := C.2.1
  refine lv_istore_n (lv' := [(3, .int (xb w0)), (0, .ref (xad g o)), (1, .ref (xad g o1)), (2, .int v2)]) hx hb dX8_takeEnd_14 rfl hl (by decide) rfl (fun ls hl => ?_)
  refine lv_iload_n hx hb dX8_takeEnd_15 rfl (lv_at hl 0 rfl) ?_
  refine lv_if_ne (tgt := 34) hx hb dX8_takeEnd_16 (by decide) (fun c1 => ?_) (fun c1 => ?_)
  · have h := h.1 (xb_t c1)
    exact s_X8_takeEnd_L34 C ho ho1 hw (lv_sub hl [1, 2, 3, 0] rfl) h
  · have h := h.2 (xb_f c1)
    refine lv_aload_n hx hb dX8_takeEnd_19 rfl (lv_at hl 1 rfl) ?_
    refine x_callz hw (x_runV (ci := 8) C hw (m_X8_isName l C.2.2.2.2.2.2.2.2.1 ho h) (xoT_0 ho) rfl (x_gV xw_502 xw_503 xw_504 xw_122 xw_505) rfl rfl qX8_isName ⟨(Nat.le_of_ble_eq_true rfl), (Nat.le_of_ble_eq_true rfl)⟩ rfl hl.1 rfl (Nat.le_of_ble_eq_true rfl) dX8_takeEnd_20) (fun r3 u2 H locs hw h => ?_)
    refine lv_if_ne (tgt := 34) hx hb dX8_takeEnd_23 (by decide) (fun c4 => ?_) (fun c4 => ?_)
    · have h := h.1 (xb_t c4)
      exact s_X8_takeEnd_L34 C ho ho1 hw (lv_sub hl [1, 2, 3, 0] rfl) h
    · have h := h.2 (xb_f c4)
      refine lv_aload_n hx hb dX8_takeEnd_26 rfl (lv_at hl 1 rfl) ?_
      refine lv_iconst (v := 2) hx hb dX8_takeEnd_27 (by decide) ?_
      refine x_callz hw (x_runV (ci := 8) C hw (m_X8_wrong l C.2.2.2.2.2.2.2.2.1 ho h) (xoT_0 ho) rfl (x_gV xw_506 xw_494 xw_495 xw_122 xw_496) rfl rfl qX8_wrong ⟨(Nat.le_of_ble_eq_true rfl), (Nat.le_of_ble_eq_true rfl)⟩ rfl hl.1 rfl (Nat.le_of_ble_eq_true rfl) dX8_takeEnd_28) (fun r6 u5 H locs hw h => ?_)
      refine lv_pop hx hb dX8_takeEnd_31 rfl ?_
      refine lv_iconst (v := -1) hx hb dX8_takeEnd_32 (by decide) ?_
      exact x_iret C hw h dX8_takeEnd_33
set_option maxHeartbeats 4000000 in
set_option maxRecDepth 100000 in
theorem s_X8_takeEnd {o : Nat} {o1 : Nat} {Qf : Int32 → xM → Prop} {a2 : Int32} (C : x_C p s m args meth c g RX8 cX8_takeEnd 5 (some .int)) (ho : xpT g o) (ho1 : xpL g o1) {u : xM} {H : Heap} {locs : List Loc} {ls : Array Slot} (hw : x_W g s.heap H locs u) (hl : lv_has ls 5 [(0, .ref (xad g o)), (1, .ref (xad g o1)), (2, .int a2)]) (h : p_X8_takeEnd o o1 a2 u Qf) : W p l e (x_rm 2 46) s m args below meth c H locs 0 0 (MQ below (x_Qi g Qf) args s 0 0 (x_A g)) (F0 m 0 ls []) := by
  unfold p_X8_takeEnd at h
  have hx := C.1
  have hb := C.2.1
  refine lv_aload_n hx hb dX8_takeEnd_0 rfl (lv_at hl 0 rfl) ?_
  refine x_geti (ci := 8) C hw 11 (xoT_0 ho) rfl inlX8 (by decide) rfl rfl xw_474 dX8_takeEnd_1 ?_
  refine lv_bipush (v := 16) hx hb dX8_takeEnd_4 (by decide) ?_
  refine lv_icmp_ne (tgt := 13) hx hb dX8_takeEnd_6 (by decide) (fun c1 => ?_) (fun c1 => ?_)
  · have h := h.1 c1
    refine lv_iconst (v := 0) hx hb dX8_takeEnd_13 (by decide) ?_
    exact s_X8_takeEnd_L14 C ho ho1 hw (lv_sub hl [0, 1, 2] rfl) h
  · have h := h.2 c1
    refine lv_iconst (v := 1) hx hb dX8_takeEnd_9 (by decide) ?_
    refine lv_goto (tgt := 14) hx hb dX8_takeEnd_10 (by decide) ?_
    exact s_X8_takeEnd_L14 C ho ho1 hw (lv_sub hl [0, 1, 2] rfl) h
set_option maxHeartbeats 4000000 in
set_option maxRecDepth 100000 in
theorem m_X8_takeEnd (l : Launch) {g : xG} (hD : x_D g) {o : Nat} {o1 : Nat} (ho : xpT g o) (ho1 : xpL g o1) {a2 : Int32} {u : xM} {Qf : Int32 → xM → Prop} (h : p_X8_takeEnd o o1 a2 u Qf) : Met l yX8_takeEnd (Cond.code yX8_takeEnd cX8_takeEnd 5 (some .int) :: wsL_law) (x_rm 2 46) (va_Pc [.ref (xad g o), .ref (xad g o1), .int a2] (x_B g u)) (x_Qi g Qf) 0 0 (x_A g) := by
  refine Met.ofW (cc := cX8_takeEnd) (maxL := 5) (ret := (some .int)) (by decide) rfl ?_
  intro p e s m args below meth c s₁ B hml hv
  obtain ⟨rfl, hB⟩ := hv
  obtain ⟨C, hw⟩ := x_start B hml hD hB
  have hl := lv_entry [.ref (xad g o), .ref (xad g o1), .int a2] (n := 5) (Nat.le_of_ble_eq_true rfl)
  rw [lg_entry_eq]
  exact s_X8_takeEnd C ho ho1 hw hl h
set_option maxHeartbeats 4000000 in
set_option maxRecDepth 100000 in
theorem s_X0_add {o : Nat} {Qf : xM → Prop} {a1 : Int64} {a2 : Int32} {a3 : Int32} {a4 : Int32} {a5 : Int32} {a6 : Int32} (C : x_C p s m args meth c g RX0 cX0_add 8 none) (ho : xpL g o) {u : xM} {H : Heap} {locs : List Loc} {ls : Array Slot} (hw : x_W g s.heap H locs u) (hl : lv_has ls 8 [(0, .ref (xad g (o + 9))), (1, .long a1), (3, .int a2), (4, .int a3), (5, .int a4), (6, .int a5), (7, .int a6)]) (h : p_X0_add o a1 a2 a3 a4 a5 a6 u Qf) : W p l e (x_rm 0 0) s m args below meth c H locs 0 0 (MQ below (x_Qv g Qf) args s 0 0 (x_A g)) (F0 m 0 ls []) := by
  unfold p_X0_add at h
  have hx := C.1
  have hb := C.2.1
  refine lv_aload_n hx hb dX0_add_0 rfl (lv_at hl 0 rfl) ?_
  refine x_geti (ci := 0) C hw 0 (xoL_9 ho) rfl inlX0 (by decide) rfl rfl xw_420 dX0_add_1 ?_
  refine lv_bipush (v := 10) hx hb dX0_add_4 (by decide) ?_
  refine lv_icmp_lt (tgt := 10) hx hb dX0_add_6 (by decide) (fun c1 => ?_) (fun c1 => ?_)
  · have h := h.1 c1
    refine lv_aload_n hx hb dX0_add_10 rfl (lv_at hl 0 rfl) ?_
    refine x_getr (ci := 0) C hw 3 (xoL_9 ho) rfl inlX0 (by decide) rfl rfl (xrL_9_3 ho) xw_89 dX0_add_11 ?_
    refine lv_aload_n hx hb dX0_add_14 rfl (lv_at hl 0 rfl) ?_
    refine x_geti (ci := 0) C hw 0 (xoL_9 ho) rfl inlX0 (by decide) rfl rfl xw_420 dX0_add_15 ?_
    refine lv_lload_n hx hb dX0_add_18 rfl (lv_at hl 1 rfl) ?_
    have c2 := h.1
    have h := h.2
    obtain ⟨u3, eu3⟩ : ∃ q : xM, q = sl u (o + 10) (gi u (o + 9) 0).toNatClampNeg a1 := ⟨_, rfl⟩
    have h := h u3 eu3
    refine x_last C hw (xoL_10 ho) c2 dX0_add_19 eu3 (fun H locs hw => ?_)
    refine lv_aload_n hx hb dX0_add_20 rfl (lv_at hl 0 rfl) ?_
    refine x_getr (ci := 0) C hw 4 (xoL_9 ho) rfl inlX0 (by decide) rfl rfl (xrL_9_4 ho) xw_90 dX0_add_21 ?_
    refine lv_aload_n hx hb dX0_add_24 rfl (lv_at hl 0 rfl) ?_
    refine x_geti (ci := 0) C hw 0 (xoL_9 ho) rfl inlX0 (by decide) rfl rfl xw_420 dX0_add_25 ?_
    refine lv_iload_n hx hb dX0_add_28 rfl (lv_at hl 2 rfl) ?_
    have c4 := h.1
    have h := h.2
    obtain ⟨u5, eu5⟩ : ∃ q : xM, q = si u3 (o + 11) (gi u3 (o + 9) 0).toNatClampNeg a2 := ⟨_, rfl⟩
    have h := h u5 eu5
    refine x_iast C hw (xoL_11 ho) c4 dX0_add_29 eu5 (fun H locs hw => ?_)
    refine lv_aload_n hx hb dX0_add_30 rfl (lv_at hl 0 rfl) ?_
    refine x_getr (ci := 0) C hw 5 (xoL_9 ho) rfl inlX0 (by decide) rfl rfl (xrL_9_5 ho) xw_91 dX0_add_31 ?_
    refine lv_aload_n hx hb dX0_add_34 rfl (lv_at hl 0 rfl) ?_
    refine x_geti (ci := 0) C hw 0 (xoL_9 ho) rfl inlX0 (by decide) rfl rfl xw_420 dX0_add_35 ?_
    refine lv_iload hx hb dX0_add_38 (lv_at hl 3 rfl) ?_
    have c6 := h.1
    have h := h.2
    obtain ⟨u7, eu7⟩ : ∃ q : xM, q = si u5 (o + 12) (gi u5 (o + 9) 0).toNatClampNeg a3 := ⟨_, rfl⟩
    have h := h u7 eu7
    refine x_iast C hw (xoL_12 ho) c6 dX0_add_40 eu7 (fun H locs hw => ?_)
    refine lv_aload_n hx hb dX0_add_41 rfl (lv_at hl 0 rfl) ?_
    refine x_getr (ci := 0) C hw 6 (xoL_9 ho) rfl inlX0 (by decide) rfl rfl (xrL_9_6 ho) xw_92 dX0_add_42 ?_
    refine lv_aload_n hx hb dX0_add_45 rfl (lv_at hl 0 rfl) ?_
    refine x_geti (ci := 0) C hw 0 (xoL_9 ho) rfl inlX0 (by decide) rfl rfl xw_420 dX0_add_46 ?_
    refine lv_iload hx hb dX0_add_49 (lv_at hl 4 rfl) ?_
    have c8 := h.1
    have h := h.2
    obtain ⟨u9, eu9⟩ : ∃ q : xM, q = si u7 (o + 13) (gi u7 (o + 9) 0).toNatClampNeg a4 := ⟨_, rfl⟩
    have h := h u9 eu9
    refine x_iast C hw (xoL_13 ho) c8 dX0_add_51 eu9 (fun H locs hw => ?_)
    refine lv_aload_n hx hb dX0_add_52 rfl (lv_at hl 0 rfl) ?_
    refine x_getr (ci := 0) C hw 7 (xoL_9 ho) rfl inlX0 (by decide) rfl rfl (xrL_9_7 ho) xw_93 dX0_add_53 ?_
    refine lv_aload_n hx hb dX0_add_56 rfl (lv_at hl 0 rfl) ?_
    refine x_geti (ci := 0) C hw 0 (xoL_9 ho) rfl inlX0 (by decide) rfl rfl xw_420 dX0_add_57 ?_
    refine lv_iload hx hb dX0_add_60 (lv_at hl 5 rfl) ?_
    have c10 := h.1
    have h := h.2
    obtain ⟨u11, eu11⟩ : ∃ q : xM, q = si u9 (o + 14) (gi u9 (o + 9) 0).toNatClampNeg a5 := ⟨_, rfl⟩
    have h := h u11 eu11
    refine x_iast C hw (xoL_14 ho) c10 dX0_add_62 eu11 (fun H locs hw => ?_)
    refine lv_aload_n hx hb dX0_add_63 rfl (lv_at hl 0 rfl) ?_
    refine x_getr (ci := 0) C hw 8 (xoL_9 ho) rfl inlX0 (by decide) rfl rfl (xrL_9_8 ho) xw_94 dX0_add_64 ?_
    refine lv_aload_n hx hb dX0_add_67 rfl (lv_at hl 0 rfl) ?_
    refine x_geti (ci := 0) C hw 0 (xoL_9 ho) rfl inlX0 (by decide) rfl rfl xw_420 dX0_add_68 ?_
    refine lv_iload hx hb dX0_add_71 (lv_at hl 6 rfl) ?_
    have c12 := h.1
    have h := h.2
    obtain ⟨u13, eu13⟩ : ∃ q : xM, q = si u11 (o + 15) (gi u11 (o + 9) 0).toNatClampNeg a6 := ⟨_, rfl⟩
    have h := h u13 eu13
    refine x_iast C hw (xoL_15 ho) c12 dX0_add_73 eu13 (fun H locs hw => ?_)
    refine lv_aload_n hx hb dX0_add_74 rfl (lv_at hl 0 rfl) ?_
    refine lv_dup hx hb dX0_add_75 rfl ?_
    refine x_geti (ci := 0) C hw 0 (xoL_9 ho) rfl inlX0 (by decide) rfl rfl xw_420 dX0_add_76 ?_
    refine lv_iconst (v := 1) hx hb dX0_add_79 (by decide) ?_
    refine lv_iadd hx hb dX0_add_80 ?_
    obtain ⟨u14, eu14⟩ : ∃ q : xM, q = si u13 (o + 9) 0 ((gi u13 (o + 9) 0) + (1 : Int32)) := ⟨_, rfl⟩
    have h := h u14 eu14
    refine x_puti (ci := 0) (ty := .int) C hw 0 (xoL_9 ho) rfl inlX0 tyX0_ok nmX0 (by decide) rfl rfl xw_420 rfl (by decide +kernel) rfl rfl dX0_add_81 eu14 (fun H locs hw => ?_)
    exact x_vret C hw h dX0_add_84
  · have h := h.2 c1
    exact x_vret C hw h dX0_add_9
set_option maxHeartbeats 4000000 in
set_option maxRecDepth 100000 in
theorem m_X0_add (l : Launch) {g : xG} (hD : x_D g) {o : Nat} (ho : xpL g o) {a1 : Int64} {a2 : Int32} {a3 : Int32} {a4 : Int32} {a5 : Int32} {a6 : Int32} {u : xM} {Qf : xM → Prop} (h : p_X0_add o a1 a2 a3 a4 a5 a6 u Qf) : Met l yX0_add (Cond.code yX0_add cX0_add 8 none :: wsL_law) (x_rm 0 0) (va_Pc [.ref (xad g (o + 9)), .long a1, .int a2, .int a3, .int a4, .int a5, .int a6] (x_B g u)) (x_Qv g Qf) 0 0 (x_A g) := by
  refine Met.ofW (cc := cX0_add) (maxL := 8) (ret := none) (by decide) rfl ?_
  intro p e s m args below meth c s₁ B hml hv
  obtain ⟨rfl, hB⟩ := hv
  obtain ⟨C, hw⟩ := x_start B hml hD hB
  have hl := lv_entry [.ref (xad g (o + 9)), .long a1, .int a2, .int a3, .int a4, .int a5, .int a6] (n := 8) (Nat.le_of_ble_eq_true rfl)
  rw [lg_entry_eq]
  exact s_X0_add C ho hw hl h
set_option maxHeartbeats 4000000 in
set_option maxRecDepth 100000 in
theorem s_X2_readDoor {Qf : Bool → xM → Prop} (C : x_C p s m args meth c g RX2 cX2_readDoor 8 (some .boolean)) (hX : xpX g) {u : xM} {H : Heap} {locs : List Loc} {ls : Array Slot} (hw : x_W g s.heap H locs u) (hl : lv_has ls 8 [(0, .ref (xad g 31))]) (h : p_X2_readDoor  u Qf) : W p l e (x_rm 4 91) s m args below meth c H locs 0 0 (MQ below (x_Qz g Qf) args s 0 0 (x_A g)) (F0 m 0 ls []) := by
  unfold p_X2_readDoor at h
  have hx := C.1
  have hb := C.2.1
  refine lv_aload_n hx hb dX2_readDoor_0 rfl (lv_at hl 0 rfl) ?_
  refine x_getr (ci := 2) C hw 1 (xoX_31 hX) rfl inlX2 (by decide) rfl rfl xrX_31_1 xw_125 dX2_readDoor_1 ?_
  refine x_getr (ci := 1) C hw 1 (xoL_0 (xpL_164 hX)) rfl inlX1 (by decide) rfl rfl (xrL_0_1 (xpL_164 hX)) xw_544 dX2_readDoor_4 ?_
  refine x_geti (ci := 0) C hw 0 (xoL_9 (xpL_164 hX)) rfl inlX0 (by decide) rfl rfl xw_545 dX2_readDoor_7 ?_
  refine lv_bipush (v := 10) hx hb dX2_readDoor_10 (by decide) ?_
  refine lv_icmp_lt (tgt := 25) hx hb dX2_readDoor_12 (by decide) (fun c1 => ?_) (fun c1 => ?_)
  · have h := h.1 c1
    refine lv_aload_n hx hb dX2_readDoor_25 rfl (lv_at hl 0 rfl) ?_
    refine x_getr (ci := 2) C hw 0 (xoX_31 hX) rfl inlX2 (by decide) rfl rfl xrX_31_0 xw_123 dX2_readDoor_26 ?_
    refine x_callv hw (x_runV (ci := 8) C hw (m_X8_advance l C.2.2.2.2.2.2.2.2.1 (xpT_34 hX) h) (xoT_0 (xpT_34 hX)) rfl (x_gV xw_497 xw_469 xw_470 xw_122 xw_471) rfl rfl qX8_advance ⟨(Nat.le_of_ble_eq_true rfl), (Nat.le_of_ble_eq_true rfl)⟩ rfl hl.1 rfl (Nat.le_of_ble_eq_true rfl) dX2_readDoor_29) (fun u2 H locs hw h => ?_)
    refine lv_aload_n hx hb dX2_readDoor_32 rfl (lv_at hl 0 rfl) ?_
    refine x_getr (ci := 2) C hw 0 (xoX_31 hX) rfl inlX2 (by decide) rfl rfl xrX_31_0 xw_123 dX2_readDoor_33 ?_
    refine lv_aload_n hx hb dX2_readDoor_36 rfl (lv_at hl 0 rfl) ?_
    refine x_getr (ci := 2) C hw 1 (xoX_31 hX) rfl inlX2 (by decide) rfl rfl xrX_31_1 xw_125 dX2_readDoor_37 ?_
    refine x_calll hw (x_runV (ci := 8) C hw (m_X8_takeNewName l C.2.2.2.2.2.2.2.2.1 (xpT_34 hX) (xpL_164 hX) h) (xoT_0 (xpT_34 hX)) rfl (x_gV xw_498 xw_499 xw_500 xw_122 xw_501) rfl rfl qX8_takeNewName ⟨(Nat.le_of_ble_eq_true rfl), (Nat.le_of_ble_eq_true rfl)⟩ rfl hl.1 rfl (Nat.le_of_ble_eq_true rfl) dX2_readDoor_40) (fun r4 u3 H locs hw h => ?_)
    refine lv_lstore_n (lv' := [(1, .long r4), (0, .ref (xad g 31))]) hx hb dX2_readDoor_43 rfl hl (by decide) rfl (fun ls hl => ?_)
    refine lv_lload_n hx hb dX2_readDoor_44 rfl (lv_at hl 0 rfl) ?_
    refine lv_lconst (v := 0) hx hb dX2_readDoor_45 (by decide) ?_
    refine W.lcmp hx hb dX2_readDoor_46 ?_
    refine lv_if_eq (tgt := 62) hx hb dX2_readDoor_47 (by decide) (fun c5 => ?_) (fun c5 => ?_)
    · have h := h.1 c5
      refine lv_iconst (v := 0) hx hb dX2_readDoor_62 (by decide) ?_
      exact x_zret false C hw h rfl dX2_readDoor_63
    · have h := h.2 c5
      refine lv_aload_n hx hb dX2_readDoor_50 rfl (lv_at hl 1 rfl) ?_
      refine x_getr (ci := 2) C hw 0 (xoX_31 hX) rfl inlX2 (by decide) rfl rfl xrX_31_0 xw_123 dX2_readDoor_51 ?_
      refine lv_bipush (v := 6) hx hb dX2_readDoor_54 (by decide) ?_
      refine x_callz hw (x_runV (ci := 8) C hw (m_X8_takeWord l C.2.2.2.2.2.2.2.2.1 (xpT_34 hX) h) (xoT_0 (xpT_34 hX)) rfl (x_gV xw_519 xw_520 xw_521 xw_122 xw_522) rfl rfl qX8_takeWord ⟨(Nat.le_of_ble_eq_true rfl), (Nat.le_of_ble_eq_true rfl)⟩ rfl hl.1 rfl (Nat.le_of_ble_eq_true rfl) dX2_readDoor_56) (fun r7 u6 H locs hw h => ?_)
      refine lv_if_ne (tgt := 64) hx hb dX2_readDoor_59 (by decide) (fun c8 => ?_) (fun c8 => ?_)
      · have h := h.1 (xb_t c8)
        refine lv_aload_n hx hb dX2_readDoor_64 rfl (lv_at hl 1 rfl) ?_
        refine x_getr (ci := 2) C hw 0 (xoX_31 hX) rfl inlX2 (by decide) rfl rfl xrX_31_0 xw_123 dX2_readDoor_65 ?_
        refine lv_aload_n hx hb dX2_readDoor_68 rfl (lv_at hl 1 rfl) ?_
        refine x_getr (ci := 2) C hw 1 (xoX_31 hX) rfl inlX2 (by decide) rfl rfl xrX_31_1 xw_125 dX2_readDoor_69 ?_
        refine lv_iconst (v := -1) hx hb dX2_readDoor_72 (by decide) ?_
        refine x_calli hw (x_runV (ci := 8) C hw (m_X8_takeEnd l C.2.2.2.2.2.2.2.2.1 (xpT_34 hX) (xpL_164 hX) h) (xoT_0 (xpT_34 hX)) rfl (x_gV xw_546 xw_547 xw_548 xw_122 xw_549) rfl rfl qX8_takeEnd ⟨(Nat.le_of_ble_eq_true rfl), (Nat.le_of_ble_eq_true rfl)⟩ rfl hl.1 rfl (Nat.le_of_ble_eq_true rfl) dX2_readDoor_73) (fun r10 u9 H locs hw h => ?_)
        refine lv_istore_n (lv' := [(3, .int r10), (1, .long r4), (0, .ref (xad g 31))]) hx hb dX2_readDoor_76 rfl hl (by decide) rfl (fun ls hl => ?_)
        refine lv_iload_n hx hb dX2_readDoor_77 rfl (lv_at hl 0 rfl) ?_
        refine lv_iconst (v := -1) hx hb dX2_readDoor_78 (by decide) ?_
        refine lv_icmp_eq (tgt := 94) hx hb dX2_readDoor_79 (by decide) (fun c11 => ?_) (fun c11 => ?_)
        · have h := h.1 c11
          refine lv_iconst (v := 0) hx hb dX2_readDoor_94 (by decide) ?_
          exact x_zret false C hw h rfl dX2_readDoor_95
        · have h := h.2 c11
          refine lv_aload_n hx hb dX2_readDoor_82 rfl (lv_at hl 2 rfl) ?_
          refine x_getr (ci := 2) C hw 0 (xoX_31 hX) rfl inlX2 (by decide) rfl rfl xrX_31_0 xw_123 dX2_readDoor_83 ?_
          refine lv_bipush (v := 7) hx hb dX2_readDoor_86 (by decide) ?_
          refine x_callz hw (x_runV (ci := 8) C hw (m_X8_takeWord l C.2.2.2.2.2.2.2.2.1 (xpT_34 hX) h) (xoT_0 (xpT_34 hX)) rfl (x_gV xw_519 xw_520 xw_521 xw_122 xw_522) rfl rfl qX8_takeWord ⟨(Nat.le_of_ble_eq_true rfl), (Nat.le_of_ble_eq_true rfl)⟩ rfl hl.1 rfl (Nat.le_of_ble_eq_true rfl) dX2_readDoor_88) (fun r13 u12 H locs hw h => ?_)
          refine lv_if_ne (tgt := 96) hx hb dX2_readDoor_91 (by decide) (fun c14 => ?_) (fun c14 => ?_)
          · have h := h.1 (xb_t c14)
            refine lv_aload_n hx hb dX2_readDoor_96 rfl (lv_at hl 2 rfl) ?_
            refine x_getr (ci := 2) C hw 0 (xoX_31 hX) rfl inlX2 (by decide) rfl rfl xrX_31_0 xw_123 dX2_readDoor_97 ?_
            refine lv_aload_n hx hb dX2_readDoor_100 rfl (lv_at hl 2 rfl) ?_
            refine x_getr (ci := 2) C hw 1 (xoX_31 hX) rfl inlX2 (by decide) rfl rfl xrX_31_1 xw_125 dX2_readDoor_101 ?_
            refine lv_iload_n hx hb dX2_readDoor_104 rfl (lv_at hl 0 rfl) ?_
            refine x_calli hw (x_runV (ci := 8) C hw (m_X8_takeEnd l C.2.2.2.2.2.2.2.2.1 (xpT_34 hX) (xpL_164 hX) h) (xoT_0 (xpT_34 hX)) rfl (x_gV xw_546 xw_547 xw_548 xw_122 xw_549) rfl rfl qX8_takeEnd ⟨(Nat.le_of_ble_eq_true rfl), (Nat.le_of_ble_eq_true rfl)⟩ rfl hl.1 rfl (Nat.le_of_ble_eq_true rfl) dX2_readDoor_105) (fun r16 u15 H locs hw h => ?_)
            refine lv_istore (lv' := [(4, .int r16), (3, .int r10), (1, .long r4), (0, .ref (xad g 31))]) hx hb dX2_readDoor_108 hl (by decide) rfl (fun ls hl => ?_)
            refine lv_iload hx hb dX2_readDoor_110 (lv_at hl 0 rfl) ?_
            refine lv_iconst (v := -1) hx hb dX2_readDoor_112 (by decide) ?_
            refine lv_icmp_eq (tgt := 128) hx hb dX2_readDoor_113 (by decide) (fun c17 => ?_) (fun c17 => ?_)
            · have h := h.1 c17
              refine lv_iconst (v := 0) hx hb dX2_readDoor_128 (by decide) ?_
              exact x_zret false C hw h rfl dX2_readDoor_129
            · have h := h.2 c17
              refine lv_aload_n hx hb dX2_readDoor_116 rfl (lv_at hl 3 rfl) ?_
              refine x_getr (ci := 2) C hw 0 (xoX_31 hX) rfl inlX2 (by decide) rfl rfl xrX_31_0 xw_123 dX2_readDoor_117 ?_
              refine lv_bipush (v := 8) hx hb dX2_readDoor_120 (by decide) ?_
              refine x_callz hw (x_runV (ci := 8) C hw (m_X8_takeWord l C.2.2.2.2.2.2.2.2.1 (xpT_34 hX) h) (xoT_0 (xpT_34 hX)) rfl (x_gV xw_519 xw_520 xw_521 xw_122 xw_522) rfl rfl qX8_takeWord ⟨(Nat.le_of_ble_eq_true rfl), (Nat.le_of_ble_eq_true rfl)⟩ rfl hl.1 rfl (Nat.le_of_ble_eq_true rfl) dX2_readDoor_122) (fun r19 u18 H locs hw h => ?_)
              refine lv_if_ne (tgt := 130) hx hb dX2_readDoor_125 (by decide) (fun c20 => ?_) (fun c20 => ?_)
              · have h := h.1 (xb_t c20)
                refine lv_aload_n hx hb dX2_readDoor_130 rfl (lv_at hl 3 rfl) ?_
                refine x_getr (ci := 2) C hw 0 (xoX_31 hX) rfl inlX2 (by decide) rfl rfl xrX_31_0 xw_123 dX2_readDoor_131 ?_
                refine lv_iconst (v := 0) hx hb dX2_readDoor_134 (by decide) ?_
                refine lv_bipush (v := 99) hx hb dX2_readDoor_135 (by decide) ?_
                refine x_calli hw (x_runV (ci := 8) C hw (m_X8_takeNumber l C.2.2.2.2.2.2.2.2.1 (xpT_34 hX) h) (xoT_0 (xpT_34 hX)) rfl (x_gV xw_523 xw_524 xw_525 xw_122 xw_526) rfl rfl qX8_takeNumber ⟨(Nat.le_of_ble_eq_true rfl), (Nat.le_of_ble_eq_true rfl)⟩ rfl hl.1 rfl (Nat.le_of_ble_eq_true rfl) dX2_readDoor_137) (fun r22 u21 H locs hw h => ?_)
                refine lv_istore (lv' := [(5, .int r22), (4, .int r16), (3, .int r10), (1, .long r4), (0, .ref (xad g 31))]) hx hb dX2_readDoor_140 hl (by decide) rfl (fun ls hl => ?_)
                refine lv_iload hx hb dX2_readDoor_142 (lv_at hl 0 rfl) ?_
                refine lv_iconst (v := -1) hx hb dX2_readDoor_144 (by decide) ?_
                refine lv_icmp_ne (tgt := 150) hx hb dX2_readDoor_145 (by decide) (fun c23 => ?_) (fun c23 => ?_)
                · have h := h.1 c23
                  refine lv_aload_n hx hb dX2_readDoor_150 rfl (lv_at hl 4 rfl) ?_
                  refine x_getr (ci := 2) C hw 0 (xoX_31 hX) rfl inlX2 (by decide) rfl rfl xrX_31_0 xw_123 dX2_readDoor_151 ?_
                  refine lv_bipush (v := 9) hx hb dX2_readDoor_154 (by decide) ?_
                  refine lv_iconst (v := 1) hx hb dX2_readDoor_156 (by decide) ?_
                  refine lv_bipush (v := 9) hx hb dX2_readDoor_157 (by decide) ?_
                  refine lv_iconst (v := 1) hx hb dX2_readDoor_159 (by decide) ?_
                  refine x_calli hw (x_runV (ci := 8) C hw (m_X8_takeNumberBehind l C.2.2.2.2.2.2.2.2.1 (xpT_34 hX) h) (xoT_0 (xpT_34 hX)) rfl (x_gV xw_527 xw_528 xw_529 xw_122 xw_530) rfl rfl qX8_takeNumberBehind ⟨(Nat.le_of_ble_eq_true rfl), (Nat.le_of_ble_eq_true rfl)⟩ rfl hl.1 rfl (Nat.le_of_ble_eq_true rfl) dX2_readDoor_160) (fun r25 u24 H locs hw h => ?_)
                  refine lv_istore (lv' := [(6, .int r25), (5, .int r22), (4, .int r16), (3, .int r10), (1, .long r4), (0, .ref (xad g 31))]) hx hb dX2_readDoor_163 hl (by decide) rfl (fun ls hl => ?_)
                  refine lv_iload hx hb dX2_readDoor_165 (lv_at hl 0 rfl) ?_
                  refine lv_iconst (v := -1) hx hb dX2_readDoor_167 (by decide) ?_
                  refine lv_icmp_ne (tgt := 173) hx hb dX2_readDoor_168 (by decide) (fun c26 => ?_) (fun c26 => ?_)
                  · have h := h.1 c26
                    refine lv_aload_n hx hb dX2_readDoor_173 rfl (lv_at hl 5 rfl) ?_
                    refine x_getr (ci := 2) C hw 0 (xoX_31 hX) rfl inlX2 (by decide) rfl rfl xrX_31_0 xw_123 dX2_readDoor_174 ?_
                    refine lv_bipush (v := 10) hx hb dX2_readDoor_177 (by decide) ?_
                    refine lv_iconst (v := 0) hx hb dX2_readDoor_179 (by decide) ?_
                    refine lv_bipush (v := 9) hx hb dX2_readDoor_180 (by decide) ?_
                    refine lv_iconst (v := 0) hx hb dX2_readDoor_182 (by decide) ?_
                    refine x_calli hw (x_runV (ci := 8) C hw (m_X8_takeNumberBehind l C.2.2.2.2.2.2.2.2.1 (xpT_34 hX) h) (xoT_0 (xpT_34 hX)) rfl (x_gV xw_527 xw_528 xw_529 xw_122 xw_530) rfl rfl qX8_takeNumberBehind ⟨(Nat.le_of_ble_eq_true rfl), (Nat.le_of_ble_eq_true rfl)⟩ rfl hl.1 rfl (Nat.le_of_ble_eq_true rfl) dX2_readDoor_183) (fun r28 u27 H locs hw h => ?_)
                    refine lv_istore (lv' := [(7, .int r28), (6, .int r25), (5, .int r22), (4, .int r16), (3, .int r10), (1, .long r4), (0, .ref (xad g 31))]) hx hb dX2_readDoor_186 hl (by decide) rfl (fun ls hl => ?_)
                    refine lv_iload hx hb dX2_readDoor_188 (lv_at hl 0 rfl) ?_
                    refine lv_iconst (v := -1) hx hb dX2_readDoor_190 (by decide) ?_
                    refine lv_icmp_eq (tgt := 204) hx hb dX2_readDoor_191 (by decide) (fun c29 => ?_) (fun c29 => ?_)
                    · have h := h.1 c29
                      refine lv_iconst (v := 0) hx hb dX2_readDoor_204 (by decide) ?_
                      exact x_zret false C hw h rfl dX2_readDoor_205
                    · have h := h.2 c29
                      refine lv_aload_n hx hb dX2_readDoor_194 rfl (lv_at hl 6 rfl) ?_
                      refine x_getr (ci := 2) C hw 0 (xoX_31 hX) rfl inlX2 (by decide) rfl rfl xrX_31_0 xw_123 dX2_readDoor_195 ?_
                      refine x_callz hw (x_runV (ci := 8) C hw (m_X8_takeStop l C.2.2.2.2.2.2.2.2.1 (xpT_34 hX) h) (xoT_0 (xpT_34 hX)) rfl (x_gV xw_532 xw_533 xw_534 xw_122 xw_535) rfl rfl qX8_takeStop ⟨(Nat.le_of_ble_eq_true rfl), (Nat.le_of_ble_eq_true rfl)⟩ rfl hl.1 rfl (Nat.le_of_ble_eq_true rfl) dX2_readDoor_198) (fun r31 u30 H locs hw h => ?_)
                      refine lv_if_ne (tgt := 206) hx hb dX2_readDoor_201 (by decide) (fun c32 => ?_) (fun c32 => ?_)
                      · have h := h.1 (xb_t c32)
                        refine lv_aload_n hx hb dX2_readDoor_206 rfl (lv_at hl 6 rfl) ?_
                        refine x_getr (ci := 2) C hw 1 (xoX_31 hX) rfl inlX2 (by decide) rfl rfl xrX_31_1 xw_125 dX2_readDoor_207 ?_
                        refine x_getr (ci := 1) C hw 1 (xoL_0 (xpL_164 hX)) rfl inlX1 (by decide) rfl rfl (xrL_0_1 (xpL_164 hX)) xw_544 dX2_readDoor_210 ?_
                        refine lv_lload_n hx hb dX2_readDoor_213 rfl (lv_at hl 5 rfl) ?_
                        refine lv_iload_n hx hb dX2_readDoor_214 rfl (lv_at hl 4 rfl) ?_
                        refine lv_iload hx hb dX2_readDoor_215 (lv_at hl 3 rfl) ?_
                        refine lv_iload hx hb dX2_readDoor_217 (lv_at hl 2 rfl) ?_
                        refine lv_iload hx hb dX2_readDoor_219 (lv_at hl 1 rfl) ?_
                        refine lv_iload hx hb dX2_readDoor_221 (lv_at hl 0 rfl) ?_
                        refine x_callv hw (x_runV (ci := 0) C hw (m_X0_add l C.2.2.2.2.2.2.2.2.1 (xpL_164 hX) h) (xoL_9 (xpL_164 hX)) rfl (x_gV xw_552 xw_553 xw_554 xw_61 xw_555) rfl rfl qX0_add ⟨(Nat.le_of_ble_eq_true rfl), (Nat.le_of_ble_eq_true rfl)⟩ rfl hl.1 rfl (Nat.le_of_ble_eq_true rfl) dX2_readDoor_223) (fun u33 H locs hw h => ?_)
                        refine lv_iconst (v := 1) hx hb dX2_readDoor_226 (by decide) ?_
                        exact x_zret true C hw h rfl dX2_readDoor_227
                      · have h := h.2 (xb_f c32)
                        refine lv_iconst (v := 0) hx hb dX2_readDoor_204 (by decide) ?_
                        exact x_zret false C hw h rfl dX2_readDoor_205
                  · have h := h.2 c26
                    refine lv_iconst (v := 0) hx hb dX2_readDoor_171 (by decide) ?_
                    exact x_zret false C hw h rfl dX2_readDoor_172
                · have h := h.2 c23
                  refine lv_iconst (v := 0) hx hb dX2_readDoor_148 (by decide) ?_
                  exact x_zret false C hw h rfl dX2_readDoor_149
              · have h := h.2 (xb_f c20)
                refine lv_iconst (v := 0) hx hb dX2_readDoor_128 (by decide) ?_
                exact x_zret false C hw h rfl dX2_readDoor_129
          · have h := h.2 (xb_f c14)
            refine lv_iconst (v := 0) hx hb dX2_readDoor_94 (by decide) ?_
            exact x_zret false C hw h rfl dX2_readDoor_95
      · have h := h.2 (xb_f c8)
        refine lv_iconst (v := 0) hx hb dX2_readDoor_62 (by decide) ?_
        exact x_zret false C hw h rfl dX2_readDoor_63
  · have h := h.2 c1
    refine lv_aload_n hx hb dX2_readDoor_15 rfl (lv_at hl 0 rfl) ?_
    refine x_getr (ci := 2) C hw 0 (xoX_31 hX) rfl inlX2 (by decide) rfl rfl xrX_31_0 xw_123 dX2_readDoor_16 ?_
    refine lv_bipush (v := 6) hx hb dX2_readDoor_19 (by decide) ?_
    refine x_callz hw (x_runV (ci := 8) C hw (m_X8_wrong l C.2.2.2.2.2.2.2.2.1 (xpT_34 hX) h) (xoT_0 (xpT_34 hX)) rfl (x_gV xw_493 xw_494 xw_495 xw_122 xw_496) rfl rfl qX8_wrong ⟨(Nat.le_of_ble_eq_true rfl), (Nat.le_of_ble_eq_true rfl)⟩ rfl hl.1 rfl (Nat.le_of_ble_eq_true rfl) dX2_readDoor_21) (fun r35 u34 H locs hw h => ?_)
    exact x_zret _ C hw h rfl dX2_readDoor_24
set_option maxHeartbeats 4000000 in
set_option maxRecDepth 100000 in
theorem m_X2_readDoor (l : Launch) {g : xG} (hD : x_D g) (hX : xpX g) {u : xM} {Qf : Bool → xM → Prop} (h : p_X2_readDoor  u Qf) : Met l yX2_readDoor (Cond.code yX2_readDoor cX2_readDoor 8 (some .boolean) :: wsL_law) (x_rm 4 91) (va_Pc [.ref (xad g 31)] (x_B g u)) (x_Qz g Qf) 0 0 (x_A g) := by
  refine Met.ofW (cc := cX2_readDoor) (maxL := 8) (ret := (some .boolean)) (by decide) rfl ?_
  intro p e s m args below meth c s₁ B hml hv
  obtain ⟨rfl, hB⟩ := hv
  obtain ⟨C, hw⟩ := x_start B hml hD hB
  have hl := lv_entry [.ref (xad g 31)] (n := 8) (Nat.le_of_ble_eq_true rfl)
  rw [lg_entry_eq]
  exact s_X2_readDoor C hX hw hl h
set_option maxHeartbeats 4000000 in
set_option maxRecDepth 100000 in
theorem s_X2_readTide {Qf : Bool → xM → Prop} (C : x_C p s m args meth c g RX2 cX2_readTide 3 (some .boolean)) (hX : xpX g) {u : xM} {H : Heap} {locs : List Loc} {ls : Array Slot} (hw : x_W g s.heap H locs u) (hl : lv_has ls 3 [(0, .ref (xad g 31))]) (h : p_X2_readTide  u Qf) : W p l e (x_rm 2 44) s m args below meth c H locs 0 0 (MQ below (x_Qz g Qf) args s 0 0 (x_A g)) (F0 m 0 ls []) := by
  unfold p_X2_readTide at h
  have hx := C.1
  have hb := C.2.1
  refine lv_aload_n hx hb dX2_readTide_0 rfl (lv_at hl 0 rfl) ?_
  refine x_getr (ci := 2) C hw 0 (xoX_31 hX) rfl inlX2 (by decide) rfl rfl xrX_31_0 xw_123 dX2_readTide_1 ?_
  refine x_callv hw (x_runV (ci := 8) C hw (m_X8_advance l C.2.2.2.2.2.2.2.2.1 (xpT_34 hX) h) (xoT_0 (xpT_34 hX)) rfl (x_gV xw_497 xw_469 xw_470 xw_122 xw_471) rfl rfl qX8_advance ⟨(Nat.le_of_ble_eq_true rfl), (Nat.le_of_ble_eq_true rfl)⟩ rfl hl.1 rfl (Nat.le_of_ble_eq_true rfl) dX2_readTide_4) (fun u1 H locs hw h => ?_)
  refine lv_aload_n hx hb dX2_readTide_7 rfl (lv_at hl 0 rfl) ?_
  refine x_getr (ci := 2) C hw 0 (xoX_31 hX) rfl inlX2 (by decide) rfl rfl xrX_31_0 xw_123 dX2_readTide_8 ?_
  refine lv_iconst (v := 0) hx hb dX2_readTide_11 (by decide) ?_
  refine lv_bipush (v := 11) hx hb dX2_readTide_12 (by decide) ?_
  refine x_calli hw (x_runV (ci := 8) C hw (m_X8_takeNumber l C.2.2.2.2.2.2.2.2.1 (xpT_34 hX) h) (xoT_0 (xpT_34 hX)) rfl (x_gV xw_523 xw_524 xw_525 xw_122 xw_526) rfl rfl qX8_takeNumber ⟨(Nat.le_of_ble_eq_true rfl), (Nat.le_of_ble_eq_true rfl)⟩ rfl hl.1 rfl (Nat.le_of_ble_eq_true rfl) dX2_readTide_14) (fun r3 u2 H locs hw h => ?_)
  refine lv_istore_n (lv' := [(1, .int r3), (0, .ref (xad g 31))]) hx hb dX2_readTide_17 rfl hl (by decide) rfl (fun ls hl => ?_)
  refine lv_iload_n hx hb dX2_readTide_18 rfl (lv_at hl 0 rfl) ?_
  refine lv_iconst (v := -1) hx hb dX2_readTide_19 (by decide) ?_
  refine lv_icmp_ne (tgt := 25) hx hb dX2_readTide_20 (by decide) (fun c4 => ?_) (fun c4 => ?_)
  · have h := h.1 c4
    refine lv_aload_n hx hb dX2_readTide_25 rfl (lv_at hl 1 rfl) ?_
    refine x_getr (ci := 2) C hw 0 (xoX_31 hX) rfl inlX2 (by decide) rfl rfl xrX_31_0 xw_123 dX2_readTide_26 ?_
    refine lv_iconst (v := 0) hx hb dX2_readTide_29 (by decide) ?_
    refine lv_bipush (v := 99) hx hb dX2_readTide_30 (by decide) ?_
    refine x_calli hw (x_runV (ci := 8) C hw (m_X8_takeNumber l C.2.2.2.2.2.2.2.2.1 (xpT_34 hX) h) (xoT_0 (xpT_34 hX)) rfl (x_gV xw_523 xw_524 xw_525 xw_122 xw_526) rfl rfl qX8_takeNumber ⟨(Nat.le_of_ble_eq_true rfl), (Nat.le_of_ble_eq_true rfl)⟩ rfl hl.1 rfl (Nat.le_of_ble_eq_true rfl) dX2_readTide_32) (fun r6 u5 H locs hw h => ?_)
    refine lv_istore_n (lv' := [(2, .int r6), (1, .int r3), (0, .ref (xad g 31))]) hx hb dX2_readTide_35 rfl hl (by decide) rfl (fun ls hl => ?_)
    refine lv_iload_n hx hb dX2_readTide_36 rfl (lv_at hl 0 rfl) ?_
    refine lv_iconst (v := -1) hx hb dX2_readTide_37 (by decide) ?_
    refine lv_icmp_eq (tgt := 51) hx hb dX2_readTide_38 (by decide) (fun c7 => ?_) (fun c7 => ?_)
    · have h := h.1 c7
      refine lv_iconst (v := 0) hx hb dX2_readTide_51 (by decide) ?_
      exact x_zret false C hw h rfl dX2_readTide_52
    · have h := h.2 c7
      refine lv_aload_n hx hb dX2_readTide_41 rfl (lv_at hl 2 rfl) ?_
      refine x_getr (ci := 2) C hw 0 (xoX_31 hX) rfl inlX2 (by decide) rfl rfl xrX_31_0 xw_123 dX2_readTide_42 ?_
      refine x_callz hw (x_runV (ci := 8) C hw (m_X8_takeStop l C.2.2.2.2.2.2.2.2.1 (xpT_34 hX) h) (xoT_0 (xpT_34 hX)) rfl (x_gV xw_532 xw_533 xw_534 xw_122 xw_535) rfl rfl qX8_takeStop ⟨(Nat.le_of_ble_eq_true rfl), (Nat.le_of_ble_eq_true rfl)⟩ rfl hl.1 rfl (Nat.le_of_ble_eq_true rfl) dX2_readTide_45) (fun r9 u8 H locs hw h => ?_)
      refine lv_if_ne (tgt := 53) hx hb dX2_readTide_48 (by decide) (fun c10 => ?_) (fun c10 => ?_)
      · have h := h.1 (xb_t c10)
        refine lv_aload_n hx hb dX2_readTide_53 rfl (lv_at hl 2 rfl) ?_
        refine x_getr (ci := 2) C hw 1 (xoX_31 hX) rfl inlX2 (by decide) rfl rfl xrX_31_1 xw_125 dX2_readTide_54 ?_
        refine x_getr (ci := 1) C hw 7 (xoL_0 (xpL_164 hX)) rfl inlX1 (by decide) rfl rfl (xrL_0_7 (xpL_164 hX)) xw_560 dX2_readTide_57 ?_
        refine lv_iload_n hx hb dX2_readTide_60 rfl (lv_at hl 1 rfl) ?_
        refine lv_iload_n hx hb dX2_readTide_61 rfl (lv_at hl 0 rfl) ?_
        have c11 := h.1
        have h := h.2
        obtain ⟨u12, eu12⟩ : ∃ q : xM, q = si u8 185 r3.toNatClampNeg r6 := ⟨_, rfl⟩
        have h := h u12 eu12
        refine x_iast C hw (xoL_21 (xpL_164 hX)) c11 dX2_readTide_62 eu12 (fun H locs hw => ?_)
        refine lv_iconst (v := 1) hx hb dX2_readTide_63 (by decide) ?_
        exact x_zret true C hw h rfl dX2_readTide_64
      · have h := h.2 (xb_f c10)
        refine lv_iconst (v := 0) hx hb dX2_readTide_51 (by decide) ?_
        exact x_zret false C hw h rfl dX2_readTide_52
  · have h := h.2 c4
    refine lv_iconst (v := 0) hx hb dX2_readTide_23 (by decide) ?_
    exact x_zret false C hw h rfl dX2_readTide_24
set_option maxHeartbeats 4000000 in
set_option maxRecDepth 100000 in
theorem m_X2_readTide (l : Launch) {g : xG} (hD : x_D g) (hX : xpX g) {u : xM} {Qf : Bool → xM → Prop} (h : p_X2_readTide  u Qf) : Met l yX2_readTide (Cond.code yX2_readTide cX2_readTide 3 (some .boolean) :: wsL_law) (x_rm 2 44) (va_Pc [.ref (xad g 31)] (x_B g u)) (x_Qz g Qf) 0 0 (x_A g) := by
  refine Met.ofW (cc := cX2_readTide) (maxL := 3) (ret := (some .boolean)) (by decide) rfl ?_
  intro p e s m args below meth c s₁ B hml hv
  obtain ⟨rfl, hB⟩ := hv
  obtain ⟨C, hw⟩ := x_start B hml hD hB
  have hl := lv_entry [.ref (xad g 31)] (n := 3) (Nat.le_of_ble_eq_true rfl)
  rw [lg_entry_eq]
  exact s_X2_readTide C hX hw hl h
set_option maxHeartbeats 4000000 in
set_option maxRecDepth 100000 in
theorem s_X8_takeThing {o : Nat} {Qf : Int32 → xM → Prop} {a1 : Int32} (C : x_C p s m args meth c g RX8 cX8_takeThing 2 (some .int)) (ho : xpT g o) {u : xM} {H : Heap} {locs : List Loc} {ls : Array Slot} (hw : x_W g s.heap H locs u) (hl : lv_has ls 2 [(0, .ref (xad g o)), (1, .int a1)]) (h : p_X8_takeThing o a1 u Qf) : W p l e (x_rm 1 21) s m args below meth c H locs 0 0 (MQ below (x_Qi g Qf) args s 0 0 (x_A g)) (F0 m 0 ls []) := by
  unfold p_X8_takeThing at h
  have hx := C.1
  have hb := C.2.1
  refine lv_aload_n hx hb dX8_takeThing_0 rfl (lv_at hl 0 rfl) ?_
  refine x_callz hw (x_runV (ci := 8) C hw (m_X8_isName l C.2.2.2.2.2.2.2.2.1 ho h) (xoT_0 ho) rfl (x_gV xw_502 xw_503 xw_504 xw_122 xw_505) rfl rfl qX8_isName ⟨(Nat.le_of_ble_eq_true rfl), (Nat.le_of_ble_eq_true rfl)⟩ rfl hl.1 rfl (Nat.le_of_ble_eq_true rfl) dX8_takeThing_1) (fun r2 u1 H locs hw h => ?_)
  refine lv_if_ne (tgt := 15) hx hb dX8_takeThing_4 (by decide) (fun c3 => ?_) (fun c3 => ?_)
  · have h := h.1 (xb_t c3)
    refine lv_iload_n hx hb dX8_takeThing_15 rfl (lv_at hl 1 rfl) ?_
    refine lv_iconst (v := -1) hx hb dX8_takeThing_16 (by decide) ?_
    refine lv_icmp_ne (tgt := 28) hx hb dX8_takeThing_17 (by decide) (fun c4 => ?_) (fun c4 => ?_)
    · have h := h.1 c4
      refine lv_aload_n hx hb dX8_takeThing_28 rfl (lv_at hl 0 rfl) ?_
      refine x_callv hw (x_runV (ci := 8) C hw (m_X8_advance l C.2.2.2.2.2.2.2.2.1 ho h) (xoT_0 ho) rfl (x_gV xw_468 xw_469 xw_470 xw_122 xw_471) rfl rfl qX8_advance ⟨(Nat.le_of_ble_eq_true rfl), (Nat.le_of_ble_eq_true rfl)⟩ rfl hl.1 rfl (Nat.le_of_ble_eq_true rfl) dX8_takeThing_29) (fun u5 H locs hw h => ?_)
      refine lv_iload_n hx hb dX8_takeThing_32 rfl (lv_at hl 1 rfl) ?_
      exact x_iret C hw h dX8_takeThing_33
    · have h := h.2 c4
      refine lv_aload_n hx hb dX8_takeThing_20 rfl (lv_at hl 0 rfl) ?_
      refine lv_iconst (v := 3) hx hb dX8_takeThing_21 (by decide) ?_
      refine x_callz hw (x_runV (ci := 8) C hw (m_X8_wrong l C.2.2.2.2.2.2.2.2.1 ho h) (xoT_0 ho) rfl (x_gV xw_506 xw_494 xw_495 xw_122 xw_496) rfl rfl qX8_wrong ⟨(Nat.le_of_ble_eq_true rfl), (Nat.le_of_ble_eq_true rfl)⟩ rfl hl.1 rfl (Nat.le_of_ble_eq_true rfl) dX8_takeThing_22) (fun r7 u6 H locs hw h => ?_)
      refine lv_pop hx hb dX8_takeThing_25 rfl ?_
      refine lv_iconst (v := -1) hx hb dX8_takeThing_26 (by decide) ?_
      exact x_iret C hw h dX8_takeThing_27
  · have h := h.2 (xb_f c3)
    refine lv_aload_n hx hb dX8_takeThing_7 rfl (lv_at hl 0 rfl) ?_
    refine lv_iconst (v := 2) hx hb dX8_takeThing_8 (by decide) ?_
    refine x_callz hw (x_runV (ci := 8) C hw (m_X8_wrong l C.2.2.2.2.2.2.2.2.1 ho h) (xoT_0 ho) rfl (x_gV xw_506 xw_494 xw_495 xw_122 xw_496) rfl rfl qX8_wrong ⟨(Nat.le_of_ble_eq_true rfl), (Nat.le_of_ble_eq_true rfl)⟩ rfl hl.1 rfl (Nat.le_of_ble_eq_true rfl) dX8_takeThing_9) (fun r9 u8 H locs hw h => ?_)
    refine lv_pop hx hb dX8_takeThing_12 rfl ?_
    refine lv_iconst (v := -1) hx hb dX8_takeThing_13 (by decide) ?_
    exact x_iret C hw h dX8_takeThing_14
set_option maxHeartbeats 4000000 in
set_option maxRecDepth 100000 in
theorem m_X8_takeThing (l : Launch) {g : xG} (hD : x_D g) {o : Nat} (ho : xpT g o) {a1 : Int32} {u : xM} {Qf : Int32 → xM → Prop} (h : p_X8_takeThing o a1 u Qf) : Met l yX8_takeThing (Cond.code yX8_takeThing cX8_takeThing 2 (some .int) :: wsL_law) (x_rm 1 21) (va_Pc [.ref (xad g o), .int a1] (x_B g u)) (x_Qi g Qf) 0 0 (x_A g) := by
  refine Met.ofW (cc := cX8_takeThing) (maxL := 2) (ret := (some .int)) (by decide) rfl ?_
  intro p e s m args below meth c s₁ B hml hv
  obtain ⟨rfl, hB⟩ := hv
  obtain ⟨C, hw⟩ := x_start B hml hD hB
  have hl := lv_entry [.ref (xad g o), .int a1] (n := 2) (Nat.le_of_ble_eq_true rfl)
  rw [lg_entry_eq]
  exact s_X8_takeThing C ho hw hl h
set_option maxHeartbeats 4000000 in
set_option maxRecDepth 100000 in
theorem s_X8_takeRoom {o : Nat} {o1 : Nat} {Qf : Int32 → xM → Prop} (C : x_C p s m args meth c g RX8 cX8_takeRoom 2 (some .int)) (ho : xpT g o) (ho1 : xpL g o1) {u : xM} {H : Heap} {locs : List Loc} {ls : Array Slot} (hw : x_W g s.heap H locs u) (hl : lv_has ls 2 [(0, .ref (xad g o)), (1, .ref (xad g o1))]) (h : p_X8_takeRoom o o1 u Qf) : W p l e (x_rm 2 46) s m args below meth c H locs 0 0 (MQ below (x_Qi g Qf) args s 0 0 (x_A g)) (F0 m 0 ls []) := by
  unfold p_X8_takeRoom at h
  have hx := C.1
  have hb := C.2.1
  refine lv_aload_n hx hb dX8_takeRoom_0 rfl (lv_at hl 0 rfl) ?_
  refine lv_aload_n hx hb dX8_takeRoom_1 rfl (lv_at hl 1 rfl) ?_
  refine x_getr (ci := 1) C hw 0 (xoL_0 ho1) rfl inlX1 (by decide) rfl rfl (xrL_0_0 ho1) xw_550 dX8_takeRoom_2 ?_
  refine lv_aload_n hx hb dX8_takeRoom_5 rfl (lv_at hl 0 rfl) ?_
  refine x_getl (ci := 8) C hw 10 (xoT_0 ho) rfl inlX8 (by decide) rfl rfl xw_475 dX8_takeRoom_6 ?_
  refine x_calli hw (x_runV (ci := 7) C hw (m_X7_indexOf l C.2.2.2.2.2.2.2.2.1 ho1 h) (xoL_1 ho1) rfl (x_gV xw_551 xw_512 xw_513 xw_57 xw_514) rfl rfl qX7_indexOf ⟨(Nat.le_of_ble_eq_true rfl), (Nat.le_of_ble_eq_true rfl)⟩ rfl hl.1 rfl (Nat.le_of_ble_eq_true rfl) dX8_takeRoom_9) (fun r2 u1 H locs hw h => ?_)
  refine x_calli hw (x_runV (ci := 8) C hw (m_X8_takeThing l C.2.2.2.2.2.2.2.2.1 ho h) (xoT_0 ho) rfl (x_gV xw_570 xw_571 xw_572 xw_122 xw_573) rfl rfl qX8_takeThing ⟨(Nat.le_of_ble_eq_true rfl), (Nat.le_of_ble_eq_true rfl)⟩ rfl hl.1 rfl (Nat.le_of_ble_eq_true rfl) dX8_takeRoom_12) (fun r4 u3 H locs hw h => ?_)
  exact x_iret C hw h dX8_takeRoom_15
set_option maxHeartbeats 4000000 in
set_option maxRecDepth 100000 in
theorem m_X8_takeRoom (l : Launch) {g : xG} (hD : x_D g) {o : Nat} {o1 : Nat} (ho : xpT g o) (ho1 : xpL g o1) {u : xM} {Qf : Int32 → xM → Prop} (h : p_X8_takeRoom o o1 u Qf) : Met l yX8_takeRoom (Cond.code yX8_takeRoom cX8_takeRoom 2 (some .int) :: wsL_law) (x_rm 2 46) (va_Pc [.ref (xad g o), .ref (xad g o1)] (x_B g u)) (x_Qi g Qf) 0 0 (x_A g) := by
  refine Met.ofW (cc := cX8_takeRoom) (maxL := 2) (ret := (some .int)) (by decide) rfl ?_
  intro p e s m args below meth c s₁ B hml hv
  obtain ⟨rfl, hB⟩ := hv
  obtain ⟨C, hw⟩ := x_start B hml hD hB
  have hl := lv_entry [.ref (xad g o), .ref (xad g o1)] (n := 2) (Nat.le_of_ble_eq_true rfl)
  rw [lg_entry_eq]
  exact s_X8_takeRoom C ho ho1 hw hl h
set_option maxHeartbeats 4000000 in
set_option maxRecDepth 100000 in
theorem s_X2_readPump {Qf : Bool → xM → Prop} (C : x_C p s m args meth c g RX2 cX2_readPump 3 (some .boolean)) (hX : xpX g) {u : xM} {H : Heap} {locs : List Loc} {ls : Array Slot} (hw : x_W g s.heap H locs u) (hl : lv_has ls 3 [(0, .ref (xad g 31))]) (h : p_X2_readPump  u Qf) : W p l e (x_rm 3 67) s m args below meth c H locs 0 0 (MQ below (x_Qz g Qf) args s 0 0 (x_A g)) (F0 m 0 ls []) := by
  unfold p_X2_readPump at h
  have hx := C.1
  have hb := C.2.1
  refine lv_aload_n hx hb dX2_readPump_0 rfl (lv_at hl 0 rfl) ?_
  refine x_getr (ci := 2) C hw 0 (xoX_31 hX) rfl inlX2 (by decide) rfl rfl xrX_31_0 xw_123 dX2_readPump_1 ?_
  refine x_callv hw (x_runV (ci := 8) C hw (m_X8_advance l C.2.2.2.2.2.2.2.2.1 (xpT_34 hX) h) (xoT_0 (xpT_34 hX)) rfl (x_gV xw_497 xw_469 xw_470 xw_122 xw_471) rfl rfl qX8_advance ⟨(Nat.le_of_ble_eq_true rfl), (Nat.le_of_ble_eq_true rfl)⟩ rfl hl.1 rfl (Nat.le_of_ble_eq_true rfl) dX2_readPump_4) (fun u1 H locs hw h => ?_)
  refine lv_aload_n hx hb dX2_readPump_7 rfl (lv_at hl 0 rfl) ?_
  refine x_getr (ci := 2) C hw 0 (xoX_31 hX) rfl inlX2 (by decide) rfl rfl xrX_31_0 xw_123 dX2_readPump_8 ?_
  refine lv_aload_n hx hb dX2_readPump_11 rfl (lv_at hl 0 rfl) ?_
  refine x_getr (ci := 2) C hw 1 (xoX_31 hX) rfl inlX2 (by decide) rfl rfl xrX_31_1 xw_125 dX2_readPump_12 ?_
  refine x_calli hw (x_runV (ci := 8) C hw (m_X8_takeRoom l C.2.2.2.2.2.2.2.2.1 (xpT_34 hX) (xpL_164 hX) h) (xoT_0 (xpT_34 hX)) rfl (x_gV xw_566 xw_567 xw_568 xw_122 xw_569) rfl rfl qX8_takeRoom ⟨(Nat.le_of_ble_eq_true rfl), (Nat.le_of_ble_eq_true rfl)⟩ rfl hl.1 rfl (Nat.le_of_ble_eq_true rfl) dX2_readPump_15) (fun r3 u2 H locs hw h => ?_)
  refine lv_istore_n (lv' := [(1, .int r3), (0, .ref (xad g 31))]) hx hb dX2_readPump_18 rfl hl (by decide) rfl (fun ls hl => ?_)
  refine lv_iload_n hx hb dX2_readPump_19 rfl (lv_at hl 0 rfl) ?_
  refine lv_iconst (v := -1) hx hb dX2_readPump_20 (by decide) ?_
  refine lv_icmp_ne (tgt := 26) hx hb dX2_readPump_21 (by decide) (fun c4 => ?_) (fun c4 => ?_)
  · have h := h.1 c4
    refine lv_aload_n hx hb dX2_readPump_26 rfl (lv_at hl 1 rfl) ?_
    refine x_getr (ci := 2) C hw 0 (xoX_31 hX) rfl inlX2 (by decide) rfl rfl xrX_31_0 xw_123 dX2_readPump_27 ?_
    refine lv_iconst (v := 0) hx hb dX2_readPump_30 (by decide) ?_
    refine lv_bipush (v := 99) hx hb dX2_readPump_31 (by decide) ?_
    refine x_calli hw (x_runV (ci := 8) C hw (m_X8_takeNumber l C.2.2.2.2.2.2.2.2.1 (xpT_34 hX) h) (xoT_0 (xpT_34 hX)) rfl (x_gV xw_523 xw_524 xw_525 xw_122 xw_526) rfl rfl qX8_takeNumber ⟨(Nat.le_of_ble_eq_true rfl), (Nat.le_of_ble_eq_true rfl)⟩ rfl hl.1 rfl (Nat.le_of_ble_eq_true rfl) dX2_readPump_33) (fun r6 u5 H locs hw h => ?_)
    refine lv_istore_n (lv' := [(2, .int r6), (1, .int r3), (0, .ref (xad g 31))]) hx hb dX2_readPump_36 rfl hl (by decide) rfl (fun ls hl => ?_)
    refine lv_iload_n hx hb dX2_readPump_37 rfl (lv_at hl 0 rfl) ?_
    refine lv_iconst (v := -1) hx hb dX2_readPump_38 (by decide) ?_
    refine lv_icmp_eq (tgt := 52) hx hb dX2_readPump_39 (by decide) (fun c7 => ?_) (fun c7 => ?_)
    · have h := h.1 c7
      refine lv_iconst (v := 0) hx hb dX2_readPump_52 (by decide) ?_
      exact x_zret false C hw h rfl dX2_readPump_53
    · have h := h.2 c7
      refine lv_aload_n hx hb dX2_readPump_42 rfl (lv_at hl 2 rfl) ?_
      refine x_getr (ci := 2) C hw 0 (xoX_31 hX) rfl inlX2 (by decide) rfl rfl xrX_31_0 xw_123 dX2_readPump_43 ?_
      refine x_callz hw (x_runV (ci := 8) C hw (m_X8_takeStop l C.2.2.2.2.2.2.2.2.1 (xpT_34 hX) h) (xoT_0 (xpT_34 hX)) rfl (x_gV xw_532 xw_533 xw_534 xw_122 xw_535) rfl rfl qX8_takeStop ⟨(Nat.le_of_ble_eq_true rfl), (Nat.le_of_ble_eq_true rfl)⟩ rfl hl.1 rfl (Nat.le_of_ble_eq_true rfl) dX2_readPump_46) (fun r9 u8 H locs hw h => ?_)
      refine lv_if_ne (tgt := 54) hx hb dX2_readPump_49 (by decide) (fun c10 => ?_) (fun c10 => ?_)
      · have h := h.1 (xb_t c10)
        refine lv_aload_n hx hb dX2_readPump_54 rfl (lv_at hl 2 rfl) ?_
        refine x_getr (ci := 2) C hw 1 (xoX_31 hX) rfl inlX2 (by decide) rfl rfl xrX_31_1 xw_125 dX2_readPump_55 ?_
        refine x_getr (ci := 1) C hw 0 (xoL_0 (xpL_164 hX)) rfl inlX1 (by decide) rfl rfl (xrL_0_0 (xpL_164 hX)) xw_491 dX2_readPump_58 ?_
        refine x_getr (ci := 7) C hw 6 (xoL_1 (xpL_164 hX)) rfl inlX7 (by decide) rfl rfl (xrL_1_6 (xpL_164 hX)) xw_565 dX2_readPump_61 ?_
        refine lv_iload_n hx hb dX2_readPump_64 rfl (lv_at hl 1 rfl) ?_
        refine lv_iload_n hx hb dX2_readPump_65 rfl (lv_at hl 0 rfl) ?_
        have c11 := h.1
        have h := h.2
        obtain ⟨u12, eu12⟩ : ∃ q : xM, q = si u8 170 r3.toNatClampNeg r6 := ⟨_, rfl⟩
        have h := h u12 eu12
        refine x_iast C hw (xoL_6 (xpL_164 hX)) c11 dX2_readPump_66 eu12 (fun H locs hw => ?_)
        refine lv_iconst (v := 1) hx hb dX2_readPump_67 (by decide) ?_
        exact x_zret true C hw h rfl dX2_readPump_68
      · have h := h.2 (xb_f c10)
        refine lv_iconst (v := 0) hx hb dX2_readPump_52 (by decide) ?_
        exact x_zret false C hw h rfl dX2_readPump_53
  · have h := h.2 c4
    refine lv_iconst (v := 0) hx hb dX2_readPump_24 (by decide) ?_
    exact x_zret false C hw h rfl dX2_readPump_25
set_option maxHeartbeats 4000000 in
set_option maxRecDepth 100000 in
theorem m_X2_readPump (l : Launch) {g : xG} (hD : x_D g) (hX : xpX g) {u : xM} {Qf : Bool → xM → Prop} (h : p_X2_readPump  u Qf) : Met l yX2_readPump (Cond.code yX2_readPump cX2_readPump 3 (some .boolean) :: wsL_law) (x_rm 3 67) (va_Pc [.ref (xad g 31)] (x_B g u)) (x_Qz g Qf) 0 0 (x_A g) := by
  refine Met.ofW (cc := cX2_readPump) (maxL := 3) (ret := (some .boolean)) (by decide) rfl ?_
  intro p e s m args below meth c s₁ B hml hv
  obtain ⟨rfl, hB⟩ := hv
  obtain ⟨C, hw⟩ := x_start B hml hD hB
  have hl := lv_entry [.ref (xad g 31)] (n := 3) (Nat.le_of_ble_eq_true rfl)
  rw [lg_entry_eq]
  exact s_X2_readPump C hX hw hl h
set_option maxHeartbeats 4000000 in
set_option maxRecDepth 100000 in
theorem s_X8_takeDoor {o : Nat} {o1 : Nat} {Qf : Int32 → xM → Prop} (C : x_C p s m args meth c g RX8 cX8_takeDoor 2 (some .int)) (ho : xpT g o) (ho1 : xpL g o1) {u : xM} {H : Heap} {locs : List Loc} {ls : Array Slot} (hw : x_W g s.heap H locs u) (hl : lv_has ls 2 [(0, .ref (xad g o)), (1, .ref (xad g o1))]) (h : p_X8_takeDoor o o1 u Qf) : W p l e (x_rm 2 46) s m args below meth c H locs 0 0 (MQ below (x_Qi g Qf) args s 0 0 (x_A g)) (F0 m 0 ls []) := by
  unfold p_X8_takeDoor at h
  have hx := C.1
  have hb := C.2.1
  refine lv_aload_n hx hb dX8_takeDoor_0 rfl (lv_at hl 0 rfl) ?_
  refine lv_aload_n hx hb dX8_takeDoor_1 rfl (lv_at hl 1 rfl) ?_
  refine x_getr (ci := 1) C hw 1 (xoL_0 ho1) rfl inlX1 (by decide) rfl rfl (xrL_0_1 ho1) xw_583 dX8_takeDoor_2 ?_
  refine lv_aload_n hx hb dX8_takeDoor_5 rfl (lv_at hl 0 rfl) ?_
  refine x_getl (ci := 8) C hw 10 (xoT_0 ho) rfl inlX8 (by decide) rfl rfl xw_475 dX8_takeDoor_6 ?_
  refine x_calli hw (x_runV (ci := 0) C hw (m_X0_indexOf l C.2.2.2.2.2.2.2.2.1 ho1 h) (xoL_9 ho1) rfl (x_gV xw_584 xw_516 xw_517 xw_61 xw_518) rfl rfl qX0_indexOf ⟨(Nat.le_of_ble_eq_true rfl), (Nat.le_of_ble_eq_true rfl)⟩ rfl hl.1 rfl (Nat.le_of_ble_eq_true rfl) dX8_takeDoor_9) (fun r2 u1 H locs hw h => ?_)
  refine x_calli hw (x_runV (ci := 8) C hw (m_X8_takeThing l C.2.2.2.2.2.2.2.2.1 ho h) (xoT_0 ho) rfl (x_gV xw_570 xw_571 xw_572 xw_122 xw_573) rfl rfl qX8_takeThing ⟨(Nat.le_of_ble_eq_true rfl), (Nat.le_of_ble_eq_true rfl)⟩ rfl hl.1 rfl (Nat.le_of_ble_eq_true rfl) dX8_takeDoor_12) (fun r4 u3 H locs hw h => ?_)
  exact x_iret C hw h dX8_takeDoor_15
set_option maxHeartbeats 4000000 in
set_option maxRecDepth 100000 in
theorem m_X8_takeDoor (l : Launch) {g : xG} (hD : x_D g) {o : Nat} {o1 : Nat} (ho : xpT g o) (ho1 : xpL g o1) {u : xM} {Qf : Int32 → xM → Prop} (h : p_X8_takeDoor o o1 u Qf) : Met l yX8_takeDoor (Cond.code yX8_takeDoor cX8_takeDoor 2 (some .int) :: wsL_law) (x_rm 2 46) (va_Pc [.ref (xad g o), .ref (xad g o1)] (x_B g u)) (x_Qi g Qf) 0 0 (x_A g) := by
  refine Met.ofW (cc := cX8_takeDoor) (maxL := 2) (ret := (some .int)) (by decide) rfl ?_
  intro p e s m args below meth c s₁ B hml hv
  obtain ⟨rfl, hB⟩ := hv
  obtain ⟨C, hw⟩ := x_start B hml hD hB
  have hl := lv_entry [.ref (xad g o), .ref (xad g o1)] (n := 2) (Nat.le_of_ble_eq_true rfl)
  rw [lg_entry_eq]
  exact s_X8_takeDoor C ho ho1 hw hl h
set_option maxHeartbeats 4000000 in
set_option maxRecDepth 100000 in
theorem s_X2_readRota {Qf : Bool → xM → Prop} (C : x_C p s m args meth c g RX2 cX2_readRota 3 (some .boolean)) (hX : xpX g) {u : xM} {H : Heap} {locs : List Loc} {ls : Array Slot} (hw : x_W g s.heap H locs u) (hl : lv_has ls 3 [(0, .ref (xad g 31))]) (h : p_X2_readRota  u Qf) : W p l e (x_rm 3 67) s m args below meth c H locs 0 0 (MQ below (x_Qz g Qf) args s 0 0 (x_A g)) (F0 m 0 ls []) := by
  unfold p_X2_readRota at h
  have hx := C.1
  have hb := C.2.1
  refine lv_aload_n hx hb dX2_readRota_0 rfl (lv_at hl 0 rfl) ?_
  refine x_getr (ci := 2) C hw 0 (xoX_31 hX) rfl inlX2 (by decide) rfl rfl xrX_31_0 xw_123 dX2_readRota_1 ?_
  refine x_callv hw (x_runV (ci := 8) C hw (m_X8_advance l C.2.2.2.2.2.2.2.2.1 (xpT_34 hX) h) (xoT_0 (xpT_34 hX)) rfl (x_gV xw_497 xw_469 xw_470 xw_122 xw_471) rfl rfl qX8_advance ⟨(Nat.le_of_ble_eq_true rfl), (Nat.le_of_ble_eq_true rfl)⟩ rfl hl.1 rfl (Nat.le_of_ble_eq_true rfl) dX2_readRota_4) (fun u1 H locs hw h => ?_)
  refine lv_aload_n hx hb dX2_readRota_7 rfl (lv_at hl 0 rfl) ?_
  refine x_getr (ci := 2) C hw 0 (xoX_31 hX) rfl inlX2 (by decide) rfl rfl xrX_31_0 xw_123 dX2_readRota_8 ?_
  refine lv_iconst (v := 0) hx hb dX2_readRota_11 (by decide) ?_
  refine lv_bipush (v := 11) hx hb dX2_readRota_12 (by decide) ?_
  refine x_calli hw (x_runV (ci := 8) C hw (m_X8_takeNumber l C.2.2.2.2.2.2.2.2.1 (xpT_34 hX) h) (xoT_0 (xpT_34 hX)) rfl (x_gV xw_523 xw_524 xw_525 xw_122 xw_526) rfl rfl qX8_takeNumber ⟨(Nat.le_of_ble_eq_true rfl), (Nat.le_of_ble_eq_true rfl)⟩ rfl hl.1 rfl (Nat.le_of_ble_eq_true rfl) dX2_readRota_14) (fun r3 u2 H locs hw h => ?_)
  refine lv_istore_n (lv' := [(1, .int r3), (0, .ref (xad g 31))]) hx hb dX2_readRota_17 rfl hl (by decide) rfl (fun ls hl => ?_)
  refine lv_iload_n hx hb dX2_readRota_18 rfl (lv_at hl 0 rfl) ?_
  refine lv_iconst (v := -1) hx hb dX2_readRota_19 (by decide) ?_
  refine lv_icmp_ne (tgt := 25) hx hb dX2_readRota_20 (by decide) (fun c4 => ?_) (fun c4 => ?_)
  · have h := h.1 c4
    refine lv_aload_n hx hb dX2_readRota_25 rfl (lv_at hl 1 rfl) ?_
    refine x_getr (ci := 2) C hw 0 (xoX_31 hX) rfl inlX2 (by decide) rfl rfl xrX_31_0 xw_123 dX2_readRota_26 ?_
    refine lv_aload_n hx hb dX2_readRota_29 rfl (lv_at hl 1 rfl) ?_
    refine x_getr (ci := 2) C hw 1 (xoX_31 hX) rfl inlX2 (by decide) rfl rfl xrX_31_1 xw_125 dX2_readRota_30 ?_
    refine x_calli hw (x_runV (ci := 8) C hw (m_X8_takeDoor l C.2.2.2.2.2.2.2.2.1 (xpT_34 hX) (xpL_164 hX) h) (xoT_0 (xpT_34 hX)) rfl (x_gV xw_579 xw_580 xw_581 xw_122 xw_582) rfl rfl qX8_takeDoor ⟨(Nat.le_of_ble_eq_true rfl), (Nat.le_of_ble_eq_true rfl)⟩ rfl hl.1 rfl (Nat.le_of_ble_eq_true rfl) dX2_readRota_33) (fun r6 u5 H locs hw h => ?_)
    refine lv_istore_n (lv' := [(2, .int r6), (1, .int r3), (0, .ref (xad g 31))]) hx hb dX2_readRota_36 rfl hl (by decide) rfl (fun ls hl => ?_)
    refine lv_iload_n hx hb dX2_readRota_37 rfl (lv_at hl 0 rfl) ?_
    refine lv_iconst (v := -1) hx hb dX2_readRota_38 (by decide) ?_
    refine lv_icmp_eq (tgt := 52) hx hb dX2_readRota_39 (by decide) (fun c7 => ?_) (fun c7 => ?_)
    · have h := h.1 c7
      refine lv_iconst (v := 0) hx hb dX2_readRota_52 (by decide) ?_
      exact x_zret false C hw h rfl dX2_readRota_53
    · have h := h.2 c7
      refine lv_aload_n hx hb dX2_readRota_42 rfl (lv_at hl 2 rfl) ?_
      refine x_getr (ci := 2) C hw 0 (xoX_31 hX) rfl inlX2 (by decide) rfl rfl xrX_31_0 xw_123 dX2_readRota_43 ?_
      refine x_callz hw (x_runV (ci := 8) C hw (m_X8_takeStop l C.2.2.2.2.2.2.2.2.1 (xpT_34 hX) h) (xoT_0 (xpT_34 hX)) rfl (x_gV xw_532 xw_533 xw_534 xw_122 xw_535) rfl rfl qX8_takeStop ⟨(Nat.le_of_ble_eq_true rfl), (Nat.le_of_ble_eq_true rfl)⟩ rfl hl.1 rfl (Nat.le_of_ble_eq_true rfl) dX2_readRota_46) (fun r9 u8 H locs hw h => ?_)
      refine lv_if_ne (tgt := 54) hx hb dX2_readRota_49 (by decide) (fun c10 => ?_) (fun c10 => ?_)
      · have h := h.1 (xb_t c10)
        refine lv_aload_n hx hb dX2_readRota_54 rfl (lv_at hl 2 rfl) ?_
        refine x_getr (ci := 2) C hw 1 (xoX_31 hX) rfl inlX2 (by decide) rfl rfl xrX_31_1 xw_125 dX2_readRota_55 ?_
        refine x_getr (ci := 1) C hw 1 (xoL_0 (xpL_164 hX)) rfl inlX1 (by decide) rfl rfl (xrL_0_1 (xpL_164 hX)) xw_544 dX2_readRota_58 ?_
        refine x_getr (ci := 0) C hw 9 (xoL_9 (xpL_164 hX)) rfl inlX0 (by decide) rfl rfl (xrL_9_9 (xpL_164 hX)) xw_578 dX2_readRota_61 ?_
        refine lv_iload_n hx hb dX2_readRota_64 rfl (lv_at hl 1 rfl) ?_
        refine lv_dup2_11 hx hb dX2_readRota_65 rfl rfl ?_
        have c11 := h.1
        have h := h.2
        refine x_iald C hw (xoL_16 (xpL_164 hX)) c11 dX2_readRota_66 ?_
        refine lv_iconst (v := 1) hx hb dX2_readRota_67 (by decide) ?_
        refine lv_iload_n hx hb dX2_readRota_68 rfl (lv_at hl 0 rfl) ?_
        refine lv_ishl hx hb dX2_readRota_69 ?_
        refine lv_ior hx hb dX2_readRota_70 ?_
        have c12 := h.1
        have h := h.2
        obtain ⟨u13, eu13⟩ : ∃ q : xM, q = si u8 180 r3.toNatClampNeg ((gi u8 180 r3.toNatClampNeg) ||| ((1 : Int32) <<< (r6 &&& 31))) := ⟨_, rfl⟩
        have h := h u13 eu13
        refine x_iast C hw (xoL_16 (xpL_164 hX)) c12 dX2_readRota_71 eu13 (fun H locs hw => ?_)
        refine lv_iconst (v := 1) hx hb dX2_readRota_72 (by decide) ?_
        exact x_zret true C hw h rfl dX2_readRota_73
      · have h := h.2 (xb_f c10)
        refine lv_iconst (v := 0) hx hb dX2_readRota_52 (by decide) ?_
        exact x_zret false C hw h rfl dX2_readRota_53
  · have h := h.2 c4
    refine lv_iconst (v := 0) hx hb dX2_readRota_23 (by decide) ?_
    exact x_zret false C hw h rfl dX2_readRota_24
set_option maxHeartbeats 4000000 in
set_option maxRecDepth 100000 in
theorem m_X2_readRota (l : Launch) {g : xG} (hD : x_D g) (hX : xpX g) {u : xM} {Qf : Bool → xM → Prop} (h : p_X2_readRota  u Qf) : Met l yX2_readRota (Cond.code yX2_readRota cX2_readRota 3 (some .boolean) :: wsL_law) (x_rm 3 67) (va_Pc [.ref (xad g 31)] (x_B g u)) (x_Qz g Qf) 0 0 (x_A g) := by
  refine Met.ofW (cc := cX2_readRota) (maxL := 3) (ret := (some .boolean)) (by decide) rfl ?_
  intro p e s m args below meth c s₁ B hml hv
  obtain ⟨rfl, hB⟩ := hv
  obtain ⟨C, hw⟩ := x_start B hml hD hB
  have hl := lv_entry [.ref (xad g 31)] (n := 3) (Nat.le_of_ble_eq_true rfl)
  rw [lg_entry_eq]
  exact s_X2_readRota C hX hw hl h
set_option maxHeartbeats 4000000 in
set_option maxRecDepth 100000 in
theorem s_X1_addErrand {o : Nat} {Qf : xM → Prop} {a1 : Int64} {a2 : Int32} {a3 : Int32} {a4 : Int32} (C : x_C p s m args meth c g RX1 cX1_addErrand 6 none) (ho : xpL g o) {u : xM} {H : Heap} {locs : List Loc} {ls : Array Slot} (hw : x_W g s.heap H locs u) (hl : lv_has ls 6 [(0, .ref (xad g o)), (1, .long a1), (3, .int a2), (4, .int a3), (5, .int a4)]) (h : p_X1_addErrand o a1 a2 a3 a4 u Qf) : W p l e (x_rm 0 0) s m args below meth c H locs 0 0 (MQ below (x_Qv g Qf) args s 0 0 (x_A g)) (F0 m 0 ls []) := by
  unfold p_X1_addErrand at h
  have hx := C.1
  have hb := C.2.1
  refine lv_aload_n hx hb dX1_addErrand_0 rfl (lv_at hl 0 rfl) ?_
  refine x_geti (ci := 1) C hw 2 (xoL_0 ho) rfl inlX1 (by decide) rfl rfl xw_408 dX1_addErrand_1 ?_
  refine lv_iconst (v := 4) hx hb dX1_addErrand_4 (by decide) ?_
  refine lv_icmp_lt (tgt := 9) hx hb dX1_addErrand_5 (by decide) (fun c1 => ?_) (fun c1 => ?_)
  · have h := h.1 c1
    refine lv_aload_n hx hb dX1_addErrand_9 rfl (lv_at hl 0 rfl) ?_
    refine x_getr (ci := 1) C hw 3 (xoL_0 ho) rfl inlX1 (by decide) rfl rfl (xrL_0_3 ho) xw_64 dX1_addErrand_10 ?_
    refine lv_aload_n hx hb dX1_addErrand_13 rfl (lv_at hl 0 rfl) ?_
    refine x_geti (ci := 1) C hw 2 (xoL_0 ho) rfl inlX1 (by decide) rfl rfl xw_408 dX1_addErrand_14 ?_
    refine lv_lload_n hx hb dX1_addErrand_17 rfl (lv_at hl 1 rfl) ?_
    have c2 := h.1
    have h := h.2
    obtain ⟨u3, eu3⟩ : ∃ q : xM, q = sl u (o + 17) (gi u o 2).toNatClampNeg a1 := ⟨_, rfl⟩
    have h := h u3 eu3
    refine x_last C hw (xoL_17 ho) c2 dX1_addErrand_18 eu3 (fun H locs hw => ?_)
    refine lv_aload_n hx hb dX1_addErrand_19 rfl (lv_at hl 0 rfl) ?_
    refine x_getr (ci := 1) C hw 4 (xoL_0 ho) rfl inlX1 (by decide) rfl rfl (xrL_0_4 ho) xw_66 dX1_addErrand_20 ?_
    refine lv_aload_n hx hb dX1_addErrand_23 rfl (lv_at hl 0 rfl) ?_
    refine x_geti (ci := 1) C hw 2 (xoL_0 ho) rfl inlX1 (by decide) rfl rfl xw_408 dX1_addErrand_24 ?_
    refine lv_iload_n hx hb dX1_addErrand_27 rfl (lv_at hl 2 rfl) ?_
    have c4 := h.1
    have h := h.2
    obtain ⟨u5, eu5⟩ : ∃ q : xM, q = si u3 (o + 18) (gi u3 o 2).toNatClampNeg a2 := ⟨_, rfl⟩
    have h := h u5 eu5
    refine x_iast C hw (xoL_18 ho) c4 dX1_addErrand_28 eu5 (fun H locs hw => ?_)
    refine lv_aload_n hx hb dX1_addErrand_29 rfl (lv_at hl 0 rfl) ?_
    refine x_getr (ci := 1) C hw 5 (xoL_0 ho) rfl inlX1 (by decide) rfl rfl (xrL_0_5 ho) xw_67 dX1_addErrand_30 ?_
    refine lv_aload_n hx hb dX1_addErrand_33 rfl (lv_at hl 0 rfl) ?_
    refine x_geti (ci := 1) C hw 2 (xoL_0 ho) rfl inlX1 (by decide) rfl rfl xw_408 dX1_addErrand_34 ?_
    refine lv_iload hx hb dX1_addErrand_37 (lv_at hl 3 rfl) ?_
    have c6 := h.1
    have h := h.2
    obtain ⟨u7, eu7⟩ : ∃ q : xM, q = si u5 (o + 19) (gi u5 o 2).toNatClampNeg a3 := ⟨_, rfl⟩
    have h := h u7 eu7
    refine x_iast C hw (xoL_19 ho) c6 dX1_addErrand_39 eu7 (fun H locs hw => ?_)
    refine lv_aload_n hx hb dX1_addErrand_40 rfl (lv_at hl 0 rfl) ?_
    refine x_getr (ci := 1) C hw 6 (xoL_0 ho) rfl inlX1 (by decide) rfl rfl (xrL_0_6 ho) xw_68 dX1_addErrand_41 ?_
    refine lv_aload_n hx hb dX1_addErrand_44 rfl (lv_at hl 0 rfl) ?_
    refine x_geti (ci := 1) C hw 2 (xoL_0 ho) rfl inlX1 (by decide) rfl rfl xw_408 dX1_addErrand_45 ?_
    refine lv_iload hx hb dX1_addErrand_48 (lv_at hl 4 rfl) ?_
    have c8 := h.1
    have h := h.2
    obtain ⟨u9, eu9⟩ : ∃ q : xM, q = si u7 (o + 20) (gi u7 o 2).toNatClampNeg a4 := ⟨_, rfl⟩
    have h := h u9 eu9
    refine x_iast C hw (xoL_20 ho) c8 dX1_addErrand_50 eu9 (fun H locs hw => ?_)
    refine lv_aload_n hx hb dX1_addErrand_51 rfl (lv_at hl 0 rfl) ?_
    refine lv_dup hx hb dX1_addErrand_52 rfl ?_
    refine x_geti (ci := 1) C hw 2 (xoL_0 ho) rfl inlX1 (by decide) rfl rfl xw_408 dX1_addErrand_53 ?_
    refine lv_iconst (v := 1) hx hb dX1_addErrand_56 (by decide) ?_
    refine lv_iadd hx hb dX1_addErrand_57 ?_
    obtain ⟨u10, eu10⟩ : ∃ q : xM, q = si u9 o 2 ((gi u9 o 2) + (1 : Int32)) := ⟨_, rfl⟩
    have h := h u10 eu10
    refine x_puti (ci := 1) (ty := .int) C hw 2 (xoL_0 ho) rfl inlX1 tyX1_ok nmX1 (by decide) rfl rfl xw_408 rfl (by decide +kernel) rfl rfl dX1_addErrand_58 eu10 (fun H locs hw => ?_)
    exact x_vret C hw h dX1_addErrand_61
  · have h := h.2 c1
    exact x_vret C hw h dX1_addErrand_8
set_option maxHeartbeats 4000000 in
set_option maxRecDepth 100000 in
theorem m_X1_addErrand (l : Launch) {g : xG} (hD : x_D g) {o : Nat} (ho : xpL g o) {a1 : Int64} {a2 : Int32} {a3 : Int32} {a4 : Int32} {u : xM} {Qf : xM → Prop} (h : p_X1_addErrand o a1 a2 a3 a4 u Qf) : Met l yX1_addErrand (Cond.code yX1_addErrand cX1_addErrand 6 none :: wsL_law) (x_rm 0 0) (va_Pc [.ref (xad g o), .long a1, .int a2, .int a3, .int a4] (x_B g u)) (x_Qv g Qf) 0 0 (x_A g) := by
  refine Met.ofW (cc := cX1_addErrand) (maxL := 6) (ret := none) (by decide) rfl ?_
  intro p e s m args below meth c s₁ B hml hv
  obtain ⟨rfl, hB⟩ := hv
  obtain ⟨C, hw⟩ := x_start B hml hD hB
  have hl := lv_entry [.ref (xad g o), .long a1, .int a2, .int a3, .int a4] (n := 6) (Nat.le_of_ble_eq_true rfl)
  rw [lg_entry_eq]
  exact s_X1_addErrand C ho hw hl h
set_option maxHeartbeats 4000000 in
set_option maxRecDepth 100000 in
theorem s_X2_readErrand {Qf : Bool → xM → Prop} (C : x_C p s m args meth c g RX2 cX2_readErrand 6 (some .boolean)) (hX : xpX g) {u : xM} {H : Heap} {locs : List Loc} {ls : Array Slot} (hw : x_W g s.heap H locs u) (hl : lv_has ls 6 [(0, .ref (xad g 31))]) (h : p_X2_readErrand  u Qf) : W p l e (x_rm 4 91) s m args below meth c H locs 0 0 (MQ below (x_Qz g Qf) args s 0 0 (x_A g)) (F0 m 0 ls []) := by
  unfold p_X2_readErrand at h
  have hx := C.1
  have hb := C.2.1
  refine lv_aload_n hx hb dX2_readErrand_0 rfl (lv_at hl 0 rfl) ?_
  refine x_getr (ci := 2) C hw 1 (xoX_31 hX) rfl inlX2 (by decide) rfl rfl xrX_31_1 xw_125 dX2_readErrand_1 ?_
  refine x_geti (ci := 1) C hw 2 (xoL_0 (xpL_164 hX)) rfl inlX1 (by decide) rfl rfl xw_589 dX2_readErrand_4 ?_
  refine lv_iconst (v := 4) hx hb dX2_readErrand_7 (by decide) ?_
  refine lv_icmp_lt (tgt := 21) hx hb dX2_readErrand_8 (by decide) (fun c1 => ?_) (fun c1 => ?_)
  · have h := h.1 c1
    refine lv_aload_n hx hb dX2_readErrand_21 rfl (lv_at hl 0 rfl) ?_
    refine x_getr (ci := 2) C hw 0 (xoX_31 hX) rfl inlX2 (by decide) rfl rfl xrX_31_0 xw_123 dX2_readErrand_22 ?_
    refine x_callv hw (x_runV (ci := 8) C hw (m_X8_advance l C.2.2.2.2.2.2.2.2.1 (xpT_34 hX) h) (xoT_0 (xpT_34 hX)) rfl (x_gV xw_497 xw_469 xw_470 xw_122 xw_471) rfl rfl qX8_advance ⟨(Nat.le_of_ble_eq_true rfl), (Nat.le_of_ble_eq_true rfl)⟩ rfl hl.1 rfl (Nat.le_of_ble_eq_true rfl) dX2_readErrand_25) (fun u2 H locs hw h => ?_)
    refine lv_aload_n hx hb dX2_readErrand_28 rfl (lv_at hl 0 rfl) ?_
    refine x_getr (ci := 2) C hw 0 (xoX_31 hX) rfl inlX2 (by decide) rfl rfl xrX_31_0 xw_123 dX2_readErrand_29 ?_
    refine lv_aload_n hx hb dX2_readErrand_32 rfl (lv_at hl 0 rfl) ?_
    refine x_getr (ci := 2) C hw 1 (xoX_31 hX) rfl inlX2 (by decide) rfl rfl xrX_31_1 xw_125 dX2_readErrand_33 ?_
    refine x_calll hw (x_runV (ci := 8) C hw (m_X8_takeNewName l C.2.2.2.2.2.2.2.2.1 (xpT_34 hX) (xpL_164 hX) h) (xoT_0 (xpT_34 hX)) rfl (x_gV xw_498 xw_499 xw_500 xw_122 xw_501) rfl rfl qX8_takeNewName ⟨(Nat.le_of_ble_eq_true rfl), (Nat.le_of_ble_eq_true rfl)⟩ rfl hl.1 rfl (Nat.le_of_ble_eq_true rfl) dX2_readErrand_36) (fun r4 u3 H locs hw h => ?_)
    refine lv_lstore_n (lv' := [(1, .long r4), (0, .ref (xad g 31))]) hx hb dX2_readErrand_39 rfl hl (by decide) rfl (fun ls hl => ?_)
    refine lv_lload_n hx hb dX2_readErrand_40 rfl (lv_at hl 0 rfl) ?_
    refine lv_lconst (v := 0) hx hb dX2_readErrand_41 (by decide) ?_
    refine W.lcmp hx hb dX2_readErrand_42 ?_
    refine lv_if_eq (tgt := 58) hx hb dX2_readErrand_43 (by decide) (fun c5 => ?_) (fun c5 => ?_)
    · have h := h.1 c5
      refine lv_iconst (v := 0) hx hb dX2_readErrand_58 (by decide) ?_
      exact x_zret false C hw h rfl dX2_readErrand_59
    · have h := h.2 c5
      refine lv_aload_n hx hb dX2_readErrand_46 rfl (lv_at hl 1 rfl) ?_
      refine x_getr (ci := 2) C hw 0 (xoX_31 hX) rfl inlX2 (by decide) rfl rfl xrX_31_0 xw_123 dX2_readErrand_47 ?_
      refine lv_bipush (v := 15) hx hb dX2_readErrand_50 (by decide) ?_
      refine x_callz hw (x_runV (ci := 8) C hw (m_X8_takeWord l C.2.2.2.2.2.2.2.2.1 (xpT_34 hX) h) (xoT_0 (xpT_34 hX)) rfl (x_gV xw_519 xw_520 xw_521 xw_122 xw_522) rfl rfl qX8_takeWord ⟨(Nat.le_of_ble_eq_true rfl), (Nat.le_of_ble_eq_true rfl)⟩ rfl hl.1 rfl (Nat.le_of_ble_eq_true rfl) dX2_readErrand_52) (fun r7 u6 H locs hw h => ?_)
      refine lv_if_ne (tgt := 60) hx hb dX2_readErrand_55 (by decide) (fun c8 => ?_) (fun c8 => ?_)
      · have h := h.1 (xb_t c8)
        refine lv_aload_n hx hb dX2_readErrand_60 rfl (lv_at hl 1 rfl) ?_
        refine x_getr (ci := 2) C hw 0 (xoX_31 hX) rfl inlX2 (by decide) rfl rfl xrX_31_0 xw_123 dX2_readErrand_61 ?_
        refine lv_aload_n hx hb dX2_readErrand_64 rfl (lv_at hl 1 rfl) ?_
        refine x_getr (ci := 2) C hw 1 (xoX_31 hX) rfl inlX2 (by decide) rfl rfl xrX_31_1 xw_125 dX2_readErrand_65 ?_
        refine x_calli hw (x_runV (ci := 8) C hw (m_X8_takeDoor l C.2.2.2.2.2.2.2.2.1 (xpT_34 hX) (xpL_164 hX) h) (xoT_0 (xpT_34 hX)) rfl (x_gV xw_579 xw_580 xw_581 xw_122 xw_582) rfl rfl qX8_takeDoor ⟨(Nat.le_of_ble_eq_true rfl), (Nat.le_of_ble_eq_true rfl)⟩ rfl hl.1 rfl (Nat.le_of_ble_eq_true rfl) dX2_readErrand_68) (fun r10 u9 H locs hw h => ?_)
        refine lv_istore_n (lv' := [(3, .int r10), (1, .long r4), (0, .ref (xad g 31))]) hx hb dX2_readErrand_71 rfl hl (by decide) rfl (fun ls hl => ?_)
        refine lv_iload_n hx hb dX2_readErrand_72 rfl (lv_at hl 0 rfl) ?_
        refine lv_iconst (v := -1) hx hb dX2_readErrand_73 (by decide) ?_
        refine lv_icmp_eq (tgt := 89) hx hb dX2_readErrand_74 (by decide) (fun c11 => ?_) (fun c11 => ?_)
        · have h := h.1 c11
          refine lv_iconst (v := 0) hx hb dX2_readErrand_89 (by decide) ?_
          exact x_zret false C hw h rfl dX2_readErrand_90
        · have h := h.2 c11
          refine lv_aload_n hx hb dX2_readErrand_77 rfl (lv_at hl 2 rfl) ?_
          refine x_getr (ci := 2) C hw 0 (xoX_31 hX) rfl inlX2 (by decide) rfl rfl xrX_31_0 xw_123 dX2_readErrand_78 ?_
          refine lv_bipush (v := 6) hx hb dX2_readErrand_81 (by decide) ?_
          refine x_callz hw (x_runV (ci := 8) C hw (m_X8_takeWord l C.2.2.2.2.2.2.2.2.1 (xpT_34 hX) h) (xoT_0 (xpT_34 hX)) rfl (x_gV xw_519 xw_520 xw_521 xw_122 xw_522) rfl rfl qX8_takeWord ⟨(Nat.le_of_ble_eq_true rfl), (Nat.le_of_ble_eq_true rfl)⟩ rfl hl.1 rfl (Nat.le_of_ble_eq_true rfl) dX2_readErrand_83) (fun r13 u12 H locs hw h => ?_)
          refine lv_if_ne (tgt := 91) hx hb dX2_readErrand_86 (by decide) (fun c14 => ?_) (fun c14 => ?_)
          · have h := h.1 (xb_t c14)
            refine lv_aload_n hx hb dX2_readErrand_91 rfl (lv_at hl 2 rfl) ?_
            refine x_getr (ci := 2) C hw 0 (xoX_31 hX) rfl inlX2 (by decide) rfl rfl xrX_31_0 xw_123 dX2_readErrand_92 ?_
            refine lv_iconst (v := 0) hx hb dX2_readErrand_95 (by decide) ?_
            refine lv_bipush (v := 11) hx hb dX2_readErrand_96 (by decide) ?_
            refine x_calli hw (x_runV (ci := 8) C hw (m_X8_takeNumber l C.2.2.2.2.2.2.2.2.1 (xpT_34 hX) h) (xoT_0 (xpT_34 hX)) rfl (x_gV xw_523 xw_524 xw_525 xw_122 xw_526) rfl rfl qX8_takeNumber ⟨(Nat.le_of_ble_eq_true rfl), (Nat.le_of_ble_eq_true rfl)⟩ rfl hl.1 rfl (Nat.le_of_ble_eq_true rfl) dX2_readErrand_98) (fun r16 u15 H locs hw h => ?_)
            refine lv_istore (lv' := [(4, .int r16), (3, .int r10), (1, .long r4), (0, .ref (xad g 31))]) hx hb dX2_readErrand_101 hl (by decide) rfl (fun ls hl => ?_)
            refine lv_iload hx hb dX2_readErrand_103 (lv_at hl 0 rfl) ?_
            refine lv_iconst (v := -1) hx hb dX2_readErrand_105 (by decide) ?_
            refine lv_icmp_eq (tgt := 121) hx hb dX2_readErrand_106 (by decide) (fun c17 => ?_) (fun c17 => ?_)
            · have h := h.1 c17
              refine lv_iconst (v := 0) hx hb dX2_readErrand_121 (by decide) ?_
              exact x_zret false C hw h rfl dX2_readErrand_122
            · have h := h.2 c17
              refine lv_aload_n hx hb dX2_readErrand_109 rfl (lv_at hl 3 rfl) ?_
              refine x_getr (ci := 2) C hw 0 (xoX_31 hX) rfl inlX2 (by decide) rfl rfl xrX_31_0 xw_123 dX2_readErrand_110 ?_
              refine lv_bipush (v := 7) hx hb dX2_readErrand_113 (by decide) ?_
              refine x_callz hw (x_runV (ci := 8) C hw (m_X8_takeWord l C.2.2.2.2.2.2.2.2.1 (xpT_34 hX) h) (xoT_0 (xpT_34 hX)) rfl (x_gV xw_519 xw_520 xw_521 xw_122 xw_522) rfl rfl qX8_takeWord ⟨(Nat.le_of_ble_eq_true rfl), (Nat.le_of_ble_eq_true rfl)⟩ rfl hl.1 rfl (Nat.le_of_ble_eq_true rfl) dX2_readErrand_115) (fun r19 u18 H locs hw h => ?_)
              refine lv_if_ne (tgt := 123) hx hb dX2_readErrand_118 (by decide) (fun c20 => ?_) (fun c20 => ?_)
              · have h := h.1 (xb_t c20)
                refine lv_aload_n hx hb dX2_readErrand_123 rfl (lv_at hl 3 rfl) ?_
                refine x_getr (ci := 2) C hw 0 (xoX_31 hX) rfl inlX2 (by decide) rfl rfl xrX_31_0 xw_123 dX2_readErrand_124 ?_
                refine lv_iload hx hb dX2_readErrand_127 (lv_at hl 0 rfl) ?_
                refine lv_bipush (v := 11) hx hb dX2_readErrand_129 (by decide) ?_
                refine x_calli hw (x_runV (ci := 8) C hw (m_X8_takeNumber l C.2.2.2.2.2.2.2.2.1 (xpT_34 hX) h) (xoT_0 (xpT_34 hX)) rfl (x_gV xw_523 xw_524 xw_525 xw_122 xw_526) rfl rfl qX8_takeNumber ⟨(Nat.le_of_ble_eq_true rfl), (Nat.le_of_ble_eq_true rfl)⟩ rfl hl.1 rfl (Nat.le_of_ble_eq_true rfl) dX2_readErrand_131) (fun r22 u21 H locs hw h => ?_)
                refine lv_istore (lv' := [(5, .int r22), (4, .int r16), (3, .int r10), (1, .long r4), (0, .ref (xad g 31))]) hx hb dX2_readErrand_134 hl (by decide) rfl (fun ls hl => ?_)
                refine lv_iload hx hb dX2_readErrand_136 (lv_at hl 0 rfl) ?_
                refine lv_iconst (v := -1) hx hb dX2_readErrand_138 (by decide) ?_
                refine lv_icmp_eq (tgt := 152) hx hb dX2_readErrand_139 (by decide) (fun c23 => ?_) (fun c23 => ?_)
                · have h := h.1 c23
                  refine lv_iconst (v := 0) hx hb dX2_readErrand_152 (by decide) ?_
                  exact x_zret false C hw h rfl dX2_readErrand_153
                · have h := h.2 c23
                  refine lv_aload_n hx hb dX2_readErrand_142 rfl (lv_at hl 4 rfl) ?_
                  refine x_getr (ci := 2) C hw 0 (xoX_31 hX) rfl inlX2 (by decide) rfl rfl xrX_31_0 xw_123 dX2_readErrand_143 ?_
                  refine x_callz hw (x_runV (ci := 8) C hw (m_X8_takeStop l C.2.2.2.2.2.2.2.2.1 (xpT_34 hX) h) (xoT_0 (xpT_34 hX)) rfl (x_gV xw_532 xw_533 xw_534 xw_122 xw_535) rfl rfl qX8_takeStop ⟨(Nat.le_of_ble_eq_true rfl), (Nat.le_of_ble_eq_true rfl)⟩ rfl hl.1 rfl (Nat.le_of_ble_eq_true rfl) dX2_readErrand_146) (fun r25 u24 H locs hw h => ?_)
                  refine lv_if_ne (tgt := 154) hx hb dX2_readErrand_149 (by decide) (fun c26 => ?_) (fun c26 => ?_)
                  · have h := h.1 (xb_t c26)
                    refine lv_aload_n hx hb dX2_readErrand_154 rfl (lv_at hl 4 rfl) ?_
                    refine x_getr (ci := 2) C hw 1 (xoX_31 hX) rfl inlX2 (by decide) rfl rfl xrX_31_1 xw_125 dX2_readErrand_155 ?_
                    refine lv_lload_n hx hb dX2_readErrand_158 rfl (lv_at hl 3 rfl) ?_
                    refine lv_iload_n hx hb dX2_readErrand_159 rfl (lv_at hl 2 rfl) ?_
                    refine lv_iload hx hb dX2_readErrand_160 (lv_at hl 1 rfl) ?_
                    refine lv_iload hx hb dX2_readErrand_162 (lv_at hl 0 rfl) ?_
                    refine x_callv hw (x_runV (ci := 1) C hw (m_X1_addErrand l C.2.2.2.2.2.2.2.2.1 (xpL_164 hX) h) (xoL_0 (xpL_164 hX)) rfl (x_gV xw_590 xw_591 xw_592 xw_15 xw_593) rfl rfl qX1_addErrand ⟨(Nat.le_of_ble_eq_true rfl), (Nat.le_of_ble_eq_true rfl)⟩ rfl hl.1 rfl (Nat.le_of_ble_eq_true rfl) dX2_readErrand_164) (fun u27 H locs hw h => ?_)
                    refine lv_iconst (v := 1) hx hb dX2_readErrand_167 (by decide) ?_
                    exact x_zret true C hw h rfl dX2_readErrand_168
                  · have h := h.2 (xb_f c26)
                    refine lv_iconst (v := 0) hx hb dX2_readErrand_152 (by decide) ?_
                    exact x_zret false C hw h rfl dX2_readErrand_153
              · have h := h.2 (xb_f c20)
                refine lv_iconst (v := 0) hx hb dX2_readErrand_121 (by decide) ?_
                exact x_zret false C hw h rfl dX2_readErrand_122
          · have h := h.2 (xb_f c14)
            refine lv_iconst (v := 0) hx hb dX2_readErrand_89 (by decide) ?_
            exact x_zret false C hw h rfl dX2_readErrand_90
      · have h := h.2 (xb_f c8)
        refine lv_iconst (v := 0) hx hb dX2_readErrand_58 (by decide) ?_
        exact x_zret false C hw h rfl dX2_readErrand_59
  · have h := h.2 c1
    refine lv_aload_n hx hb dX2_readErrand_11 rfl (lv_at hl 0 rfl) ?_
    refine x_getr (ci := 2) C hw 0 (xoX_31 hX) rfl inlX2 (by decide) rfl rfl xrX_31_0 xw_123 dX2_readErrand_12 ?_
    refine lv_bipush (v := 6) hx hb dX2_readErrand_15 (by decide) ?_
    refine x_callz hw (x_runV (ci := 8) C hw (m_X8_wrong l C.2.2.2.2.2.2.2.2.1 (xpT_34 hX) h) (xoT_0 (xpT_34 hX)) rfl (x_gV xw_493 xw_494 xw_495 xw_122 xw_496) rfl rfl qX8_wrong ⟨(Nat.le_of_ble_eq_true rfl), (Nat.le_of_ble_eq_true rfl)⟩ rfl hl.1 rfl (Nat.le_of_ble_eq_true rfl) dX2_readErrand_17) (fun r29 u28 H locs hw h => ?_)
    exact x_zret _ C hw h rfl dX2_readErrand_20
set_option maxHeartbeats 4000000 in
set_option maxRecDepth 100000 in
theorem m_X2_readErrand (l : Launch) {g : xG} (hD : x_D g) (hX : xpX g) {u : xM} {Qf : Bool → xM → Prop} (h : p_X2_readErrand  u Qf) : Met l yX2_readErrand (Cond.code yX2_readErrand cX2_readErrand 6 (some .boolean) :: wsL_law) (x_rm 4 91) (va_Pc [.ref (xad g 31)] (x_B g u)) (x_Qz g Qf) 0 0 (x_A g) := by
  refine Met.ofW (cc := cX2_readErrand) (maxL := 6) (ret := (some .boolean)) (by decide) rfl ?_
  intro p e s m args below meth c s₁ B hml hv
  obtain ⟨rfl, hB⟩ := hv
  obtain ⟨C, hw⟩ := x_start B hml hD hB
  have hl := lv_entry [.ref (xad g 31)] (n := 6) (Nat.le_of_ble_eq_true rfl)
  rw [lg_entry_eq]
  exact s_X2_readErrand C hX hw hl h
set_option maxHeartbeats 4000000 in
set_option maxRecDepth 100000 in
theorem s_X2_readPart {Qf : Bool → xM → Prop} (C : x_C p s m args meth c g RX2 cX2_readPart 1 (some .boolean)) (hX : xpX g) {u : xM} {H : Heap} {locs : List Loc} {ls : Array Slot} (hw : x_W g s.heap H locs u) (hl : lv_has ls 1 [(0, .ref (xad g 31))]) (h : p_X2_readPart  u Qf) : W p l e (x_rm 5 118) s m args below meth c H locs 0 0 (MQ below (x_Qz g Qf) args s 0 0 (x_A g)) (F0 m 0 ls []) := by
  unfold p_X2_readPart at h
  have hx := C.1
  have hb := C.2.1
  refine lv_aload_n hx hb dX2_readPart_0 rfl (lv_at hl 0 rfl) ?_
  refine x_getr (ci := 2) C hw 0 (xoX_31 hX) rfl inlX2 (by decide) rfl rfl xrX_31_0 xw_123 dX2_readPart_1 ?_
  refine x_geti (ci := 8) C hw 11 (xoT_0 (xpT_34 hX)) rfl inlX8 (by decide) rfl rfl xw_486 dX2_readPart_4 ?_
  refine lv_topi (fun x1 ex1 => ?_)
  have h := h x1 ex1
  by_cases c2 : x1 = 0
  · refine lv_tableIn (off := 73) (tgt := 80) hx hb dX2_readPart_7 (by rw [c2]; decide) (by rw [c2]; decide) (by rw [c2]; rfl) (by decide) ?_
    have h := h.1 c2
    refine lv_aload_n hx hb dX2_readPart_80 rfl (lv_at hl 0 rfl) ?_
    refine x_callz hw (x_runV (ci := 2) C hw (m_X2_readRoom l C.2.2.2.2.2.2.2.2.1 hX h) (xoX_31 hX) rfl (x_gV xw_487 xw_488 xw_489 xw_28 xw_490) rfl rfl qX2_readRoom ⟨(Nat.le_of_ble_eq_true rfl), (Nat.le_of_ble_eq_true rfl)⟩ rfl hl.1 rfl (Nat.le_of_ble_eq_true rfl) dX2_readPart_81) (fun r4 u3 H locs hw h => ?_)
    exact x_zret _ C hw h rfl dX2_readPart_84
  by_cases c5 : x1 = 1
  · refine lv_tableIn (off := 103) (tgt := 110) hx hb dX2_readPart_7 (by rw [c5]; decide) (by rw [c5]; decide) (by rw [c5]; rfl) (by decide) ?_
    have h := h.2.1 c5
    refine lv_aload_n hx hb dX2_readPart_110 rfl (lv_at hl 0 rfl) ?_
    refine x_getr (ci := 2) C hw 0 (xoX_31 hX) rfl inlX2 (by decide) rfl rfl xrX_31_0 xw_123 dX2_readPart_111 ?_
    refine lv_iconst (v := 2) hx hb dX2_readPart_114 (by decide) ?_
    refine x_callz hw (x_runV (ci := 8) C hw (m_X8_wrong l C.2.2.2.2.2.2.2.2.1 (xpT_34 hX) h) (xoT_0 (xpT_34 hX)) rfl (x_gV xw_493 xw_494 xw_495 xw_122 xw_496) rfl rfl qX8_wrong ⟨(Nat.le_of_ble_eq_true rfl), (Nat.le_of_ble_eq_true rfl)⟩ rfl hl.1 rfl (Nat.le_of_ble_eq_true rfl) dX2_readPart_115) (fun r7 u6 H locs hw h => ?_)
    exact x_zret _ C hw h rfl dX2_readPart_118
  by_cases c8 : x1 = 2
  · refine lv_tableIn (off := 103) (tgt := 110) hx hb dX2_readPart_7 (by rw [c8]; decide) (by rw [c8]; decide) (by rw [c8]; rfl) (by decide) ?_
    have h := h.2.2.1 c8
    refine lv_aload_n hx hb dX2_readPart_110 rfl (lv_at hl 0 rfl) ?_
    refine x_getr (ci := 2) C hw 0 (xoX_31 hX) rfl inlX2 (by decide) rfl rfl xrX_31_0 xw_123 dX2_readPart_111 ?_
    refine lv_iconst (v := 2) hx hb dX2_readPart_114 (by decide) ?_
    refine x_callz hw (x_runV (ci := 8) C hw (m_X8_wrong l C.2.2.2.2.2.2.2.2.1 (xpT_34 hX) h) (xoT_0 (xpT_34 hX)) rfl (x_gV xw_493 xw_494 xw_495 xw_122 xw_496) rfl rfl qX8_wrong ⟨(Nat.le_of_ble_eq_true rfl), (Nat.le_of_ble_eq_true rfl)⟩ rfl hl.1 rfl (Nat.le_of_ble_eq_true rfl) dX2_readPart_115) (fun r10 u9 H locs hw h => ?_)
    exact x_zret _ C hw h rfl dX2_readPart_118
  by_cases c11 : x1 = 3
  · refine lv_tableIn (off := 103) (tgt := 110) hx hb dX2_readPart_7 (by rw [c11]; decide) (by rw [c11]; decide) (by rw [c11]; rfl) (by decide) ?_
    have h := h.2.2.2.1 c11
    refine lv_aload_n hx hb dX2_readPart_110 rfl (lv_at hl 0 rfl) ?_
    refine x_getr (ci := 2) C hw 0 (xoX_31 hX) rfl inlX2 (by decide) rfl rfl xrX_31_0 xw_123 dX2_readPart_111 ?_
    refine lv_iconst (v := 2) hx hb dX2_readPart_114 (by decide) ?_
    refine x_callz hw (x_runV (ci := 8) C hw (m_X8_wrong l C.2.2.2.2.2.2.2.2.1 (xpT_34 hX) h) (xoT_0 (xpT_34 hX)) rfl (x_gV xw_493 xw_494 xw_495 xw_122 xw_496) rfl rfl qX8_wrong ⟨(Nat.le_of_ble_eq_true rfl), (Nat.le_of_ble_eq_true rfl)⟩ rfl hl.1 rfl (Nat.le_of_ble_eq_true rfl) dX2_readPart_115) (fun r13 u12 H locs hw h => ?_)
    exact x_zret _ C hw h rfl dX2_readPart_118
  by_cases c14 : x1 = 4
  · refine lv_tableIn (off := 103) (tgt := 110) hx hb dX2_readPart_7 (by rw [c14]; decide) (by rw [c14]; decide) (by rw [c14]; rfl) (by decide) ?_
    have h := h.2.2.2.2.1 c14
    refine lv_aload_n hx hb dX2_readPart_110 rfl (lv_at hl 0 rfl) ?_
    refine x_getr (ci := 2) C hw 0 (xoX_31 hX) rfl inlX2 (by decide) rfl rfl xrX_31_0 xw_123 dX2_readPart_111 ?_
    refine lv_iconst (v := 2) hx hb dX2_readPart_114 (by decide) ?_
    refine x_callz hw (x_runV (ci := 8) C hw (m_X8_wrong l C.2.2.2.2.2.2.2.2.1 (xpT_34 hX) h) (xoT_0 (xpT_34 hX)) rfl (x_gV xw_493 xw_494 xw_495 xw_122 xw_496) rfl rfl qX8_wrong ⟨(Nat.le_of_ble_eq_true rfl), (Nat.le_of_ble_eq_true rfl)⟩ rfl hl.1 rfl (Nat.le_of_ble_eq_true rfl) dX2_readPart_115) (fun r16 u15 H locs hw h => ?_)
    exact x_zret _ C hw h rfl dX2_readPart_118
  by_cases c17 : x1 = 5
  · refine lv_tableIn (off := 78) (tgt := 85) hx hb dX2_readPart_7 (by rw [c17]; decide) (by rw [c17]; decide) (by rw [c17]; rfl) (by decide) ?_
    have h := h.2.2.2.2.2.1 c17
    refine lv_aload_n hx hb dX2_readPart_85 rfl (lv_at hl 0 rfl) ?_
    refine x_callz hw (x_runV (ci := 2) C hw (m_X2_readDoor l C.2.2.2.2.2.2.2.2.1 hX h) (xoX_31 hX) rfl (x_gV xw_540 xw_541 xw_542 xw_28 xw_543) rfl rfl qX2_readDoor ⟨(Nat.le_of_ble_eq_true rfl), (Nat.le_of_ble_eq_true rfl)⟩ rfl hl.1 rfl (Nat.le_of_ble_eq_true rfl) dX2_readPart_86) (fun r19 u18 H locs hw h => ?_)
    exact x_zret _ C hw h rfl dX2_readPart_89
  by_cases c20 : x1 = 6
  · refine lv_tableIn (off := 103) (tgt := 110) hx hb dX2_readPart_7 (by rw [c20]; decide) (by rw [c20]; decide) (by rw [c20]; rfl) (by decide) ?_
    have h := h.2.2.2.2.2.2.1 c20
    refine lv_aload_n hx hb dX2_readPart_110 rfl (lv_at hl 0 rfl) ?_
    refine x_getr (ci := 2) C hw 0 (xoX_31 hX) rfl inlX2 (by decide) rfl rfl xrX_31_0 xw_123 dX2_readPart_111 ?_
    refine lv_iconst (v := 2) hx hb dX2_readPart_114 (by decide) ?_
    refine x_callz hw (x_runV (ci := 8) C hw (m_X8_wrong l C.2.2.2.2.2.2.2.2.1 (xpT_34 hX) h) (xoT_0 (xpT_34 hX)) rfl (x_gV xw_493 xw_494 xw_495 xw_122 xw_496) rfl rfl qX8_wrong ⟨(Nat.le_of_ble_eq_true rfl), (Nat.le_of_ble_eq_true rfl)⟩ rfl hl.1 rfl (Nat.le_of_ble_eq_true rfl) dX2_readPart_115) (fun r22 u21 H locs hw h => ?_)
    exact x_zret _ C hw h rfl dX2_readPart_118
  by_cases c23 : x1 = 7
  · refine lv_tableIn (off := 103) (tgt := 110) hx hb dX2_readPart_7 (by rw [c23]; decide) (by rw [c23]; decide) (by rw [c23]; rfl) (by decide) ?_
    have h := h.2.2.2.2.2.2.2.1 c23
    refine lv_aload_n hx hb dX2_readPart_110 rfl (lv_at hl 0 rfl) ?_
    refine x_getr (ci := 2) C hw 0 (xoX_31 hX) rfl inlX2 (by decide) rfl rfl xrX_31_0 xw_123 dX2_readPart_111 ?_
    refine lv_iconst (v := 2) hx hb dX2_readPart_114 (by decide) ?_
    refine x_callz hw (x_runV (ci := 8) C hw (m_X8_wrong l C.2.2.2.2.2.2.2.2.1 (xpT_34 hX) h) (xoT_0 (xpT_34 hX)) rfl (x_gV xw_493 xw_494 xw_495 xw_122 xw_496) rfl rfl qX8_wrong ⟨(Nat.le_of_ble_eq_true rfl), (Nat.le_of_ble_eq_true rfl)⟩ rfl hl.1 rfl (Nat.le_of_ble_eq_true rfl) dX2_readPart_115) (fun r25 u24 H locs hw h => ?_)
    exact x_zret _ C hw h rfl dX2_readPart_118
  by_cases c26 : x1 = 8
  · refine lv_tableIn (off := 103) (tgt := 110) hx hb dX2_readPart_7 (by rw [c26]; decide) (by rw [c26]; decide) (by rw [c26]; rfl) (by decide) ?_
    have h := h.2.2.2.2.2.2.2.2.1 c26
    refine lv_aload_n hx hb dX2_readPart_110 rfl (lv_at hl 0 rfl) ?_
    refine x_getr (ci := 2) C hw 0 (xoX_31 hX) rfl inlX2 (by decide) rfl rfl xrX_31_0 xw_123 dX2_readPart_111 ?_
    refine lv_iconst (v := 2) hx hb dX2_readPart_114 (by decide) ?_
    refine x_callz hw (x_runV (ci := 8) C hw (m_X8_wrong l C.2.2.2.2.2.2.2.2.1 (xpT_34 hX) h) (xoT_0 (xpT_34 hX)) rfl (x_gV xw_493 xw_494 xw_495 xw_122 xw_496) rfl rfl qX8_wrong ⟨(Nat.le_of_ble_eq_true rfl), (Nat.le_of_ble_eq_true rfl)⟩ rfl hl.1 rfl (Nat.le_of_ble_eq_true rfl) dX2_readPart_115) (fun r28 u27 H locs hw h => ?_)
    exact x_zret _ C hw h rfl dX2_readPart_118
  by_cases c29 : x1 = 9
  · refine lv_tableIn (off := 103) (tgt := 110) hx hb dX2_readPart_7 (by rw [c29]; decide) (by rw [c29]; decide) (by rw [c29]; rfl) (by decide) ?_
    have h := h.2.2.2.2.2.2.2.2.2.1 c29
    refine lv_aload_n hx hb dX2_readPart_110 rfl (lv_at hl 0 rfl) ?_
    refine x_getr (ci := 2) C hw 0 (xoX_31 hX) rfl inlX2 (by decide) rfl rfl xrX_31_0 xw_123 dX2_readPart_111 ?_
    refine lv_iconst (v := 2) hx hb dX2_readPart_114 (by decide) ?_
    refine x_callz hw (x_runV (ci := 8) C hw (m_X8_wrong l C.2.2.2.2.2.2.2.2.1 (xpT_34 hX) h) (xoT_0 (xpT_34 hX)) rfl (x_gV xw_493 xw_494 xw_495 xw_122 xw_496) rfl rfl qX8_wrong ⟨(Nat.le_of_ble_eq_true rfl), (Nat.le_of_ble_eq_true rfl)⟩ rfl hl.1 rfl (Nat.le_of_ble_eq_true rfl) dX2_readPart_115) (fun r31 u30 H locs hw h => ?_)
    exact x_zret _ C hw h rfl dX2_readPart_118
  by_cases c32 : x1 = 10
  · refine lv_tableIn (off := 103) (tgt := 110) hx hb dX2_readPart_7 (by rw [c32]; decide) (by rw [c32]; decide) (by rw [c32]; rfl) (by decide) ?_
    have h := h.2.2.2.2.2.2.2.2.2.2.1 c32
    refine lv_aload_n hx hb dX2_readPart_110 rfl (lv_at hl 0 rfl) ?_
    refine x_getr (ci := 2) C hw 0 (xoX_31 hX) rfl inlX2 (by decide) rfl rfl xrX_31_0 xw_123 dX2_readPart_111 ?_
    refine lv_iconst (v := 2) hx hb dX2_readPart_114 (by decide) ?_
    refine x_callz hw (x_runV (ci := 8) C hw (m_X8_wrong l C.2.2.2.2.2.2.2.2.1 (xpT_34 hX) h) (xoT_0 (xpT_34 hX)) rfl (x_gV xw_493 xw_494 xw_495 xw_122 xw_496) rfl rfl qX8_wrong ⟨(Nat.le_of_ble_eq_true rfl), (Nat.le_of_ble_eq_true rfl)⟩ rfl hl.1 rfl (Nat.le_of_ble_eq_true rfl) dX2_readPart_115) (fun r34 u33 H locs hw h => ?_)
    exact x_zret _ C hw h rfl dX2_readPart_118
  by_cases c35 : x1 = 11
  · refine lv_tableIn (off := 83) (tgt := 90) hx hb dX2_readPart_7 (by rw [c35]; decide) (by rw [c35]; decide) (by rw [c35]; rfl) (by decide) ?_
    have h := h.2.2.2.2.2.2.2.2.2.2.2.1 c35
    refine lv_aload_n hx hb dX2_readPart_90 rfl (lv_at hl 0 rfl) ?_
    refine x_callz hw (x_runV (ci := 2) C hw (m_X2_readTide l C.2.2.2.2.2.2.2.2.1 hX h) (xoX_31 hX) rfl (x_gV xw_556 xw_557 xw_558 xw_28 xw_559) rfl rfl qX2_readTide ⟨(Nat.le_of_ble_eq_true rfl), (Nat.le_of_ble_eq_true rfl)⟩ rfl hl.1 rfl (Nat.le_of_ble_eq_true rfl) dX2_readPart_91) (fun r37 u36 H locs hw h => ?_)
    exact x_zret _ C hw h rfl dX2_readPart_94
  by_cases c38 : x1 = 12
  · refine lv_tableIn (off := 88) (tgt := 95) hx hb dX2_readPart_7 (by rw [c38]; decide) (by rw [c38]; decide) (by rw [c38]; rfl) (by decide) ?_
    have h := h.2.2.2.2.2.2.2.2.2.2.2.2.1 c38
    refine lv_aload_n hx hb dX2_readPart_95 rfl (lv_at hl 0 rfl) ?_
    refine x_callz hw (x_runV (ci := 2) C hw (m_X2_readPump l C.2.2.2.2.2.2.2.2.1 hX h) (xoX_31 hX) rfl (x_gV xw_561 xw_562 xw_563 xw_28 xw_564) rfl rfl qX2_readPump ⟨(Nat.le_of_ble_eq_true rfl), (Nat.le_of_ble_eq_true rfl)⟩ rfl hl.1 rfl (Nat.le_of_ble_eq_true rfl) dX2_readPart_96) (fun r40 u39 H locs hw h => ?_)
    exact x_zret _ C hw h rfl dX2_readPart_99
  by_cases c41 : x1 = 13
  · refine lv_tableIn (off := 93) (tgt := 100) hx hb dX2_readPart_7 (by rw [c41]; decide) (by rw [c41]; decide) (by rw [c41]; rfl) (by decide) ?_
    have h := h.2.2.2.2.2.2.2.2.2.2.2.2.2.1 c41
    refine lv_aload_n hx hb dX2_readPart_100 rfl (lv_at hl 0 rfl) ?_
    refine x_callz hw (x_runV (ci := 2) C hw (m_X2_readRota l C.2.2.2.2.2.2.2.2.1 hX h) (xoX_31 hX) rfl (x_gV xw_574 xw_575 xw_576 xw_28 xw_577) rfl rfl qX2_readRota ⟨(Nat.le_of_ble_eq_true rfl), (Nat.le_of_ble_eq_true rfl)⟩ rfl hl.1 rfl (Nat.le_of_ble_eq_true rfl) dX2_readPart_101) (fun r43 u42 H locs hw h => ?_)
    exact x_zret _ C hw h rfl dX2_readPart_104
  by_cases c44 : x1 = 14
  · refine lv_tableIn (off := 98) (tgt := 105) hx hb dX2_readPart_7 (by rw [c44]; decide) (by rw [c44]; decide) (by rw [c44]; rfl) (by decide) ?_
    have h := h.2.2.2.2.2.2.2.2.2.2.2.2.2.2.1 c44
    refine lv_aload_n hx hb dX2_readPart_105 rfl (lv_at hl 0 rfl) ?_
    refine x_callz hw (x_runV (ci := 2) C hw (m_X2_readErrand l C.2.2.2.2.2.2.2.2.1 hX h) (xoX_31 hX) rfl (x_gV xw_585 xw_586 xw_587 xw_28 xw_588) rfl rfl qX2_readErrand ⟨(Nat.le_of_ble_eq_true rfl), (Nat.le_of_ble_eq_true rfl)⟩ rfl hl.1 rfl (Nat.le_of_ble_eq_true rfl) dX2_readPart_106) (fun r46 u45 H locs hw h => ?_)
    exact x_zret _ C hw h rfl dX2_readPart_109
  have ec2 : x1.toInt ≠ 0 := fun z => c2 (Int32.toInt_inj.mp (z.trans (by decide)))
  have ec5 : x1.toInt ≠ 1 := fun z => c5 (Int32.toInt_inj.mp (z.trans (by decide)))
  have ec8 : x1.toInt ≠ 2 := fun z => c8 (Int32.toInt_inj.mp (z.trans (by decide)))
  have ec11 : x1.toInt ≠ 3 := fun z => c11 (Int32.toInt_inj.mp (z.trans (by decide)))
  have ec14 : x1.toInt ≠ 4 := fun z => c14 (Int32.toInt_inj.mp (z.trans (by decide)))
  have ec17 : x1.toInt ≠ 5 := fun z => c17 (Int32.toInt_inj.mp (z.trans (by decide)))
  have ec20 : x1.toInt ≠ 6 := fun z => c20 (Int32.toInt_inj.mp (z.trans (by decide)))
  have ec23 : x1.toInt ≠ 7 := fun z => c23 (Int32.toInt_inj.mp (z.trans (by decide)))
  have ec26 : x1.toInt ≠ 8 := fun z => c26 (Int32.toInt_inj.mp (z.trans (by decide)))
  have ec29 : x1.toInt ≠ 9 := fun z => c29 (Int32.toInt_inj.mp (z.trans (by decide)))
  have ec32 : x1.toInt ≠ 10 := fun z => c32 (Int32.toInt_inj.mp (z.trans (by decide)))
  have ec35 : x1.toInt ≠ 11 := fun z => c35 (Int32.toInt_inj.mp (z.trans (by decide)))
  have ec38 : x1.toInt ≠ 12 := fun z => c38 (Int32.toInt_inj.mp (z.trans (by decide)))
  have ec41 : x1.toInt ≠ 13 := fun z => c41 (Int32.toInt_inj.mp (z.trans (by decide)))
  have ec44 : x1.toInt ≠ 14 := fun z => c44 (Int32.toInt_inj.mp (z.trans (by decide)))
  refine lv_tableOut (tgt := 110) hx hb dX2_readPart_7 (by omega) (by decide) ?_
  have h := h.2.2.2.2.2.2.2.2.2.2.2.2.2.2.2 c2 c5 c8 c11 c14 c17 c20 c23 c26 c29 c32 c35 c38 c41 c44
  refine lv_aload_n hx hb dX2_readPart_110 rfl (lv_at hl 0 rfl) ?_
  refine x_getr (ci := 2) C hw 0 (xoX_31 hX) rfl inlX2 (by decide) rfl rfl xrX_31_0 xw_123 dX2_readPart_111 ?_
  refine lv_iconst (v := 2) hx hb dX2_readPart_114 (by decide) ?_
  refine x_callz hw (x_runV (ci := 8) C hw (m_X8_wrong l C.2.2.2.2.2.2.2.2.1 (xpT_34 hX) h) (xoT_0 (xpT_34 hX)) rfl (x_gV xw_493 xw_494 xw_495 xw_122 xw_496) rfl rfl qX8_wrong ⟨(Nat.le_of_ble_eq_true rfl), (Nat.le_of_ble_eq_true rfl)⟩ rfl hl.1 rfl (Nat.le_of_ble_eq_true rfl) dX2_readPart_115) (fun r48 u47 H locs hw h => ?_)
  exact x_zret _ C hw h rfl dX2_readPart_118
set_option maxHeartbeats 4000000 in
set_option maxRecDepth 100000 in
theorem m_X2_readPart (l : Launch) {g : xG} (hD : x_D g) (hX : xpX g) {u : xM} {Qf : Bool → xM → Prop} (h : p_X2_readPart  u Qf) : Met l yX2_readPart (Cond.code yX2_readPart cX2_readPart 1 (some .boolean) :: wsL_law) (x_rm 5 118) (va_Pc [.ref (xad g 31)] (x_B g u)) (x_Qz g Qf) 0 0 (x_A g) := by
  refine Met.ofW (cc := cX2_readPart) (maxL := 1) (ret := (some .boolean)) (by decide) rfl ?_
  intro p e s m args below meth c s₁ B hml hv
  obtain ⟨rfl, hB⟩ := hv
  obtain ⟨C, hw⟩ := x_start B hml hD hB
  have hl := lv_entry [.ref (xad g 31)] (n := 1) (Nat.le_of_ble_eq_true rfl)
  rw [lg_entry_eq]
  exact s_X2_readPart C hX hw hl h
end
