section
variable {p : Program} {l : Launch} {e : Env} {s : State} {m : MethodId} {args : Array Value} {below : List Frame} {meth : Method} {c : Code} {g : xG}
set_option maxHeartbeats 4000000 in
set_option maxRecDepth 100000 in
theorem s_X1_letThrough_L145 {o : Nat} {Qf : xM → Prop} {K10 : Int32 → xM → Prop} (C : x_C p s m args meth c g RX1 cX1_letThrough 6 none) (ho : xpL g o) (hK10 : ∀ {v2 : Int32} {u : xM} {H : Heap} {locs : List Loc} {ls : Array Slot}, x_W g s.heap H locs u → lv_has ls 6 [(0, .ref (xad g o)), (1, .ref (xad g (o + 7))), (2, .int v2)] → K10 v2 u → W p l e (x_rm 1 80) s m args below meth c H locs 0 0 (MQ below (x_Qv g Qf) args s 0 0 (x_A g)) (F0 m 10 ls [])) {v2 : Int32} {v5 : Int32} {u : xM} {H : Heap} {locs : List Loc} {ls : Array Slot} (hw : x_W g s.heap H locs u) (hl : lv_has ls 6 [(0, .ref (xad g o)), (1, .ref (xad g (o + 7))), (2, .int v2), (5, .int v5)]) (h : p_X1_letThrough_L145 o Qf K10 v2 v5 u) : W p l e (x_rm 1 80) s m args below meth c H locs 0 0 (MQ below (x_Qv g Qf) args s 0 0 (x_A g)) (F0 m 145 ls []) := by
  unfold p_X1_letThrough_L145 at h
  have hx := C.1
  have hb := C.2.1
  refine lv_aload_n hx hb dX1_letThrough_145 rfl (lv_at hl 0 rfl) ?_
  refine x_getr (ci := 1) C hw 14 (xoL_0 ho) rfl inlX1 (by decide) rfl rfl (xrL_0_14 ho) xw_75 dX1_letThrough_146 ?_
  refine lv_iload_n hx hb dX1_letThrough_149 rfl (lv_at hl 2 rfl) ?_
  refine lv_iload hx hb dX1_letThrough_150 (lv_at hl 3 rfl) ?_
  have c1 := h.1
  have h := h.2
  obtain ⟨u2, eu2⟩ : ∃ q : xM, q = si u (o + 26) v2.toNatClampNeg v5 := ⟨_, rfl⟩
  have h := h u2 eu2
  refine x_iast C hw (xoL_26 ho) c1 dX1_letThrough_152 eu2 (fun H locs hw => ?_)
  obtain ⟨x3, ex3⟩ : ∃ y : Int32, y = v2 + 1 := ⟨_, rfl⟩
  have h := h x3 ex3
  refine lv_iinc (v := x3) (lv' := [(2, .int x3), (0, .ref (xad g o)), (1, .ref (xad g (o + 7))), (5, .int v5)]) hx hb dX1_letThrough_153 hl (k := 2) rfl (by rw [ex3]; rfl) (by decide) rfl (fun ls hl => ?_)
  refine lv_goto (tgt := 10) hx hb dX1_letThrough_156 (by decide) ?_
  exact hK10 hw (lv_sub hl [1, 2, 0] rfl) h
set_option maxHeartbeats 4000000 in
set_option maxRecDepth 100000 in
theorem s_X1_letThrough_L120 {o : Nat} {Qf : xM → Prop} {K10 : Int32 → xM → Prop} (C : x_C p s m args meth c g RX1 cX1_letThrough 6 none) (ho : xpL g o) (hK10 : ∀ {v2 : Int32} {u : xM} {H : Heap} {locs : List Loc} {ls : Array Slot}, x_W g s.heap H locs u → lv_has ls 6 [(0, .ref (xad g o)), (1, .ref (xad g (o + 7))), (2, .int v2)] → K10 v2 u → W p l e (x_rm 1 80) s m args below meth c H locs 0 0 (MQ below (x_Qv g Qf) args s 0 0 (x_A g)) (F0 m 10 ls [])) {v2 : Int32} {v4 : Int32} {v5 : Int32} {u : xM} {H : Heap} {locs : List Loc} {ls : Array Slot} (hw : x_W g s.heap H locs u) (hl : lv_has ls 6 [(0, .ref (xad g o)), (1, .ref (xad g (o + 7))), (2, .int v2), (4, .int v4), (5, .int v5)]) (h : p_X1_letThrough_L120 o Qf K10 v2 v4 v5 u) : W p l e (x_rm 1 80) s m args below meth c H locs 0 0 (MQ below (x_Qv g Qf) args s 0 0 (x_A g)) (F0 m 120 ls []) := by
  unfold p_X1_letThrough_L120 at h
  have hx := C.1
  have hb := C.2.1
  refine lv_iload hx hb dX1_letThrough_120 (lv_at hl 3 rfl) ?_
  refine x_callz hw (x_runS C hw (m_X1_isRoomEnd l C.2.2.2.2.2.2.2.2.1  h) (x_gS xw_1176 xw_1177 xw_15 xw_1178) rfl rfl qX1_isRoomEnd ⟨(Nat.le_of_ble_eq_true rfl), (Nat.le_of_ble_eq_true rfl)⟩ rfl hl.1 rfl (Nat.le_of_ble_eq_true rfl) dX1_letThrough_122) (fun r2 u1 H locs hw h => ?_)
  refine lv_if_eq (tgt := 145) hx hb dX1_letThrough_125 (by decide) (fun c3 => ?_) (fun c3 => ?_)
  · have h := h.1 (xb_f c3)
    exact s_X1_letThrough_L145 C ho hK10 hw (lv_sub hl [0, 1, 2, 4] rfl) h
  · have h := h.2 (xb_t c3)
    refine lv_aload_n hx hb dX1_letThrough_128 rfl (lv_at hl 1 rfl) ?_
    refine lv_iload hx hb dX1_letThrough_129 (lv_at hl 3 rfl) ?_
    refine lv_sipush (v := 9999) hx hb dX1_letThrough_131 (by decide) ?_
    refine lv_aload_n hx hb dX1_letThrough_134 rfl (lv_at hl 1 rfl) ?_
    refine lv_iload hx hb dX1_letThrough_135 (lv_at hl 3 rfl) ?_
    have c4 := h.1
    have h := h.2
    refine x_iald C hw (xoL_7 ho) c4 dX1_letThrough_137 ?_
    refine lv_iload hx hb dX1_letThrough_138 (lv_at hl 4 rfl) ?_
    refine lv_iadd hx hb dX1_letThrough_140 ?_
    refine x_mmin C hl.1 xw_1036 (Nat.le_of_ble_eq_true rfl) (Nat.le_of_ble_eq_true rfl) dX1_letThrough_141 ?_
    refine lv_topi (fun x5 ex5 => ?_)
    have h := h x5 ex5
    have c6 := h.1
    have h := h.2
    obtain ⟨u7, eu7⟩ : ∃ q : xM, q = si u1 (o + 7) v4.toNatClampNeg x5 := ⟨_, rfl⟩
    have h := h u7 eu7
    refine x_iast C hw (xoL_7 ho) c6 dX1_letThrough_144 eu7 (fun H locs hw => ?_)
    exact s_X1_letThrough_L145 C ho hK10 hw (lv_sub hl [0, 1, 2, 4] rfl) h
set_option maxHeartbeats 4000000 in
set_option maxRecDepth 100000 in
theorem s_X1_letThrough_L82 {o : Nat} {Qf : xM → Prop} {K10 : Int32 → xM → Prop} (C : x_C p s m args meth c g RX1 cX1_letThrough 6 none) (ho : xpL g o) (hK10 : ∀ {v2 : Int32} {u : xM} {H : Heap} {locs : List Loc} {ls : Array Slot}, x_W g s.heap H locs u → lv_has ls 6 [(0, .ref (xad g o)), (1, .ref (xad g (o + 7))), (2, .int v2)] → K10 v2 u → W p l e (x_rm 1 80) s m args below meth c H locs 0 0 (MQ below (x_Qv g Qf) args s 0 0 (x_A g)) (F0 m 10 ls [])) {v2 : Int32} {v3 : Int32} {w0 : Int32} {u : xM} {H : Heap} {locs : List Loc} {ls : Array Slot} (hw : x_W g s.heap H locs u) (hl : lv_has ls 6 [(0, .ref (xad g o)), (1, .ref (xad g (o + 7))), (2, .int v2), (3, .int v3)]) (h : p_X1_letThrough_L82 o Qf K10 v2 v3 w0 u) : W p l e (x_rm 1 80) s m args below meth c H locs 0 0 (MQ below (x_Qv g Qf) args s 0 0 (x_A g)) (F0 m 82 ls [.int w0]) := by
  unfold p_X1_letThrough_L82 at h
  have hx := C.1
  have hb := C.2.1
  refine lv_istore (lv' := [(4, .int w0), (0, .ref (xad g o)), (1, .ref (xad g (o + 7))), (2, .int v2), (3, .int v3)]) hx hb dX1_letThrough_82 hl (by decide) rfl (fun ls hl => ?_)
  refine lv_aload_n hx hb dX1_letThrough_84 rfl (lv_at hl 1 rfl) ?_
  refine x_getr (ci := 1) C hw 13 (xoL_0 ho) rfl inlX1 (by decide) rfl rfl (xrL_0_13 ho) xw_74 dX1_letThrough_85 ?_
  refine lv_iload_n hx hb dX1_letThrough_88 rfl (lv_at hl 3 rfl) ?_
  have c1 := h.1
  have h := h.2
  refine x_iald C hw (xoL_25 ho) c1 dX1_letThrough_89 ?_
  refine x_mabs C hl.1 xw_1175 (Nat.le_of_ble_eq_true rfl) (Nat.le_of_ble_eq_true rfl) dX1_letThrough_90 ?_
  refine lv_topi (fun x2 ex2 => ?_)
  have h := h x2 ex2
  refine lv_istore (lv' := [(5, .int x2), (4, .int w0), (0, .ref (xad g o)), (1, .ref (xad g (o + 7))), (2, .int v2), (3, .int v3)]) hx hb dX1_letThrough_93 hl (by decide) rfl (fun ls hl => ?_)
  refine lv_iload_n hx hb dX1_letThrough_95 rfl (lv_at hl 5 rfl) ?_
  refine x_callz hw (x_runS C hw (m_X1_isRoomEnd l C.2.2.2.2.2.2.2.2.1  h) (x_gS xw_1176 xw_1177 xw_15 xw_1178) rfl rfl qX1_isRoomEnd ⟨(Nat.le_of_ble_eq_true rfl), (Nat.le_of_ble_eq_true rfl)⟩ rfl hl.1 rfl (Nat.le_of_ble_eq_true rfl) dX1_letThrough_96) (fun r4 u3 H locs hw h => ?_)
  refine lv_if_eq (tgt := 120) hx hb dX1_letThrough_99 (by decide) (fun c5 => ?_) (fun c5 => ?_)
  · have h := h.1 (xb_f c5)
    exact s_X1_letThrough_L120 C ho hK10 hw (lv_sub hl [2, 3, 4, 1, 0] rfl) h
  · have h := h.2 (xb_t c5)
    refine lv_iload hx hb dX1_letThrough_102 (lv_at hl 0 rfl) ?_
    refine lv_aload_n hx hb dX1_letThrough_104 rfl (lv_at hl 3 rfl) ?_
    refine lv_iload_n hx hb dX1_letThrough_105 rfl (lv_at hl 5 rfl) ?_
    have c6 := h.1
    have h := h.2
    refine x_iald C hw (xoL_7 ho) c6 dX1_letThrough_106 ?_
    refine x_mmin C hl.1 xw_1036 (Nat.le_of_ble_eq_true rfl) (Nat.le_of_ble_eq_true rfl) dX1_letThrough_107 ?_
    refine lv_topi (fun x7 ex7 => ?_)
    have h := h x7 ex7
    refine lv_istore (lv' := [(5, .int x7), (4, .int w0), (0, .ref (xad g o)), (1, .ref (xad g (o + 7))), (2, .int v2), (3, .int v3)]) hx hb dX1_letThrough_110 hl (by decide) rfl (fun ls hl => ?_)
    refine lv_aload_n hx hb dX1_letThrough_112 rfl (lv_at hl 3 rfl) ?_
    refine lv_iload_n hx hb dX1_letThrough_113 rfl (lv_at hl 5 rfl) ?_
    refine lv_dup2_11 hx hb dX1_letThrough_114 rfl rfl ?_
    have c8 := h.1
    have h := h.2
    refine x_iald C hw (xoL_7 ho) c8 dX1_letThrough_115 ?_
    refine lv_iload hx hb dX1_letThrough_116 (lv_at hl 0 rfl) ?_
    refine lv_isub hx hb dX1_letThrough_118 ?_
    have c9 := h.1
    have h := h.2
    obtain ⟨u10, eu10⟩ : ∃ q : xM, q = si u3 (o + 7) v3.toNatClampNeg ((gi u3 (o + 7) v3.toNatClampNeg) - x7) := ⟨_, rfl⟩
    have h := h u10 eu10
    refine x_iast C hw (xoL_7 ho) c9 dX1_letThrough_119 eu10 (fun H locs hw => ?_)
    exact s_X1_letThrough_L120 C ho hK10 hw (lv_sub hl [2, 3, 4, 1, 0] rfl) h
set_option maxHeartbeats 4000000 in
set_option maxRecDepth 100000 in
theorem s_X1_letThrough_L51 {o : Nat} {Qf : xM → Prop} {K10 : Int32 → xM → Prop} (C : x_C p s m args meth c g RX1 cX1_letThrough 6 none) (ho : xpL g o) (hK10 : ∀ {v2 : Int32} {u : xM} {H : Heap} {locs : List Loc} {ls : Array Slot}, x_W g s.heap H locs u → lv_has ls 6 [(0, .ref (xad g o)), (1, .ref (xad g (o + 7))), (2, .int v2)] → K10 v2 u → W p l e (x_rm 1 80) s m args below meth c H locs 0 0 (MQ below (x_Qv g Qf) args s 0 0 (x_A g)) (F0 m 10 ls [])) {v2 : Int32} {w0 : Int32} {u : xM} {H : Heap} {locs : List Loc} {ls : Array Slot} (hw : x_W g s.heap H locs u) (hl : lv_has ls 6 [(0, .ref (xad g o)), (1, .ref (xad g (o + 7))), (2, .int v2)]) (h : p_X1_letThrough_L51 o Qf K10 v2 w0 u) : W p l e (x_rm 1 80) s m args below meth c H locs 0 0 (MQ below (x_Qv g Qf) args s 0 0 (x_A g)) (F0 m 51 ls [.int w0]) := by
  unfold p_X1_letThrough_L51 at h
  have hx := C.1
  have hb := C.2.1
  refine lv_istore_n (lv' := [(3, .int w0), (0, .ref (xad g o)), (1, .ref (xad g (o + 7))), (2, .int v2)]) hx hb dX1_letThrough_51 rfl hl (by decide) rfl (fun ls hl => ?_)
  refine lv_aload_n hx hb dX1_letThrough_52 rfl (lv_at hl 1 rfl) ?_
  refine x_getr (ci := 1) C hw 13 (xoL_0 ho) rfl inlX1 (by decide) rfl rfl (xrL_0_13 ho) xw_74 dX1_letThrough_53 ?_
  refine lv_iload_n hx hb dX1_letThrough_56 rfl (lv_at hl 3 rfl) ?_
  have c1 := h.1
  have h := h.2
  refine x_iald C hw (xoL_25 ho) c1 dX1_letThrough_57 ?_
  refine lv_if_lt (tgt := 73) hx hb dX1_letThrough_58 (by decide) (fun c2 => ?_) (fun c2 => ?_)
  · have h := h.1 c2
    refine lv_aload_n hx hb dX1_letThrough_73 rfl (lv_at hl 1 rfl) ?_
    refine x_getr (ci := 1) C hw 1 (xoL_0 ho) rfl inlX1 (by decide) rfl rfl (xrL_0_1 ho) xw_62 dX1_letThrough_74 ?_
    refine x_getr (ci := 0) C hw 4 (xoL_9 ho) rfl inlX0 (by decide) rfl rfl (xrL_9_4 ho) xw_1032 dX1_letThrough_77 ?_
    refine lv_iload_n hx hb dX1_letThrough_80 rfl (lv_at hl 3 rfl) ?_
    have c3 := h.1
    have h := h.2
    refine x_iald C hw (xoL_11 ho) c3 dX1_letThrough_81 ?_
    exact s_X1_letThrough_L82 C ho hK10 hw (lv_sub hl [1, 2, 3, 0] rfl) h
  · have h := h.2 c2
    refine lv_aload_n hx hb dX1_letThrough_61 rfl (lv_at hl 1 rfl) ?_
    refine x_getr (ci := 1) C hw 1 (xoL_0 ho) rfl inlX1 (by decide) rfl rfl (xrL_0_1 ho) xw_62 dX1_letThrough_62 ?_
    refine x_getr (ci := 0) C hw 5 (xoL_9 ho) rfl inlX0 (by decide) rfl rfl (xrL_9_5 ho) xw_1033 dX1_letThrough_65 ?_
    refine lv_iload_n hx hb dX1_letThrough_68 rfl (lv_at hl 3 rfl) ?_
    have c4 := h.1
    have h := h.2
    refine x_iald C hw (xoL_12 ho) c4 dX1_letThrough_69 ?_
    refine lv_goto (tgt := 82) hx hb dX1_letThrough_70 (by decide) ?_
    exact s_X1_letThrough_L82 C ho hK10 hw (lv_sub hl [1, 2, 3, 0] rfl) h
set_option maxHeartbeats 4000000 in
set_option maxRecDepth 100000 in
theorem s_X1_letThrough_L10 {o : Nat} {Qf : xM → Prop} (C : x_C p s m args meth c g RX1 cX1_letThrough 6 none) (ho : xpL g o) : ∀ (nn : Nat) {v2 : Int32} {u : xM} {H : Heap} {locs : List Loc} {ls : Array Slot} (hw : x_W g s.heap H locs u) (hl : lv_has ls 6 [(0, .ref (xad g o)), (1, .ref (xad g (o + 7))), (2, .int v2)]) (h : p_X1_letThrough_L10 o Qf nn v2 u), W p l e (x_rm 1 80) s m args below meth c H locs 0 0 (MQ below (x_Qv g Qf) args s 0 0 (x_A g)) (F0 m 10 ls []) := by
  intro nn
  induction nn with
  | zero => intro v2 u H locs ls hw hl h; exact h.elim
  | succ nn ih =>
    intro v2 u H locs ls hw hl h
    unfold p_X1_letThrough_L10 at h
    have hx := C.1
    have hb := C.2.1
    refine lv_iload_n hx hb dX1_letThrough_10 rfl (lv_at hl 2 rfl) ?_
    refine lv_aload_n hx hb dX1_letThrough_11 rfl (lv_at hl 0 rfl) ?_
    refine x_getr (ci := 1) C hw 1 (xoL_0 ho) rfl inlX1 (by decide) rfl rfl (xrL_0_1 ho) xw_62 dX1_letThrough_12 ?_
    refine x_geti (ci := 0) C hw 0 (xoL_9 ho) rfl inlX0 (by decide) rfl rfl xw_1031 dX1_letThrough_15 ?_
    refine lv_icmp_ge (tgt := 159) hx hb dX1_letThrough_18 (by decide) (fun c1 => ?_) (fun c1 => ?_)
    · have h := h.1 c1
      exact x_vret C hw h dX1_letThrough_159
    · have h := h.2 c1
      refine lv_aload_n hx hb dX1_letThrough_21 rfl (lv_at hl 0 rfl) ?_
      refine x_getr (ci := 1) C hw 13 (xoL_0 ho) rfl inlX1 (by decide) rfl rfl (xrL_0_13 ho) xw_74 dX1_letThrough_22 ?_
      refine lv_iload_n hx hb dX1_letThrough_25 rfl (lv_at hl 2 rfl) ?_
      have c2 := h.1
      have h := h.2
      refine x_iald C hw (xoL_25 ho) c2 dX1_letThrough_26 ?_
      refine lv_if_lt (tgt := 42) hx hb dX1_letThrough_27 (by decide) (fun c3 => ?_) (fun c3 => ?_)
      · have h := h.1 c3
        refine lv_aload_n hx hb dX1_letThrough_42 rfl (lv_at hl 0 rfl) ?_
        refine x_getr (ci := 1) C hw 1 (xoL_0 ho) rfl inlX1 (by decide) rfl rfl (xrL_0_1 ho) xw_62 dX1_letThrough_43 ?_
        refine x_getr (ci := 0) C hw 5 (xoL_9 ho) rfl inlX0 (by decide) rfl rfl (xrL_9_5 ho) xw_1033 dX1_letThrough_46 ?_
        refine lv_iload_n hx hb dX1_letThrough_49 rfl (lv_at hl 2 rfl) ?_
        have c4 := h.1
        have h := h.2
        refine x_iald C hw (xoL_12 ho) c4 dX1_letThrough_50 ?_
        exact s_X1_letThrough_L51 C ho (fun hw hl h => ih hw hl h) hw (lv_sub hl [0, 1, 2] rfl) h
      · have h := h.2 c3
        refine lv_aload_n hx hb dX1_letThrough_30 rfl (lv_at hl 0 rfl) ?_
        refine x_getr (ci := 1) C hw 1 (xoL_0 ho) rfl inlX1 (by decide) rfl rfl (xrL_0_1 ho) xw_62 dX1_letThrough_31 ?_
        refine x_getr (ci := 0) C hw 4 (xoL_9 ho) rfl inlX0 (by decide) rfl rfl (xrL_9_4 ho) xw_1032 dX1_letThrough_34 ?_
        refine lv_iload_n hx hb dX1_letThrough_37 rfl (lv_at hl 2 rfl) ?_
        have c5 := h.1
        have h := h.2
        refine x_iald C hw (xoL_11 ho) c5 dX1_letThrough_38 ?_
        refine lv_goto (tgt := 51) hx hb dX1_letThrough_39 (by decide) ?_
        exact s_X1_letThrough_L51 C ho (fun hw hl h => ih hw hl h) hw (lv_sub hl [0, 1, 2] rfl) h
set_option maxHeartbeats 4000000 in
set_option maxRecDepth 100000 in
theorem s_X1_letThrough {o : Nat} {Qf : xM → Prop} (C : x_C p s m args meth c g RX1 cX1_letThrough 6 none) (ho : xpL g o) {u : xM} {H : Heap} {locs : List Loc} {ls : Array Slot} (hw : x_W g s.heap H locs u) (hl : lv_has ls 6 [(0, .ref (xad g o))]) (h : p_X1_letThrough o u Qf) : W p l e (x_rm 1 80) s m args below meth c H locs 0 0 (MQ below (x_Qv g Qf) args s 0 0 (x_A g)) (F0 m 0 ls []) := by
  unfold p_X1_letThrough at h
  have hx := C.1
  have hb := C.2.1
  refine lv_aload_n hx hb dX1_letThrough_0 rfl (lv_at hl 0 rfl) ?_
  refine x_getr (ci := 1) C hw 0 (xoL_0 ho) rfl inlX1 (by decide) rfl rfl (xrL_0_0 ho) xw_58 dX1_letThrough_1 ?_
  refine x_getr (ci := 7) C hw 7 (xoL_1 ho) rfl inlX7 (by decide) rfl rfl (xrL_1_7 ho) xw_1174 dX1_letThrough_4 ?_
  refine lv_astore_n (lv' := [(1, .ref (xad g (o + 7))), (0, .ref (xad g o))]) hx hb dX1_letThrough_7 rfl hl (by decide) rfl (fun ls hl => ?_)
  refine lv_iconst (v := 0) hx hb dX1_letThrough_8 (by decide) ?_
  refine lv_istore_n (lv' := [(2, .int 0), (1, .ref (xad g (o + 7))), (0, .ref (xad g o))]) hx hb dX1_letThrough_9 rfl hl (by decide) rfl (fun ls hl => ?_)
  obtain ⟨n9, h⟩ := h
  exact s_X1_letThrough_L10 C ho n9 hw (lv_sub hl [2, 1, 0] rfl) h
set_option maxHeartbeats 4000000 in
set_option maxRecDepth 100000 in
theorem m_X1_letThrough (l : Launch) {g : xG} (hD : x_D g) {o : Nat} (ho : xpL g o) {u : xM} {Qf : xM → Prop} (h : p_X1_letThrough o u Qf) : Met l yX1_letThrough (Cond.code yX1_letThrough cX1_letThrough 6 none :: wsL_law) (x_rm 1 80) (va_Pc [.ref (xad g o)] (x_B g u)) (x_Qv g Qf) 0 0 (x_A g) := by
  refine Met.ofW (cc := cX1_letThrough) (maxL := 6) (ret := none) (by decide) rfl ?_
  intro p e s m args below meth c s₁ B hml hv
  obtain ⟨rfl, hB⟩ := hv
  obtain ⟨C, hw⟩ := x_start B hml hD hB
  have hl := lv_entry [.ref (xad g o)] (n := 6) (Nat.le_of_ble_eq_true rfl)
  rw [lg_entry_eq]
  exact s_X1_letThrough C ho hw hl h
set_option maxHeartbeats 4000000 in
set_option maxRecDepth 100000 in
theorem s_X1_hourOfDay {o : Nat} {Qf : Int32 → xM → Prop} (C : x_C p s m args meth c g RX1 cX1_hourOfDay 1 (some .int)) (ho : xpL g o) {u : xM} {H : Heap} {locs : List Loc} {ls : Array Slot} (hw : x_W g s.heap H locs u) (hl : lv_has ls 1 [(0, .ref (xad g o))]) (h : p_X1_hourOfDay o u Qf) : W p l e (x_rm 0 0) s m args below meth c H locs 0 0 (MQ below (x_Qi g Qf) args s 0 0 (x_A g)) (F0 m 0 ls []) := by
  unfold p_X1_hourOfDay at h
  have hx := C.1
  have hb := C.2.1
  refine lv_aload_n hx hb dX1_hourOfDay_0 rfl (lv_at hl 0 rfl) ?_
  refine x_geti (ci := 1) C hw 8 (xoL_0 ho) rfl inlX1 (by decide) rfl rfl xw_409 dX1_hourOfDay_1 ?_
  refine lv_bipush (v := 12) hx hb dX1_hourOfDay_4 (by decide) ?_
  refine lv_irem hx hb dX1_hourOfDay_6 (by decide) ?_
  refine lv_topi (fun x1 ex1 => ?_)
  have h := h x1 ex1
  exact x_iret C hw h dX1_hourOfDay_7
set_option maxHeartbeats 4000000 in
set_option maxRecDepth 100000 in
theorem m_X1_hourOfDay (l : Launch) {g : xG} (hD : x_D g) {o : Nat} (ho : xpL g o) {u : xM} {Qf : Int32 → xM → Prop} (h : p_X1_hourOfDay o u Qf) : Met l yX1_hourOfDay (Cond.code yX1_hourOfDay cX1_hourOfDay 1 (some .int) :: wsL_law) (x_rm 0 0) (va_Pc [.ref (xad g o)] (x_B g u)) (x_Qi g Qf) 0 0 (x_A g) := by
  refine Met.ofW (cc := cX1_hourOfDay) (maxL := 1) (ret := (some .int)) (by decide) rfl ?_
  intro p e s m args below meth c s₁ B hml hv
  obtain ⟨rfl, hB⟩ := hv
  obtain ⟨C, hw⟩ := x_start B hml hD hB
  have hl := lv_entry [.ref (xad g o)] (n := 1) (Nat.le_of_ble_eq_true rfl)
  rw [lg_entry_eq]
  exact s_X1_hourOfDay C ho hw hl h
set_option maxHeartbeats 4000000 in
set_option maxRecDepth 100000 in
theorem s_X7_pumpOut_L2 {o : Nat} {Qf : xM → Prop} (C : x_C p s m args meth c g RX7 cX7_pumpOut 2 none) (ho : xpL g o) : ∀ (nn : Nat) {v1 : Int32} {u : xM} {H : Heap} {locs : List Loc} {ls : Array Slot} (hw : x_W g s.heap H locs u) (hl : lv_has ls 2 [(0, .ref (xad g (o + 1))), (1, .int v1)]) (h : p_X7_pumpOut_L2 o Qf nn v1 u), W p l e (x_rm 1 80) s m args below meth c H locs 0 0 (MQ below (x_Qv g Qf) args s 0 0 (x_A g)) (F0 m 2 ls []) := by
  intro nn
  induction nn with
  | zero => intro v1 u H locs ls hw hl h; exact h.elim
  | succ nn ih =>
    intro v1 u H locs ls hw hl h
    unfold p_X7_pumpOut_L2 at h
    have hx := C.1
    have hb := C.2.1
    refine lv_iload_n hx hb dX7_pumpOut_2 rfl (lv_at hl 1 rfl) ?_
    refine lv_aload_n hx hb dX7_pumpOut_3 rfl (lv_at hl 0 rfl) ?_
    refine x_geti (ci := 7) C hw 0 (xoL_1 ho) rfl inlX7 (by decide) rfl rfl xw_414 dX7_pumpOut_4 ?_
    refine lv_icmp_ge (tgt := 40) hx hb dX7_pumpOut_7 (by decide) (fun c1 => ?_) (fun c1 => ?_)
    · have h := h.1 c1
      exact x_vret C hw h dX7_pumpOut_40
    · have h := h.2 c1
      refine lv_aload_n hx hb dX7_pumpOut_10 rfl (lv_at hl 0 rfl) ?_
      refine x_getr (ci := 7) C hw 7 (xoL_1 ho) rfl inlX7 (by decide) rfl rfl (xrL_1_7 ho) xw_84 dX7_pumpOut_11 ?_
      refine lv_iload_n hx hb dX7_pumpOut_14 rfl (lv_at hl 1 rfl) ?_
      refine lv_dup2_11 hx hb dX7_pumpOut_15 rfl rfl ?_
      have c2 := h.1
      have h := h.2
      refine x_iald C hw (xoL_7 ho) c2 dX7_pumpOut_16 ?_
      refine lv_aload_n hx hb dX7_pumpOut_17 rfl (lv_at hl 0 rfl) ?_
      refine x_getr (ci := 7) C hw 6 (xoL_1 ho) rfl inlX7 (by decide) rfl rfl (xrL_1_6 ho) xw_83 dX7_pumpOut_18 ?_
      refine lv_iload_n hx hb dX7_pumpOut_21 rfl (lv_at hl 1 rfl) ?_
      have c3 := h.1
      have h := h.2
      refine x_iald C hw (xoL_6 ho) c3 dX7_pumpOut_22 ?_
      refine lv_aload_n hx hb dX7_pumpOut_23 rfl (lv_at hl 0 rfl) ?_
      refine x_getr (ci := 7) C hw 7 (xoL_1 ho) rfl inlX7 (by decide) rfl rfl (xrL_1_7 ho) xw_84 dX7_pumpOut_24 ?_
      refine lv_iload_n hx hb dX7_pumpOut_27 rfl (lv_at hl 1 rfl) ?_
      have c4 := h.1
      have h := h.2
      refine x_iald C hw (xoL_7 ho) c4 dX7_pumpOut_28 ?_
      refine x_mmin C hl.1 xw_1187 (Nat.le_of_ble_eq_true rfl) (Nat.le_of_ble_eq_true rfl) dX7_pumpOut_29 ?_
      refine lv_topi (fun x5 ex5 => ?_)
      have h := h x5 ex5
      refine lv_isub hx hb dX7_pumpOut_32 ?_
      have c6 := h.1
      have h := h.2
      obtain ⟨u7, eu7⟩ : ∃ q : xM, q = si u (o + 7) v1.toNatClampNeg ((gi u (o + 7) v1.toNatClampNeg) - x5) := ⟨_, rfl⟩
      have h := h u7 eu7
      refine x_iast C hw (xoL_7 ho) c6 dX7_pumpOut_33 eu7 (fun H locs hw => ?_)
      obtain ⟨x8, ex8⟩ : ∃ y : Int32, y = v1 + 1 := ⟨_, rfl⟩
      have h := h x8 ex8
      refine lv_iinc (v := x8) (lv' := [(1, .int x8), (0, .ref (xad g (o + 1)))]) hx hb dX7_pumpOut_34 hl (k := 1) rfl (by rw [ex8]; rfl) (by decide) rfl (fun ls hl => ?_)
      refine lv_goto (tgt := 2) hx hb dX7_pumpOut_37 (by decide) ?_
      exact ih hw (lv_sub hl [1, 0] rfl) h
set_option maxHeartbeats 4000000 in
set_option maxRecDepth 100000 in
theorem s_X7_pumpOut {o : Nat} {Qf : xM → Prop} (C : x_C p s m args meth c g RX7 cX7_pumpOut 2 none) (ho : xpL g o) {u : xM} {H : Heap} {locs : List Loc} {ls : Array Slot} (hw : x_W g s.heap H locs u) (hl : lv_has ls 2 [(0, .ref (xad g (o + 1)))]) (h : p_X7_pumpOut o u Qf) : W p l e (x_rm 1 80) s m args below meth c H locs 0 0 (MQ below (x_Qv g Qf) args s 0 0 (x_A g)) (F0 m 0 ls []) := by
  unfold p_X7_pumpOut at h
  have hx := C.1
  have hb := C.2.1
  refine lv_iconst (v := 0) hx hb dX7_pumpOut_0 (by decide) ?_
  refine lv_istore_n (lv' := [(1, .int 0), (0, .ref (xad g (o + 1)))]) hx hb dX7_pumpOut_1 rfl hl (by decide) rfl (fun ls hl => ?_)
  obtain ⟨n9, h⟩ := h
  exact s_X7_pumpOut_L2 C ho n9 hw (lv_sub hl [1, 0] rfl) h
set_option maxHeartbeats 4000000 in
set_option maxRecDepth 100000 in
theorem m_X7_pumpOut (l : Launch) {g : xG} (hD : x_D g) {o : Nat} (ho : xpL g o) {u : xM} {Qf : xM → Prop} (h : p_X7_pumpOut o u Qf) : Met l yX7_pumpOut (Cond.code yX7_pumpOut cX7_pumpOut 2 none :: wsL_law) (x_rm 1 80) (va_Pc [.ref (xad g (o + 1))] (x_B g u)) (x_Qv g Qf) 0 0 (x_A g) := by
  refine Met.ofW (cc := cX7_pumpOut) (maxL := 2) (ret := none) (by decide) rfl ?_
  intro p e s m args below meth c s₁ B hml hv
  obtain ⟨rfl, hB⟩ := hv
  obtain ⟨C, hw⟩ := x_start B hml hD hB
  have hl := lv_entry [.ref (xad g (o + 1))] (n := 2) (Nat.le_of_ble_eq_true rfl)
  rw [lg_entry_eq]
  exact s_X7_pumpOut C ho hw hl h
set_option maxHeartbeats 4000000 in
set_option maxRecDepth 100000 in
theorem s_X7_lookAtDepths_L38 {o : Nat} {Qf : xM → Prop} {K2 : Int32 → xM → Prop} (C : x_C p s m args meth c g RX7 cX7_lookAtDepths 3 none) (ho : xpL g o) (hK2 : ∀ {v1 : Int32} {u : xM} {H : Heap} {locs : List Loc} {ls : Array Slot}, x_W g s.heap H locs u → lv_has ls 3 [(0, .ref (xad g (o + 1))), (1, .int v1)] → K2 v1 u → W p l e (x_rm 1 21) s m args below meth c H locs 0 0 (MQ below (x_Qv g Qf) args s 0 0 (x_A g)) (F0 m 2 ls [])) {v1 : Int32} {v2 : Int32} {u : xM} {H : Heap} {locs : List Loc} {ls : Array Slot} (hw : x_W g s.heap H locs u) (hl : lv_has ls 3 [(0, .ref (xad g (o + 1))), (1, .int v1), (2, .int v2)]) (h : p_X7_lookAtDepths_L38 o Qf K2 v1 v2 u) : W p l e (x_rm 1 21) s m args below meth c H locs 0 0 (MQ below (x_Qv g Qf) args s 0 0 (x_A g)) (F0 m 38 ls []) := by
  unfold p_X7_lookAtDepths_L38 at h
  have hx := C.1
  have hb := C.2.1
  refine lv_iload_n hx hb dX7_lookAtDepths_38 rfl (lv_at hl 2 rfl) ?_
  refine lv_aload_n hx hb dX7_lookAtDepths_39 rfl (lv_at hl 0 rfl) ?_
  refine x_getr (ci := 7) C hw 8 (xoL_1 ho) rfl inlX7 (by decide) rfl rfl (xrL_1_8 ho) xw_85 dX7_lookAtDepths_40 ?_
  refine lv_iload_n hx hb dX7_lookAtDepths_43 rfl (lv_at hl 1 rfl) ?_
  have c1 := h.1
  have h := h.2
  refine x_iald C hw (xoL_8 ho) c1 dX7_lookAtDepths_44 ?_
  refine lv_icmp_le (tgt := 55) hx hb dX7_lookAtDepths_45 (by decide) (fun c2 => ?_) (fun c2 => ?_)
  · have h := h.1 c2
    obtain ⟨x3, ex3⟩ : ∃ y : Int32, y = v1 + 1 := ⟨_, rfl⟩
    have h := h x3 ex3
    refine lv_iinc (v := x3) (lv' := [(1, .int x3), (0, .ref (xad g (o + 1))), (2, .int v2)]) hx hb dX7_lookAtDepths_55 hl (k := 1) rfl (by rw [ex3]; rfl) (by decide) rfl (fun ls hl => ?_)
    refine lv_goto (tgt := 2) hx hb dX7_lookAtDepths_58 (by decide) ?_
    exact hK2 hw (lv_sub hl [1, 0] rfl) h
  · have h := h.2 c2
    refine lv_aload_n hx hb dX7_lookAtDepths_48 rfl (lv_at hl 0 rfl) ?_
    refine x_getr (ci := 7) C hw 8 (xoL_1 ho) rfl inlX7 (by decide) rfl rfl (xrL_1_8 ho) xw_85 dX7_lookAtDepths_49 ?_
    refine lv_iload_n hx hb dX7_lookAtDepths_52 rfl (lv_at hl 1 rfl) ?_
    refine lv_iload_n hx hb dX7_lookAtDepths_53 rfl (lv_at hl 2 rfl) ?_
    have c4 := h.1
    have h := h.2
    obtain ⟨u5, eu5⟩ : ∃ q : xM, q = si u (o + 8) v1.toNatClampNeg v2 := ⟨_, rfl⟩
    have h := h u5 eu5
    refine x_iast C hw (xoL_8 ho) c4 dX7_lookAtDepths_54 eu5 (fun H locs hw => ?_)
    obtain ⟨x6, ex6⟩ : ∃ y : Int32, y = v1 + 1 := ⟨_, rfl⟩
    have h := h x6 ex6
    refine lv_iinc (v := x6) (lv' := [(1, .int x6), (0, .ref (xad g (o + 1))), (2, .int v2)]) hx hb dX7_lookAtDepths_55 hl (k := 1) rfl (by rw [ex6]; rfl) (by decide) rfl (fun ls hl => ?_)
    refine lv_goto (tgt := 2) hx hb dX7_lookAtDepths_58 (by decide) ?_
    exact hK2 hw (lv_sub hl [1, 0] rfl) h
set_option maxHeartbeats 4000000 in
set_option maxRecDepth 100000 in
theorem s_X7_lookAtDepths_L2 {o : Nat} {Qf : xM → Prop} (C : x_C p s m args meth c g RX7 cX7_lookAtDepths 3 none) (ho : xpL g o) : ∀ (nn : Nat) {v1 : Int32} {u : xM} {H : Heap} {locs : List Loc} {ls : Array Slot} (hw : x_W g s.heap H locs u) (hl : lv_has ls 3 [(0, .ref (xad g (o + 1))), (1, .int v1)]) (h : p_X7_lookAtDepths_L2 o Qf nn v1 u), W p l e (x_rm 1 21) s m args below meth c H locs 0 0 (MQ below (x_Qv g Qf) args s 0 0 (x_A g)) (F0 m 2 ls []) := by
  intro nn
  induction nn with
  | zero => intro v1 u H locs ls hw hl h; exact h.elim
  | succ nn ih =>
    intro v1 u H locs ls hw hl h
    unfold p_X7_lookAtDepths_L2 at h
    have hx := C.1
    have hb := C.2.1
    refine lv_iload_n hx hb dX7_lookAtDepths_2 rfl (lv_at hl 1 rfl) ?_
    refine lv_aload_n hx hb dX7_lookAtDepths_3 rfl (lv_at hl 0 rfl) ?_
    refine x_geti (ci := 7) C hw 0 (xoL_1 ho) rfl inlX7 (by decide) rfl rfl xw_414 dX7_lookAtDepths_4 ?_
    refine lv_icmp_ge (tgt := 61) hx hb dX7_lookAtDepths_7 (by decide) (fun c1 => ?_) (fun c1 => ?_)
    · have h := h.1 c1
      exact x_vret C hw h dX7_lookAtDepths_61
    · have h := h.2 c1
      refine lv_aload_n hx hb dX7_lookAtDepths_10 rfl (lv_at hl 0 rfl) ?_
      refine lv_iload_n hx hb dX7_lookAtDepths_11 rfl (lv_at hl 1 rfl) ?_
      refine x_calli hw (x_runV (ci := 7) C hw (m_X7_depth l C.2.2.2.2.2.2.2.2.1 ho h) (xoL_1 ho) rfl (x_gV xw_873 xw_874 xw_875 xw_57 xw_876) rfl rfl qX7_depth ⟨(Nat.le_of_ble_eq_true rfl), (Nat.le_of_ble_eq_true rfl)⟩ rfl hl.1 rfl (Nat.le_of_ble_eq_true rfl) dX7_lookAtDepths_12) (fun r3 u2 H locs hw h => ?_)
      refine lv_istore_n (lv' := [(2, .int r3), (0, .ref (xad g (o + 1))), (1, .int v1)]) hx hb dX7_lookAtDepths_15 rfl hl (by decide) rfl (fun ls hl => ?_)
      refine lv_iload_n hx hb dX7_lookAtDepths_16 rfl (lv_at hl 0 rfl) ?_
      refine lv_aload_n hx hb dX7_lookAtDepths_17 rfl (lv_at hl 1 rfl) ?_
      refine x_getr (ci := 7) C hw 5 (xoL_1 ho) rfl inlX7 (by decide) rfl rfl (xrL_1_5 ho) xw_82 dX7_lookAtDepths_18 ?_
      refine lv_iload_n hx hb dX7_lookAtDepths_21 rfl (lv_at hl 2 rfl) ?_
      have c4 := h.1
      have h := h.2
      refine x_iald C hw (xoL_5 ho) c4 dX7_lookAtDepths_22 ?_
      refine lv_icmp_le (tgt := 38) hx hb dX7_lookAtDepths_23 (by decide) (fun c5 => ?_) (fun c5 => ?_)
      · have h := h.1 c5
        exact s_X7_lookAtDepths_L38 C ho (fun hw hl h => ih hw hl h) hw (lv_sub hl [1, 2, 0] rfl) h
      · have h := h.2 c5
        refine lv_aload_n hx hb dX7_lookAtDepths_26 rfl (lv_at hl 1 rfl) ?_
        refine lv_dup hx hb dX7_lookAtDepths_27 rfl ?_
        refine x_geti (ci := 7) C hw 1 (xoL_1 ho) rfl inlX7 (by decide) rfl rfl xw_415 dX7_lookAtDepths_28 ?_
        refine lv_iconst (v := 1) hx hb dX7_lookAtDepths_31 (by decide) ?_
        refine lv_iload_n hx hb dX7_lookAtDepths_32 rfl (lv_at hl 2 rfl) ?_
        refine lv_ishl hx hb dX7_lookAtDepths_33 ?_
        refine lv_ior hx hb dX7_lookAtDepths_34 ?_
        obtain ⟨u6, eu6⟩ : ∃ q : xM, q = si u2 (o + 1) 1 ((gi u2 (o + 1) 1) ||| ((1 : Int32) <<< (v1 &&& 31))) := ⟨_, rfl⟩
        have h := h u6 eu6
        refine x_puti (ci := 7) (ty := .int) C hw 1 (xoL_1 ho) rfl inlX7 tyX7_ok nmX7 (by decide) rfl rfl xw_415 rfl (by decide +kernel) rfl rfl dX7_lookAtDepths_35 eu6 (fun H locs hw => ?_)
        exact s_X7_lookAtDepths_L38 C ho (fun hw hl h => ih hw hl h) hw (lv_sub hl [1, 2, 0] rfl) h
set_option maxHeartbeats 4000000 in
set_option maxRecDepth 100000 in
theorem s_X7_lookAtDepths {o : Nat} {Qf : xM → Prop} (C : x_C p s m args meth c g RX7 cX7_lookAtDepths 3 none) (ho : xpL g o) {u : xM} {H : Heap} {locs : List Loc} {ls : Array Slot} (hw : x_W g s.heap H locs u) (hl : lv_has ls 3 [(0, .ref (xad g (o + 1)))]) (h : p_X7_lookAtDepths o u Qf) : W p l e (x_rm 1 21) s m args below meth c H locs 0 0 (MQ below (x_Qv g Qf) args s 0 0 (x_A g)) (F0 m 0 ls []) := by
  unfold p_X7_lookAtDepths at h
  have hx := C.1
  have hb := C.2.1
  refine lv_iconst (v := 0) hx hb dX7_lookAtDepths_0 (by decide) ?_
  refine lv_istore_n (lv' := [(1, .int 0), (0, .ref (xad g (o + 1)))]) hx hb dX7_lookAtDepths_1 rfl hl (by decide) rfl (fun ls hl => ?_)
  obtain ⟨n9, h⟩ := h
  exact s_X7_lookAtDepths_L2 C ho n9 hw (lv_sub hl [1, 0] rfl) h
set_option maxHeartbeats 4000000 in
set_option maxRecDepth 100000 in
theorem m_X7_lookAtDepths (l : Launch) {g : xG} (hD : x_D g) {o : Nat} (ho : xpL g o) {u : xM} {Qf : xM → Prop} (h : p_X7_lookAtDepths o u Qf) : Met l yX7_lookAtDepths (Cond.code yX7_lookAtDepths cX7_lookAtDepths 3 none :: wsL_law) (x_rm 1 21) (va_Pc [.ref (xad g (o + 1))] (x_B g u)) (x_Qv g Qf) 0 0 (x_A g) := by
  refine Met.ofW (cc := cX7_lookAtDepths) (maxL := 3) (ret := none) (by decide) rfl ?_
  intro p e s m args below meth c s₁ B hml hv
  obtain ⟨rfl, hB⟩ := hv
  obtain ⟨C, hw⟩ := x_start B hml hD hB
  have hl := lv_entry [.ref (xad g (o + 1))] (n := 3) (Nat.le_of_ble_eq_true rfl)
  rw [lg_entry_eq]
  exact s_X7_lookAtDepths C ho hw hl h
set_option maxHeartbeats 4000000 in
set_option maxRecDepth 100000 in
theorem s_X1_goOneHour_L34 {o : Nat} {Qf : xM → Prop} (C : x_C p s m args meth c g RX1 cX1_goOneHour 1 none) (ho : xpL g o) {u : xM} {H : Heap} {locs : List Loc} {ls : Array Slot} (hw : x_W g s.heap H locs u) (hl : lv_has ls 1 [(0, .ref (xad g o))]) (h : p_X1_goOneHour_L34 o Qf  u) : W p l e (x_rm 2 110) s m args below meth c H locs 0 0 (MQ below (x_Qv g Qf) args s 0 0 (x_A g)) (F0 m 34 ls []) := by
  unfold p_X1_goOneHour_L34 at h
  have hx := C.1
  have hb := C.2.1
  refine lv_aload_n hx hb dX1_goOneHour_34 rfl (lv_at hl 0 rfl) ?_
  refine x_getr (ci := 1) C hw 0 (xoL_0 ho) rfl inlX1 (by decide) rfl rfl (xrL_0_0 ho) xw_58 dX1_goOneHour_35 ?_
  refine x_callv hw (x_runV (ci := 7) C hw (m_X7_lookAtDepths l C.2.2.2.2.2.2.2.2.1 ho h) (xoL_1 ho) rfl (x_gV xw_1188 xw_1189 xw_1190 xw_57 xw_1191) rfl rfl qX7_lookAtDepths ⟨(Nat.le_of_ble_eq_true rfl), (Nat.le_of_ble_eq_true rfl)⟩ rfl hl.1 rfl (Nat.le_of_ble_eq_true rfl) dX1_goOneHour_38) (fun u1 H locs hw h => ?_)
  refine lv_aload_n hx hb dX1_goOneHour_41 rfl (lv_at hl 0 rfl) ?_
  refine lv_dup hx hb dX1_goOneHour_42 rfl ?_
  refine x_geti (ci := 1) C hw 8 (xoL_0 ho) rfl inlX1 (by decide) rfl rfl xw_409 dX1_goOneHour_43 ?_
  refine lv_iconst (v := 1) hx hb dX1_goOneHour_46 (by decide) ?_
  refine lv_iadd hx hb dX1_goOneHour_47 ?_
  obtain ⟨u2, eu2⟩ : ∃ q : xM, q = si u1 o 8 ((gi u1 o 8) + (1 : Int32)) := ⟨_, rfl⟩
  have h := h u2 eu2
  refine x_puti (ci := 1) (ty := .int) C hw 8 (xoL_0 ho) rfl inlX1 tyX1_ok nmX1 (by decide) rfl rfl xw_409 rfl (by decide +kernel) rfl rfl dX1_goOneHour_48 eu2 (fun H locs hw => ?_)
  exact x_vret C hw h dX1_goOneHour_51
set_option maxHeartbeats 4000000 in
set_option maxRecDepth 100000 in
theorem s_X1_goOneHour {o : Nat} {Qf : xM → Prop} (C : x_C p s m args meth c g RX1 cX1_goOneHour 1 none) (ho : xpL g o) {u : xM} {H : Heap} {locs : List Loc} {ls : Array Slot} (hw : x_W g s.heap H locs u) (hl : lv_has ls 1 [(0, .ref (xad g o))]) (h : p_X1_goOneHour o u Qf) : W p l e (x_rm 2 110) s m args below meth c H locs 0 0 (MQ below (x_Qv g Qf) args s 0 0 (x_A g)) (F0 m 0 ls []) := by
  unfold p_X1_goOneHour at h
  have hx := C.1
  have hb := C.2.1
  refine lv_aload_n hx hb dX1_goOneHour_0 rfl (lv_at hl 0 rfl) ?_
  refine x_callv hw (x_runV (ci := 1) C hw (m_X1_findSurfaces l C.2.2.2.2.2.2.2.2.1 ho h) (xoL_0 ho) rfl (x_gV xw_1168 xw_1021 xw_1022 xw_15 xw_1023) rfl rfl qX1_findSurfaces ⟨(Nat.le_of_ble_eq_true rfl), (Nat.le_of_ble_eq_true rfl)⟩ rfl hl.1 rfl (Nat.le_of_ble_eq_true rfl) dX1_goOneHour_1) (fun u1 H locs hw h => ?_)
  refine lv_aload_n hx hb dX1_goOneHour_4 rfl (lv_at hl 0 rfl) ?_
  refine x_callv hw (x_runV (ci := 1) C hw (m_X1_findFlows l C.2.2.2.2.2.2.2.2.1 ho h) (xoL_0 ho) rfl (x_gV xw_1169 xw_1028 xw_1029 xw_15 xw_1030) rfl rfl qX1_findFlows ⟨(Nat.le_of_ble_eq_true rfl), (Nat.le_of_ble_eq_true rfl)⟩ rfl hl.1 rfl (Nat.le_of_ble_eq_true rfl) dX1_goOneHour_5) (fun u2 H locs hw h => ?_)
  refine lv_aload_n hx hb dX1_goOneHour_8 rfl (lv_at hl 0 rfl) ?_
  refine x_callv hw (x_runV (ci := 1) C hw (m_X1_letThrough l C.2.2.2.2.2.2.2.2.1 ho h) (xoL_0 ho) rfl (x_gV xw_1170 xw_1171 xw_1172 xw_15 xw_1173) rfl rfl qX1_letThrough ⟨(Nat.le_of_ble_eq_true rfl), (Nat.le_of_ble_eq_true rfl)⟩ rfl hl.1 rfl (Nat.le_of_ble_eq_true rfl) dX1_goOneHour_9) (fun u3 H locs hw h => ?_)
  refine lv_aload_n hx hb dX1_goOneHour_12 rfl (lv_at hl 0 rfl) ?_
  refine x_geti (ci := 1) C hw 9 (xoL_0 ho) rfl inlX1 (by decide) rfl rfl xw_70 dX1_goOneHour_13 ?_
  refine lv_aload_n hx hb dX1_goOneHour_16 rfl (lv_at hl 0 rfl) ?_
  refine x_calli hw (x_runV (ci := 1) C hw (m_X1_hourOfDay l C.2.2.2.2.2.2.2.2.1 ho h) (xoL_0 ho) rfl (x_gV xw_1179 xw_1180 xw_1181 xw_15 xw_1182) rfl rfl qX1_hourOfDay ⟨(Nat.le_of_ble_eq_true rfl), (Nat.le_of_ble_eq_true rfl)⟩ rfl hl.1 rfl (Nat.le_of_ble_eq_true rfl) dX1_goOneHour_17) (fun r5 u4 H locs hw h => ?_)
  refine lv_ishr hx hb dX1_goOneHour_20 ?_
  refine lv_iconst (v := 1) hx hb dX1_goOneHour_21 (by decide) ?_
  refine lv_iand hx hb dX1_goOneHour_22 ?_
  refine lv_iconst (v := 1) hx hb dX1_goOneHour_23 (by decide) ?_
  refine lv_icmp_ne (tgt := 34) hx hb dX1_goOneHour_24 (by decide) (fun c6 => ?_) (fun c6 => ?_)
  · have h := h.1 c6
    exact s_X1_goOneHour_L34 C ho hw (lv_sub hl [0] rfl) h
  · have h := h.2 c6
    refine lv_aload_n hx hb dX1_goOneHour_27 rfl (lv_at hl 0 rfl) ?_
    refine x_getr (ci := 1) C hw 0 (xoL_0 ho) rfl inlX1 (by decide) rfl rfl (xrL_0_0 ho) xw_58 dX1_goOneHour_28 ?_
    refine x_callv hw (x_runV (ci := 7) C hw (m_X7_pumpOut l C.2.2.2.2.2.2.2.2.1 ho h) (xoL_1 ho) rfl (x_gV xw_1183 xw_1184 xw_1185 xw_57 xw_1186) rfl rfl qX7_pumpOut ⟨(Nat.le_of_ble_eq_true rfl), (Nat.le_of_ble_eq_true rfl)⟩ rfl hl.1 rfl (Nat.le_of_ble_eq_true rfl) dX1_goOneHour_31) (fun u7 H locs hw h => ?_)
    exact s_X1_goOneHour_L34 C ho hw (lv_sub hl [0] rfl) h
set_option maxHeartbeats 4000000 in
set_option maxRecDepth 100000 in
theorem m_X1_goOneHour (l : Launch) {g : xG} (hD : x_D g) {o : Nat} (ho : xpL g o) {u : xM} {Qf : xM → Prop} (h : p_X1_goOneHour o u Qf) : Met l yX1_goOneHour (Cond.code yX1_goOneHour cX1_goOneHour 1 none :: wsL_law) (x_rm 2 110) (va_Pc [.ref (xad g o)] (x_B g u)) (x_Qv g Qf) 0 0 (x_A g) := by
  refine Met.ofW (cc := cX1_goOneHour) (maxL := 1) (ret := none) (by decide) rfl ?_
  intro p e s m args below meth c s₁ B hml hv
  obtain ⟨rfl, hB⟩ := hv
  obtain ⟨C, hw⟩ := x_start B hml hD hB
  have hl := lv_entry [.ref (xad g o)] (n := 1) (Nat.le_of_ble_eq_true rfl)
  rw [lg_entry_eq]
  exact s_X1_goOneHour C ho hw hl h
set_option maxHeartbeats 4000000 in
set_option maxRecDepth 100000 in
theorem s_X1_goOn_L2 {o : Nat} {Qf : xM → Prop} (C : x_C p s m args meth c g RX1 cX1_goOn 3 none) (ho : xpL g o) : ∀ (nn : Nat) {v1 : Int32} {v2 : Int32} {u : xM} {H : Heap} {locs : List Loc} {ls : Array Slot} (hw : x_W g s.heap H locs u) (hl : lv_has ls 3 [(0, .ref (xad g o)), (1, .int v1), (2, .int v2)]) (h : p_X1_goOn_L2 o Qf nn v1 v2 u), W p l e (x_rm 3 130) s m args below meth c H locs 0 0 (MQ below (x_Qv g Qf) args s 0 0 (x_A g)) (F0 m 2 ls []) := by
  intro nn
  induction nn with
  | zero => intro v1 v2 u H locs ls hw hl h; exact h.elim
  | succ nn ih =>
    intro v1 v2 u H locs ls hw hl h
    unfold p_X1_goOn_L2 at h
    have hx := C.1
    have hb := C.2.1
    refine lv_iload_n hx hb dX1_goOn_2 rfl (lv_at hl 2 rfl) ?_
    refine lv_iload_n hx hb dX1_goOn_3 rfl (lv_at hl 1 rfl) ?_
    refine lv_icmp_ge (tgt := 17) hx hb dX1_goOn_4 (by decide) (fun c1 => ?_) (fun c1 => ?_)
    · have h := h.1 c1
      exact x_vret C hw h dX1_goOn_17
    · have h := h.2 c1
      refine lv_aload_n hx hb dX1_goOn_7 rfl (lv_at hl 0 rfl) ?_
      refine x_callv hw (x_runV (ci := 1) C hw (m_X1_goOneHour l C.2.2.2.2.2.2.2.2.1 ho h) (xoL_0 ho) rfl (x_gV xw_1164 xw_1165 xw_1166 xw_15 xw_1167) rfl rfl qX1_goOneHour ⟨(Nat.le_of_ble_eq_true rfl), (Nat.le_of_ble_eq_true rfl)⟩ rfl hl.1 rfl (Nat.le_of_ble_eq_true rfl) dX1_goOn_8) (fun u2 H locs hw h => ?_)
      obtain ⟨x3, ex3⟩ : ∃ y : Int32, y = v2 + 1 := ⟨_, rfl⟩
      have h := h x3 ex3
      refine lv_iinc (v := x3) (lv' := [(2, .int x3), (0, .ref (xad g o)), (1, .int v1)]) hx hb dX1_goOn_11 hl (k := 2) rfl (by rw [ex3]; rfl) (by decide) rfl (fun ls hl => ?_)
      refine lv_goto (tgt := 2) hx hb dX1_goOn_14 (by decide) ?_
      exact ih hw (lv_sub hl [1, 2, 0] rfl) h
set_option maxHeartbeats 4000000 in
set_option maxRecDepth 100000 in
theorem s_X1_goOn {o : Nat} {Qf : xM → Prop} {a1 : Int32} (C : x_C p s m args meth c g RX1 cX1_goOn 3 none) (ho : xpL g o) {u : xM} {H : Heap} {locs : List Loc} {ls : Array Slot} (hw : x_W g s.heap H locs u) (hl : lv_has ls 3 [(0, .ref (xad g o)), (1, .int a1)]) (h : p_X1_goOn o a1 u Qf) : W p l e (x_rm 3 130) s m args below meth c H locs 0 0 (MQ below (x_Qv g Qf) args s 0 0 (x_A g)) (F0 m 0 ls []) := by
  unfold p_X1_goOn at h
  have hx := C.1
  have hb := C.2.1
  refine lv_iconst (v := 0) hx hb dX1_goOn_0 (by decide) ?_
  refine lv_istore_n (lv' := [(2, .int 0), (0, .ref (xad g o)), (1, .int a1)]) hx hb dX1_goOn_1 rfl hl (by decide) rfl (fun ls hl => ?_)
  obtain ⟨n9, h⟩ := h
  exact s_X1_goOn_L2 C ho n9 hw (lv_sub hl [1, 2, 0] rfl) h
set_option maxHeartbeats 4000000 in
set_option maxRecDepth 100000 in
theorem m_X1_goOn (l : Launch) {g : xG} (hD : x_D g) {o : Nat} (ho : xpL g o) {a1 : Int32} {u : xM} {Qf : xM → Prop} (h : p_X1_goOn o a1 u Qf) : Met l yX1_goOn (Cond.code yX1_goOn cX1_goOn 3 none :: wsL_law) (x_rm 3 130) (va_Pc [.ref (xad g o), .int a1] (x_B g u)) (x_Qv g Qf) 0 0 (x_A g) := by
  refine Met.ofW (cc := cX1_goOn) (maxL := 3) (ret := none) (by decide) rfl ?_
  intro p e s m args below meth c s₁ B hml hv
  obtain ⟨rfl, hB⟩ := hv
  obtain ⟨C, hw⟩ := x_start B hml hD hB
  have hl := lv_entry [.ref (xad g o), .int a1] (n := 3) (Nat.le_of_ble_eq_true rfl)
  rw [lg_entry_eq]
  exact s_X1_goOn C ho hw hl h
set_option maxHeartbeats 4000000 in
set_option maxRecDepth 100000 in
theorem s_X10_hour {Qf : Int32 → xM → Prop} {a1 : Int32} (C : x_C p s m args meth c g RX10 cX10_hour 3 (some .int)) (hX : xpX g) {u : xM} {H : Heap} {locs : List Loc} {ls : Array Slot} (hw : x_W g s.heap H locs u) (hl : lv_has ls 3 [(0, .ref (xad g 0)), (1, .int a1)]) (h : p_X10_hour a1 u Qf) : W p l e (x_rm 4 152) s m args below meth c H locs 0 0 (MQ below (x_Qi g Qf) args s 0 0 (x_A g)) (F0 m 0 ls []) := by
  unfold p_X10_hour at h
  have hx := C.1
  have hb := C.2.1
  refine lv_iload_n hx hb dX10_hour_0 rfl (lv_at hl 1 rfl) ?_
  refine lv_iconst (v := 1) hx hb dX10_hour_1 (by decide) ?_
  refine lv_bipush (v := 99) hx hb dX10_hour_2 (by decide) ?_
  refine x_callz hw (x_runS C hw (m_X10_isWithin l C.2.2.2.2.2.2.2.2.1  h) (x_gS xw_280 xw_281 xw_2 xw_282) rfl rfl qX10_isWithin ⟨(Nat.le_of_ble_eq_true rfl), (Nat.le_of_ble_eq_true rfl)⟩ rfl hl.1 rfl (Nat.le_of_ble_eq_true rfl) dX10_hour_4) (fun r2 u1 H locs hw h => ?_)
  refine lv_if_ne (tgt := 16) hx hb dX10_hour_7 (by decide) (fun c3 => ?_) (fun c3 => ?_)
  · have h := h.1 (xb_t c3)
    refine lv_aload_n hx hb dX10_hour_16 rfl (lv_at hl 0 rfl) ?_
    refine x_getr (ci := 10) C hw 0 (xoX_0 hX) rfl inlX10 (by decide) rfl rfl xrX_0_0 xw_16 dX10_hour_17 ?_
    refine x_geti (ci := 1) C hw 8 (xoL_0 (xpL_83 hX)) rfl inlX1 (by decide) rfl rfl xw_861 dX10_hour_20 ?_
    refine lv_iload_n hx hb dX10_hour_23 rfl (lv_at hl 1 rfl) ?_
    refine lv_iadd hx hb dX10_hour_24 ?_
    refine lv_sipush (v := 9999) hx hb dX10_hour_25 (by decide) ?_
    refine lv_icmp_le (tgt := 37) hx hb dX10_hour_28 (by decide) (fun c4 => ?_) (fun c4 => ?_)
    · have h := h.1 c4
      refine lv_aload_n hx hb dX10_hour_37 rfl (lv_at hl 0 rfl) ?_
      refine x_getr (ci := 10) C hw 0 (xoX_0 hX) rfl inlX10 (by decide) rfl rfl xrX_0_0 xw_16 dX10_hour_38 ?_
      refine x_getr (ci := 1) C hw 0 (xoL_0 (xpL_83 hX)) rfl inlX1 (by decide) rfl rfl (xrL_0_0 (xpL_83 hX)) xw_858 dX10_hour_41 ?_
      refine x_geti (ci := 7) C hw 1 (xoL_1 (xpL_83 hX)) rfl inlX7 (by decide) rfl rfl xw_862 dX10_hour_44 ?_
      refine lv_topi (fun x5 ex5 => ?_)
      have h := h x5 ex5
      refine lv_istore_n (lv' := [(2, .int x5), (0, .ref (xad g 0)), (1, .int a1)]) hx hb dX10_hour_47 rfl hl (by decide) rfl (fun ls hl => ?_)
      refine lv_aload_n hx hb dX10_hour_48 rfl (lv_at hl 1 rfl) ?_
      refine x_getr (ci := 10) C hw 0 (xoX_0 hX) rfl inlX10 (by decide) rfl rfl xrX_0_0 xw_16 dX10_hour_49 ?_
      refine lv_iload_n hx hb dX10_hour_52 rfl (lv_at hl 2 rfl) ?_
      refine x_callv hw (x_runV (ci := 1) C hw (m_X1_goOn l C.2.2.2.2.2.2.2.2.1 (xpL_83 hX) h) (xoL_0 (xpL_83 hX)) rfl (x_gV xw_1160 xw_1161 xw_1162 xw_15 xw_1163) rfl rfl qX1_goOn ⟨(Nat.le_of_ble_eq_true rfl), (Nat.le_of_ble_eq_true rfl)⟩ rfl hl.1 rfl (Nat.le_of_ble_eq_true rfl) dX10_hour_53) (fun u6 H locs hw h => ?_)
      refine lv_aload_n hx hb dX10_hour_56 rfl (lv_at hl 1 rfl) ?_
      refine lv_aload_n hx hb dX10_hour_57 rfl (lv_at hl 1 rfl) ?_
      refine x_getr (ci := 10) C hw 0 (xoX_0 hX) rfl inlX10 (by decide) rfl rfl xrX_0_0 xw_16 dX10_hour_58 ?_
      refine x_getr (ci := 1) C hw 0 (xoL_0 (xpL_83 hX)) rfl inlX1 (by decide) rfl rfl (xrL_0_0 (xpL_83 hX)) xw_858 dX10_hour_61 ?_
      refine x_geti (ci := 7) C hw 1 (xoL_1 (xpL_83 hX)) rfl inlX7 (by decide) rfl rfl xw_862 dX10_hour_64 ?_
      refine lv_iload_n hx hb dX10_hour_67 rfl (lv_at hl 0 rfl) ?_
      refine lv_iconst (v := -1) hx hb dX10_hour_68 (by decide) ?_
      refine lv_ixor hx hb dX10_hour_69 ?_
      refine lv_iand hx hb dX10_hour_70 ?_
      refine x_calli hw (x_runV (ci := 10) C hw (m_X10_fine l C.2.2.2.2.2.2.2.2.1 hX h) (xoX_0 hX) rfl (x_gV xw_622 xw_623 xw_624 xw_2 xw_625) rfl rfl qX10_fine ⟨(Nat.le_of_ble_eq_true rfl), (Nat.le_of_ble_eq_true rfl)⟩ rfl hl.1 rfl (Nat.le_of_ble_eq_true rfl) dX10_hour_71) (fun r8 u7 H locs hw h => ?_)
      exact x_iret C hw h dX10_hour_74
    · have h := h.2 c4
      refine lv_aload_n hx hb dX10_hour_31 rfl (lv_at hl 0 rfl) ?_
      refine lv_iconst (v := 4) hx hb dX10_hour_32 (by decide) ?_
      refine x_calli hw (x_runV (ci := 10) C hw (m_X10_none l C.2.2.2.2.2.2.2.2.1 hX h) (xoX_0 hX) rfl (x_gV xw_343 xw_344 xw_345 xw_2 xw_346) rfl rfl qX10_none ⟨(Nat.le_of_ble_eq_true rfl), (Nat.le_of_ble_eq_true rfl)⟩ rfl hl.1 rfl (Nat.le_of_ble_eq_true rfl) dX10_hour_33) (fun r10 u9 H locs hw h => ?_)
      exact x_iret C hw h dX10_hour_36
  · have h := h.2 (xb_f c3)
    refine lv_aload_n hx hb dX10_hour_10 rfl (lv_at hl 0 rfl) ?_
    refine lv_iconst (v := 1) hx hb dX10_hour_11 (by decide) ?_
    refine x_calli hw (x_runV (ci := 10) C hw (m_X10_none l C.2.2.2.2.2.2.2.2.1 hX h) (xoX_0 hX) rfl (x_gV xw_343 xw_344 xw_345 xw_2 xw_346) rfl rfl qX10_none ⟨(Nat.le_of_ble_eq_true rfl), (Nat.le_of_ble_eq_true rfl)⟩ rfl hl.1 rfl (Nat.le_of_ble_eq_true rfl) dX10_hour_12) (fun r12 u11 H locs hw h => ?_)
    exact x_iret C hw h dX10_hour_15
set_option maxHeartbeats 4000000 in
set_option maxRecDepth 100000 in
theorem m_X10_hour (l : Launch) {g : xG} (hD : x_D g) (hX : xpX g) {a1 : Int32} {u : xM} {Qf : Int32 → xM → Prop} (h : p_X10_hour a1 u Qf) : Met l yX10_hour (Cond.code yX10_hour cX10_hour 3 (some .int) :: wsL_law) (x_rm 4 152) (va_Pc [.ref (xad g 0), .int a1] (x_B g u)) (x_Qi g Qf) 0 0 (x_A g) := by
  refine Met.ofW (cc := cX10_hour) (maxL := 3) (ret := (some .int)) (by decide) rfl ?_
  intro p e s m args below meth c s₁ B hml hv
  obtain ⟨rfl, hB⟩ := hv
  obtain ⟨C, hw⟩ := x_start B hml hD hB
  have hl := lv_entry [.ref (xad g 0), .int a1] (n := 3) (Nat.le_of_ble_eq_true rfl)
  rw [lg_entry_eq]
  exact s_X10_hour C hX hw hl h
set_option maxHeartbeats 4000000 in
set_option maxRecDepth 100000 in
theorem s_X0_isHeld {o : Nat} {Qf : Bool → xM → Prop} {a1 : Int32} (C : x_C p s m args meth c g RX0 cX0_isHeld 2 (some .boolean)) (ho : xpL g o) {u : xM} {H : Heap} {locs : List Loc} {ls : Array Slot} (hw : x_W g s.heap H locs u) (hl : lv_has ls 2 [(0, .ref (xad g (o + 9))), (1, .int a1)]) (h : p_X0_isHeld o a1 u Qf) : W p l e (x_rm 0 0) s m args below meth c H locs 0 0 (MQ below (x_Qz g Qf) args s 0 0 (x_A g)) (F0 m 0 ls []) := by
  unfold p_X0_isHeld at h
  have hx := C.1
  have hb := C.2.1
  refine lv_aload_n hx hb dX0_isHeld_0 rfl (lv_at hl 0 rfl) ?_
  refine x_geti (ci := 0) C hw 1 (xoL_9 ho) rfl inlX0 (by decide) rfl rfl xw_421 dX0_isHeld_1 ?_
  refine lv_iload_n hx hb dX0_isHeld_4 rfl (lv_at hl 1 rfl) ?_
  refine lv_ishr hx hb dX0_isHeld_5 ?_
  refine lv_iconst (v := 1) hx hb dX0_isHeld_6 (by decide) ?_
  refine lv_iand hx hb dX0_isHeld_7 ?_
  refine lv_iconst (v := 1) hx hb dX0_isHeld_8 (by decide) ?_
  refine lv_icmp_ne (tgt := 16) hx hb dX0_isHeld_9 (by decide) (fun c1 => ?_) (fun c1 => ?_)
  · have h := h.1 c1
    refine lv_iconst (v := 0) hx hb dX0_isHeld_16 (by decide) ?_
    exact x_zret false C hw h rfl dX0_isHeld_17
  · have h := h.2 c1
    refine lv_iconst (v := 1) hx hb dX0_isHeld_12 (by decide) ?_
    refine lv_goto (tgt := 17) hx hb dX0_isHeld_13 (by decide) ?_
    exact x_zret true C hw h rfl dX0_isHeld_17
set_option maxHeartbeats 4000000 in
set_option maxRecDepth 100000 in
theorem m_X0_isHeld (l : Launch) {g : xG} (hD : x_D g) {o : Nat} (ho : xpL g o) {a1 : Int32} {u : xM} {Qf : Bool → xM → Prop} (h : p_X0_isHeld o a1 u Qf) : Met l yX0_isHeld (Cond.code yX0_isHeld cX0_isHeld 2 (some .boolean) :: wsL_law) (x_rm 0 0) (va_Pc [.ref (xad g (o + 9)), .int a1] (x_B g u)) (x_Qz g Qf) 0 0 (x_A g) := by
  refine Met.ofW (cc := cX0_isHeld) (maxL := 2) (ret := (some .boolean)) (by decide) rfl ?_
  intro p e s m args below meth c s₁ B hml hv
  obtain ⟨rfl, hB⟩ := hv
  obtain ⟨C, hw⟩ := x_start B hml hD hB
  have hl := lv_entry [.ref (xad g (o + 9)), .int a1] (n := 2) (Nat.le_of_ble_eq_true rfl)
  rw [lg_entry_eq]
  exact s_X0_isHeld C ho hw hl h
set_option maxHeartbeats 4000000 in
set_option maxRecDepth 100000 in
theorem s_X10_hold {Qf : Bool → xM → Prop} {a1 : Int32} {a2 : Bool} (C : x_C p s m args meth c g RX10 cX10_hold 3 (some .boolean)) (hX : xpX g) {u : xM} {H : Heap} {locs : List Loc} {ls : Array Slot} (hw : x_W g s.heap H locs u) (hl : lv_has ls 3 [(0, .ref (xad g 0)), (1, .int a1), (2, .int (xb a2))]) (h : p_X10_hold a1 a2 u Qf) : W p l e (x_rm 1 21) s m args below meth c H locs 0 0 (MQ below (x_Qz g Qf) args s 0 0 (x_A g)) (F0 m 0 ls []) := by
  unfold p_X10_hold at h
  have hx := C.1
  have hb := C.2.1
  refine lv_aload_n hx hb dX10_hold_0 rfl (lv_at hl 0 rfl) ?_
  refine lv_iload_n hx hb dX10_hold_1 rfl (lv_at hl 1 rfl) ?_
  refine x_callz hw (x_runV (ci := 10) C hw (m_X10_isDoor l C.2.2.2.2.2.2.2.2.1 hX h) (xoX_0 hX) rfl (x_gV xw_962 xw_963 xw_964 xw_2 xw_965) rfl rfl qX10_isDoor ⟨(Nat.le_of_ble_eq_true rfl), (Nat.le_of_ble_eq_true rfl)⟩ rfl hl.1 rfl (Nat.le_of_ble_eq_true rfl) dX10_hold_2) (fun r2 u1 H locs hw h => ?_)
  refine lv_if_ne (tgt := 14) hx hb dX10_hold_5 (by decide) (fun c3 => ?_) (fun c3 => ?_)
  · have h := h.1 (xb_t c3)
    refine lv_aload_n hx hb dX10_hold_14 rfl (lv_at hl 0 rfl) ?_
    refine x_getr (ci := 10) C hw 0 (xoX_0 hX) rfl inlX10 (by decide) rfl rfl xrX_0_0 xw_16 dX10_hold_15 ?_
    refine x_getr (ci := 1) C hw 1 (xoL_0 (xpL_83 hX)) rfl inlX1 (by decide) rfl rfl (xrL_0_1 (xpL_83 hX)) xw_398 dX10_hold_18 ?_
    refine lv_iload_n hx hb dX10_hold_21 rfl (lv_at hl 1 rfl) ?_
    refine x_callz hw (x_runV (ci := 0) C hw (m_X0_isHeld l C.2.2.2.2.2.2.2.2.1 (xpL_83 hX) h) (xoL_9 (xpL_83 hX)) rfl (x_gV xw_1217 xw_1218 xw_1219 xw_61 xw_1220) rfl rfl qX0_isHeld ⟨(Nat.le_of_ble_eq_true rfl), (Nat.le_of_ble_eq_true rfl)⟩ rfl hl.1 rfl (Nat.le_of_ble_eq_true rfl) dX10_hold_22) (fun r5 u4 H locs hw h => ?_)
    refine lv_iload_n hx hb dX10_hold_25 rfl (lv_at hl 2 rfl) ?_
    refine lv_icmp_ne (tgt := 36) hx hb dX10_hold_26 (by decide) (fun c6 => ?_) (fun c6 => ?_)
    · have h := h.1 c6
      refine lv_aload_n hx hb dX10_hold_36 rfl (lv_at hl 0 rfl) ?_
      refine x_getr (ci := 10) C hw 0 (xoX_0 hX) rfl inlX10 (by decide) rfl rfl xrX_0_0 xw_16 dX10_hold_37 ?_
      refine x_getr (ci := 1) C hw 1 (xoL_0 (xpL_83 hX)) rfl inlX1 (by decide) rfl rfl (xrL_0_1 (xpL_83 hX)) xw_398 dX10_hold_40 ?_
      refine lv_dup hx hb dX10_hold_43 rfl ?_
      refine x_geti (ci := 0) C hw 1 (xoL_9 (xpL_83 hX)) rfl inlX0 (by decide) rfl rfl xw_863 dX10_hold_44 ?_
      refine lv_iconst (v := 1) hx hb dX10_hold_47 (by decide) ?_
      refine lv_iload_n hx hb dX10_hold_48 rfl (lv_at hl 1 rfl) ?_
      refine lv_ishl hx hb dX10_hold_49 ?_
      refine lv_ixor hx hb dX10_hold_50 ?_
      obtain ⟨u7, eu7⟩ : ∃ q : xM, q = si u4 92 1 ((gi u4 92 1) ^^^ ((1 : Int32) <<< (a1 &&& 31))) := ⟨_, rfl⟩
      have h := h u7 eu7
      refine x_puti (ci := 0) (ty := .int) C hw 1 (xoL_9 (xpL_83 hX)) rfl inlX0 tyX0_ok nmX0 (by decide) rfl rfl xw_863 rfl (by decide +kernel) rfl rfl dX10_hold_51 eu7 (fun H locs hw => ?_)
      refine lv_aload_n hx hb dX10_hold_54 rfl (lv_at hl 0 rfl) ?_
      refine x_callz hw (x_runV (ci := 10) C hw (m_X10_done l C.2.2.2.2.2.2.2.2.1 hX h) (xoX_0 hX) rfl (x_gV xw_292 xw_293 xw_294 xw_2 xw_295) rfl rfl qX10_done ⟨(Nat.le_of_ble_eq_true rfl), (Nat.le_of_ble_eq_true rfl)⟩ rfl hl.1 rfl (Nat.le_of_ble_eq_true rfl) dX10_hold_55) (fun r9 u8 H locs hw h => ?_)
      exact x_zret _ C hw h rfl dX10_hold_58
    · have h := h.2 c6
      refine lv_aload_n hx hb dX10_hold_29 rfl (lv_at hl 0 rfl) ?_
      refine lv_bipush (v := 7) hx hb dX10_hold_30 (by decide) ?_
      refine x_callz hw (x_runV (ci := 10) C hw (m_X10_refused l C.2.2.2.2.2.2.2.2.1 hX h) (xoX_0 hX) rfl (x_gV xw_283 xw_284 xw_285 xw_2 xw_286) rfl rfl qX10_refused ⟨(Nat.le_of_ble_eq_true rfl), (Nat.le_of_ble_eq_true rfl)⟩ rfl hl.1 rfl (Nat.le_of_ble_eq_true rfl) dX10_hold_32) (fun r11 u10 H locs hw h => ?_)
      exact x_zret _ C hw h rfl dX10_hold_35
  · have h := h.2 (xb_f c3)
    refine lv_aload_n hx hb dX10_hold_8 rfl (lv_at hl 0 rfl) ?_
    refine lv_iconst (v := 1) hx hb dX10_hold_9 (by decide) ?_
    refine x_callz hw (x_runV (ci := 10) C hw (m_X10_refused l C.2.2.2.2.2.2.2.2.1 hX h) (xoX_0 hX) rfl (x_gV xw_283 xw_284 xw_285 xw_2 xw_286) rfl rfl qX10_refused ⟨(Nat.le_of_ble_eq_true rfl), (Nat.le_of_ble_eq_true rfl)⟩ rfl hl.1 rfl (Nat.le_of_ble_eq_true rfl) dX10_hold_10) (fun r13 u12 H locs hw h => ?_)
    exact x_zret _ C hw h rfl dX10_hold_13
set_option maxHeartbeats 4000000 in
set_option maxRecDepth 100000 in
theorem m_X10_hold (l : Launch) {g : xG} (hD : x_D g) (hX : xpX g) {a1 : Int32} {a2 : Bool} {u : xM} {Qf : Bool → xM → Prop} (h : p_X10_hold a1 a2 u Qf) : Met l yX10_hold (Cond.code yX10_hold cX10_hold 3 (some .boolean) :: wsL_law) (x_rm 1 21) (va_Pc [.ref (xad g 0), .int a1, .int (xb a2)] (x_B g u)) (x_Qz g Qf) 0 0 (x_A g) := by
  refine Met.ofW (cc := cX10_hold) (maxL := 3) (ret := (some .boolean)) (by decide) rfl ?_
  intro p e s m args below meth c s₁ B hml hv
  obtain ⟨rfl, hB⟩ := hv
  obtain ⟨C, hw⟩ := x_start B hml hD hB
  have hl := lv_entry [.ref (xad g 0), .int a1, .int (xb a2)] (n := 3) (Nat.le_of_ble_eq_true rfl)
  rw [lg_entry_eq]
  exact s_X10_hold C hX hw hl h
set_option maxHeartbeats 4000000 in
set_option maxRecDepth 100000 in
theorem s_X10_wall {Qf : Bool → xM → Prop} {a1 : Int32} {a2 : Bool} (C : x_C p s m args meth c g RX10 cX10_wall 3 (some .boolean)) (hX : xpX g) {u : xM} {H : Heap} {locs : List Loc} {ls : Array Slot} (hw : x_W g s.heap H locs u) (hl : lv_has ls 3 [(0, .ref (xad g 0)), (1, .int a1), (2, .int (xb a2))]) (h : p_X10_wall a1 a2 u Qf) : W p l e (x_rm 1 21) s m args below meth c H locs 0 0 (MQ below (x_Qz g Qf) args s 0 0 (x_A g)) (F0 m 0 ls []) := by
  unfold p_X10_wall at h
  have hx := C.1
  have hb := C.2.1
  refine lv_aload_n hx hb dX10_wall_0 rfl (lv_at hl 0 rfl) ?_
  refine lv_iload_n hx hb dX10_wall_1 rfl (lv_at hl 1 rfl) ?_
  refine x_callz hw (x_runV (ci := 10) C hw (m_X10_isDoor l C.2.2.2.2.2.2.2.2.1 hX h) (xoX_0 hX) rfl (x_gV xw_962 xw_963 xw_964 xw_2 xw_965) rfl rfl qX10_isDoor ⟨(Nat.le_of_ble_eq_true rfl), (Nat.le_of_ble_eq_true rfl)⟩ rfl hl.1 rfl (Nat.le_of_ble_eq_true rfl) dX10_wall_2) (fun r2 u1 H locs hw h => ?_)
  refine lv_if_ne (tgt := 14) hx hb dX10_wall_5 (by decide) (fun c3 => ?_) (fun c3 => ?_)
  · have h := h.1 (xb_t c3)
    refine lv_aload_n hx hb dX10_wall_14 rfl (lv_at hl 0 rfl) ?_
    refine x_getr (ci := 10) C hw 0 (xoX_0 hX) rfl inlX10 (by decide) rfl rfl xrX_0_0 xw_16 dX10_wall_15 ?_
    refine x_getr (ci := 1) C hw 1 (xoL_0 (xpL_83 hX)) rfl inlX1 (by decide) rfl rfl (xrL_0_1 (xpL_83 hX)) xw_398 dX10_wall_18 ?_
    refine lv_iload_n hx hb dX10_wall_21 rfl (lv_at hl 1 rfl) ?_
    refine x_callz hw (x_runV (ci := 0) C hw (m_X0_isWalled l C.2.2.2.2.2.2.2.2.1 (xpL_83 hX) h) (xoL_9 (xpL_83 hX)) rfl (x_gV xw_1233 xw_1045 xw_1046 xw_61 xw_1047) rfl rfl qX0_isWalled ⟨(Nat.le_of_ble_eq_true rfl), (Nat.le_of_ble_eq_true rfl)⟩ rfl hl.1 rfl (Nat.le_of_ble_eq_true rfl) dX10_wall_22) (fun r5 u4 H locs hw h => ?_)
    refine lv_iload_n hx hb dX10_wall_25 rfl (lv_at hl 2 rfl) ?_
    refine lv_icmp_ne (tgt := 36) hx hb dX10_wall_26 (by decide) (fun c6 => ?_) (fun c6 => ?_)
    · have h := h.1 c6
      refine lv_aload_n hx hb dX10_wall_36 rfl (lv_at hl 0 rfl) ?_
      refine x_getr (ci := 10) C hw 0 (xoX_0 hX) rfl inlX10 (by decide) rfl rfl xrX_0_0 xw_16 dX10_wall_37 ?_
      refine x_getr (ci := 1) C hw 1 (xoL_0 (xpL_83 hX)) rfl inlX1 (by decide) rfl rfl (xrL_0_1 (xpL_83 hX)) xw_398 dX10_wall_40 ?_
      refine lv_dup hx hb dX10_wall_43 rfl ?_
      refine x_geti (ci := 0) C hw 2 (xoL_9 (xpL_83 hX)) rfl inlX0 (by decide) rfl rfl xw_864 dX10_wall_44 ?_
      refine lv_iconst (v := 1) hx hb dX10_wall_47 (by decide) ?_
      refine lv_iload_n hx hb dX10_wall_48 rfl (lv_at hl 1 rfl) ?_
      refine lv_ishl hx hb dX10_wall_49 ?_
      refine lv_ixor hx hb dX10_wall_50 ?_
      obtain ⟨u7, eu7⟩ : ∃ q : xM, q = si u4 92 2 ((gi u4 92 2) ^^^ ((1 : Int32) <<< (a1 &&& 31))) := ⟨_, rfl⟩
      have h := h u7 eu7
      refine x_puti (ci := 0) (ty := .int) C hw 2 (xoL_9 (xpL_83 hX)) rfl inlX0 tyX0_ok nmX0 (by decide) rfl rfl xw_864 rfl (by decide +kernel) rfl rfl dX10_wall_51 eu7 (fun H locs hw => ?_)
      refine lv_aload_n hx hb dX10_wall_54 rfl (lv_at hl 0 rfl) ?_
      refine x_callz hw (x_runV (ci := 10) C hw (m_X10_done l C.2.2.2.2.2.2.2.2.1 hX h) (xoX_0 hX) rfl (x_gV xw_292 xw_293 xw_294 xw_2 xw_295) rfl rfl qX10_done ⟨(Nat.le_of_ble_eq_true rfl), (Nat.le_of_ble_eq_true rfl)⟩ rfl hl.1 rfl (Nat.le_of_ble_eq_true rfl) dX10_wall_55) (fun r9 u8 H locs hw h => ?_)
      exact x_zret _ C hw h rfl dX10_wall_58
    · have h := h.2 c6
      refine lv_aload_n hx hb dX10_wall_29 rfl (lv_at hl 0 rfl) ?_
      refine lv_bipush (v := 7) hx hb dX10_wall_30 (by decide) ?_
      refine x_callz hw (x_runV (ci := 10) C hw (m_X10_refused l C.2.2.2.2.2.2.2.2.1 hX h) (xoX_0 hX) rfl (x_gV xw_283 xw_284 xw_285 xw_2 xw_286) rfl rfl qX10_refused ⟨(Nat.le_of_ble_eq_true rfl), (Nat.le_of_ble_eq_true rfl)⟩ rfl hl.1 rfl (Nat.le_of_ble_eq_true rfl) dX10_wall_32) (fun r11 u10 H locs hw h => ?_)
      exact x_zret _ C hw h rfl dX10_wall_35
  · have h := h.2 (xb_f c3)
    refine lv_aload_n hx hb dX10_wall_8 rfl (lv_at hl 0 rfl) ?_
    refine lv_iconst (v := 1) hx hb dX10_wall_9 (by decide) ?_
    refine x_callz hw (x_runV (ci := 10) C hw (m_X10_refused l C.2.2.2.2.2.2.2.2.1 hX h) (xoX_0 hX) rfl (x_gV xw_283 xw_284 xw_285 xw_2 xw_286) rfl rfl qX10_refused ⟨(Nat.le_of_ble_eq_true rfl), (Nat.le_of_ble_eq_true rfl)⟩ rfl hl.1 rfl (Nat.le_of_ble_eq_true rfl) dX10_wall_10) (fun r13 u12 H locs hw h => ?_)
    exact x_zret _ C hw h rfl dX10_wall_13
set_option maxHeartbeats 4000000 in
set_option maxRecDepth 100000 in
theorem m_X10_wall (l : Launch) {g : xG} (hD : x_D g) (hX : xpX g) {a1 : Int32} {a2 : Bool} {u : xM} {Qf : Bool → xM → Prop} (h : p_X10_wall a1 a2 u Qf) : Met l yX10_wall (Cond.code yX10_wall cX10_wall 3 (some .boolean) :: wsL_law) (x_rm 1 21) (va_Pc [.ref (xad g 0), .int a1, .int (xb a2)] (x_B g u)) (x_Qz g Qf) 0 0 (x_A g) := by
  refine Met.ofW (cc := cX10_wall) (maxL := 3) (ret := (some .boolean)) (by decide) rfl ?_
  intro p e s m args below meth c s₁ B hml hv
  obtain ⟨rfl, hB⟩ := hv
  obtain ⟨C, hw⟩ := x_start B hml hD hB
  have hl := lv_entry [.ref (xad g 0), .int a1, .int (xb a2)] (n := 3) (Nat.le_of_ble_eq_true rfl)
  rw [lg_entry_eq]
  exact s_X10_wall C hX hw hl h
set_option maxHeartbeats 4000000 in
set_option maxRecDepth 100000 in
theorem s_X10_bail {Qf : Int32 → xM → Prop} {a1 : Int32} {a2 : Int32} (C : x_C p s m args meth c g RX10 cX10_bail 3 (some .int)) (hX : xpX g) {u : xM} {H : Heap} {locs : List Loc} {ls : Array Slot} (hw : x_W g s.heap H locs u) (hl : lv_has ls 3 [(0, .ref (xad g 0)), (1, .int a1), (2, .int a2)]) (h : p_X10_bail a1 a2 u Qf) : W p l e (x_rm 1 22) s m args below meth c H locs 0 0 (MQ below (x_Qi g Qf) args s 0 0 (x_A g)) (F0 m 0 ls []) := by
  unfold p_X10_bail at h
  have hx := C.1
  have hb := C.2.1
  refine lv_aload_n hx hb dX10_bail_0 rfl (lv_at hl 0 rfl) ?_
  refine lv_iload_n hx hb dX10_bail_1 rfl (lv_at hl 1 rfl) ?_
  refine x_callz hw (x_runV (ci := 10) C hw (m_X10_isRoom l C.2.2.2.2.2.2.2.2.1 hX h) (xoX_0 hX) rfl (x_gV xw_936 xw_937 xw_938 xw_2 xw_939) rfl rfl qX10_isRoom ⟨(Nat.le_of_ble_eq_true rfl), (Nat.le_of_ble_eq_true rfl)⟩ rfl hl.1 rfl (Nat.le_of_ble_eq_true rfl) dX10_bail_2) (fun r2 u1 H locs hw h => ?_)
  refine lv_if_eq (tgt := 19) hx hb dX10_bail_5 (by decide) (fun c3 => ?_) (fun c3 => ?_)
  · have h := h.1 (xb_f c3)
    refine lv_aload_n hx hb dX10_bail_19 rfl (lv_at hl 0 rfl) ?_
    refine lv_iconst (v := 1) hx hb dX10_bail_20 (by decide) ?_
    refine x_calli hw (x_runV (ci := 10) C hw (m_X10_none l C.2.2.2.2.2.2.2.2.1 hX h) (xoX_0 hX) rfl (x_gV xw_343 xw_344 xw_345 xw_2 xw_346) rfl rfl qX10_none ⟨(Nat.le_of_ble_eq_true rfl), (Nat.le_of_ble_eq_true rfl)⟩ rfl hl.1 rfl (Nat.le_of_ble_eq_true rfl) dX10_bail_21) (fun r5 u4 H locs hw h => ?_)
    exact x_iret C hw h dX10_bail_24
  · have h := h.2 (xb_t c3)
    refine lv_iload_n hx hb dX10_bail_8 rfl (lv_at hl 2 rfl) ?_
    refine lv_iconst (v := 1) hx hb dX10_bail_9 (by decide) ?_
    refine lv_sipush (v := 999) hx hb dX10_bail_10 (by decide) ?_
    refine x_callz hw (x_runS C hw (m_X10_isWithin l C.2.2.2.2.2.2.2.2.1  h) (x_gS xw_280 xw_281 xw_2 xw_282) rfl rfl qX10_isWithin ⟨(Nat.le_of_ble_eq_true rfl), (Nat.le_of_ble_eq_true rfl)⟩ rfl hl.1 rfl (Nat.le_of_ble_eq_true rfl) dX10_bail_13) (fun r7 u6 H locs hw h => ?_)
    refine lv_if_ne (tgt := 25) hx hb dX10_bail_16 (by decide) (fun c8 => ?_) (fun c8 => ?_)
    · have h := h.1 (xb_t c8)
      refine lv_aload_n hx hb dX10_bail_25 rfl (lv_at hl 0 rfl) ?_
      refine x_getr (ci := 10) C hw 0 (xoX_0 hX) rfl inlX10 (by decide) rfl rfl xrX_0_0 xw_16 dX10_bail_26 ?_
      refine x_getr (ci := 1) C hw 0 (xoL_0 (xpL_83 hX)) rfl inlX1 (by decide) rfl rfl (xrL_0_0 (xpL_83 hX)) xw_858 dX10_bail_29 ?_
      refine x_getr (ci := 7) C hw 7 (xoL_1 (xpL_83 hX)) rfl inlX7 (by decide) rfl rfl (xrL_1_7 (xpL_83 hX)) xw_934 dX10_bail_32 ?_
      refine lv_iload_n hx hb dX10_bail_35 rfl (lv_at hl 1 rfl) ?_
      have c9 := h.1
      have h := h.2
      refine x_iald C hw (xoL_7 (xpL_83 hX)) c9 dX10_bail_36 ?_
      refine lv_iload_n hx hb dX10_bail_37 rfl (lv_at hl 2 rfl) ?_
      refine lv_icmp_ge (tgt := 48) hx hb dX10_bail_38 (by decide) (fun c10 => ?_) (fun c10 => ?_)
      · have h := h.1 c10
        refine lv_aload_n hx hb dX10_bail_48 rfl (lv_at hl 0 rfl) ?_
        refine x_getr (ci := 10) C hw 0 (xoX_0 hX) rfl inlX10 (by decide) rfl rfl xrX_0_0 xw_16 dX10_bail_49 ?_
        refine x_getr (ci := 1) C hw 0 (xoL_0 (xpL_83 hX)) rfl inlX1 (by decide) rfl rfl (xrL_0_0 (xpL_83 hX)) xw_858 dX10_bail_52 ?_
        refine x_getr (ci := 7) C hw 7 (xoL_1 (xpL_83 hX)) rfl inlX7 (by decide) rfl rfl (xrL_1_7 (xpL_83 hX)) xw_934 dX10_bail_55 ?_
        refine lv_iload_n hx hb dX10_bail_58 rfl (lv_at hl 1 rfl) ?_
        refine lv_dup2_11 hx hb dX10_bail_59 rfl rfl ?_
        have c11 := h.1
        have h := h.2
        refine x_iald C hw (xoL_7 (xpL_83 hX)) c11 dX10_bail_60 ?_
        refine lv_iload_n hx hb dX10_bail_61 rfl (lv_at hl 2 rfl) ?_
        refine lv_isub hx hb dX10_bail_62 ?_
        have c12 := h.1
        have h := h.2
        obtain ⟨u13, eu13⟩ : ∃ q : xM, q = si u6 90 a1.toNatClampNeg ((gi u6 90 a1.toNatClampNeg) - a2) := ⟨_, rfl⟩
        have h := h u13 eu13
        refine x_iast C hw (xoL_7 (xpL_83 hX)) c12 dX10_bail_63 eu13 (fun H locs hw => ?_)
        refine lv_aload_n hx hb dX10_bail_64 rfl (lv_at hl 0 rfl) ?_
        refine lv_aload_n hx hb dX10_bail_65 rfl (lv_at hl 0 rfl) ?_
        refine x_getr (ci := 10) C hw 0 (xoX_0 hX) rfl inlX10 (by decide) rfl rfl xrX_0_0 xw_16 dX10_bail_66 ?_
        refine x_getr (ci := 1) C hw 0 (xoL_0 (xpL_83 hX)) rfl inlX1 (by decide) rfl rfl (xrL_0_0 (xpL_83 hX)) xw_858 dX10_bail_69 ?_
        refine x_getr (ci := 7) C hw 7 (xoL_1 (xpL_83 hX)) rfl inlX7 (by decide) rfl rfl (xrL_1_7 (xpL_83 hX)) xw_934 dX10_bail_72 ?_
        refine lv_iload_n hx hb dX10_bail_75 rfl (lv_at hl 1 rfl) ?_
        have c14 := h.1
        have h := h.2
        refine x_iald C hw (xoL_7 (xpL_83 hX)) c14 dX10_bail_76 ?_
        refine x_calli hw (x_runV (ci := 10) C hw (m_X10_fine l C.2.2.2.2.2.2.2.2.1 hX h) (xoX_0 hX) rfl (x_gV xw_622 xw_623 xw_624 xw_2 xw_625) rfl rfl qX10_fine ⟨(Nat.le_of_ble_eq_true rfl), (Nat.le_of_ble_eq_true rfl)⟩ rfl hl.1 rfl (Nat.le_of_ble_eq_true rfl) dX10_bail_77) (fun r16 u15 H locs hw h => ?_)
        exact x_iret C hw h dX10_bail_80
      · have h := h.2 c10
        refine lv_aload_n hx hb dX10_bail_41 rfl (lv_at hl 0 rfl) ?_
        refine lv_bipush (v := 7) hx hb dX10_bail_42 (by decide) ?_
        refine x_calli hw (x_runV (ci := 10) C hw (m_X10_none l C.2.2.2.2.2.2.2.2.1 hX h) (xoX_0 hX) rfl (x_gV xw_343 xw_344 xw_345 xw_2 xw_346) rfl rfl qX10_none ⟨(Nat.le_of_ble_eq_true rfl), (Nat.le_of_ble_eq_true rfl)⟩ rfl hl.1 rfl (Nat.le_of_ble_eq_true rfl) dX10_bail_44) (fun r18 u17 H locs hw h => ?_)
        exact x_iret C hw h dX10_bail_47
    · have h := h.2 (xb_f c8)
      refine lv_aload_n hx hb dX10_bail_19 rfl (lv_at hl 0 rfl) ?_
      refine lv_iconst (v := 1) hx hb dX10_bail_20 (by decide) ?_
      refine x_calli hw (x_runV (ci := 10) C hw (m_X10_none l C.2.2.2.2.2.2.2.2.1 hX h) (xoX_0 hX) rfl (x_gV xw_343 xw_344 xw_345 xw_2 xw_346) rfl rfl qX10_none ⟨(Nat.le_of_ble_eq_true rfl), (Nat.le_of_ble_eq_true rfl)⟩ rfl hl.1 rfl (Nat.le_of_ble_eq_true rfl) dX10_bail_21) (fun r20 u19 H locs hw h => ?_)
      exact x_iret C hw h dX10_bail_24
set_option maxHeartbeats 4000000 in
set_option maxRecDepth 100000 in
theorem m_X10_bail (l : Launch) {g : xG} (hD : x_D g) (hX : xpX g) {a1 : Int32} {a2 : Int32} {u : xM} {Qf : Int32 → xM → Prop} (h : p_X10_bail a1 a2 u Qf) : Met l yX10_bail (Cond.code yX10_bail cX10_bail 3 (some .int) :: wsL_law) (x_rm 1 22) (va_Pc [.ref (xad g 0), .int a1, .int a2] (x_B g u)) (x_Qi g Qf) 0 0 (x_A g) := by
  refine Met.ofW (cc := cX10_bail) (maxL := 3) (ret := (some .int)) (by decide) rfl ?_
  intro p e s m args below meth c s₁ B hml hv
  obtain ⟨rfl, hB⟩ := hv
  obtain ⟨C, hw⟩ := x_start B hml hD hB
  have hl := lv_entry [.ref (xad g 0), .int a1, .int a2] (n := 3) (Nat.le_of_ble_eq_true rfl)
  rw [lg_entry_eq]
  exact s_X10_bail C hX hw hl h
set_option maxHeartbeats 4000000 in
set_option maxRecDepth 100000 in
theorem s_X7_wipeMarks_L24 {o : Nat} {Qf : Int32 → xM → Prop} {K4 : Int32 → Int32 → xM → Prop} (C : x_C p s m args meth c g RX7 cX7_wipeMarks 3 (some .int)) (ho : xpL g o) (hK4 : ∀ {v1 : Int32} {v2 : Int32} {u : xM} {H : Heap} {locs : List Loc} {ls : Array Slot}, x_W g s.heap H locs u → lv_has ls 3 [(0, .ref (xad g (o + 1))), (1, .int v1), (2, .int v2)] → K4 v1 v2 u → W p l e (x_rm 0 0) s m args below meth c H locs 0 0 (MQ below (x_Qi g Qf) args s 0 0 (x_A g)) (F0 m 4 ls [])) {v1 : Int32} {v2 : Int32} {u : xM} {H : Heap} {locs : List Loc} {ls : Array Slot} (hw : x_W g s.heap H locs u) (hl : lv_has ls 3 [(0, .ref (xad g (o + 1))), (1, .int v1), (2, .int v2)]) (h : p_X7_wipeMarks_L24 o Qf K4 v1 v2 u) : W p l e (x_rm 0 0) s m args below meth c H locs 0 0 (MQ below (x_Qi g Qf) args s 0 0 (x_A g)) (F0 m 24 ls []) := by
  unfold p_X7_wipeMarks_L24 at h
  have hx := C.1
  have hb := C.2.1
  refine lv_aload_n hx hb dX7_wipeMarks_24 rfl (lv_at hl 0 rfl) ?_
  refine x_getr (ci := 7) C hw 8 (xoL_1 ho) rfl inlX7 (by decide) rfl rfl (xrL_1_8 ho) xw_85 dX7_wipeMarks_25 ?_
  refine lv_iload_n hx hb dX7_wipeMarks_28 rfl (lv_at hl 2 rfl) ?_
  refine lv_iconst (v := 0) hx hb dX7_wipeMarks_29 (by decide) ?_
  have c1 := h.1
  have h := h.2
  obtain ⟨u2, eu2⟩ : ∃ q : xM, q = si u (o + 8) v2.toNatClampNeg (0 : Int32) := ⟨_, rfl⟩
  have h := h u2 eu2
  refine x_iast C hw (xoL_8 ho) c1 dX7_wipeMarks_30 eu2 (fun H locs hw => ?_)
  obtain ⟨x3, ex3⟩ : ∃ y : Int32, y = v2 + 1 := ⟨_, rfl⟩
  have h := h x3 ex3
  refine lv_iinc (v := x3) (lv' := [(2, .int x3), (0, .ref (xad g (o + 1))), (1, .int v1)]) hx hb dX7_wipeMarks_31 hl (k := 2) rfl (by rw [ex3]; rfl) (by decide) rfl (fun ls hl => ?_)
  refine lv_goto (tgt := 4) hx hb dX7_wipeMarks_34 (by decide) ?_
  exact hK4 hw (lv_sub hl [1, 2, 0] rfl) h
set_option maxHeartbeats 4000000 in
set_option maxRecDepth 100000 in
theorem s_X7_wipeMarks_L4 {o : Nat} {Qf : Int32 → xM → Prop} (C : x_C p s m args meth c g RX7 cX7_wipeMarks 3 (some .int)) (ho : xpL g o) : ∀ (nn : Nat) {v1 : Int32} {v2 : Int32} {u : xM} {H : Heap} {locs : List Loc} {ls : Array Slot} (hw : x_W g s.heap H locs u) (hl : lv_has ls 3 [(0, .ref (xad g (o + 1))), (1, .int v1), (2, .int v2)]) (h : p_X7_wipeMarks_L4 o Qf nn v1 v2 u), W p l e (x_rm 0 0) s m args below meth c H locs 0 0 (MQ below (x_Qi g Qf) args s 0 0 (x_A g)) (F0 m 4 ls []) := by
  intro nn
  induction nn with
  | zero => intro v1 v2 u H locs ls hw hl h; exact h.elim
  | succ nn ih =>
    intro v1 v2 u H locs ls hw hl h
    unfold p_X7_wipeMarks_L4 at h
    have hx := C.1
    have hb := C.2.1
    refine lv_iload_n hx hb dX7_wipeMarks_4 rfl (lv_at hl 2 rfl) ?_
    refine lv_aload_n hx hb dX7_wipeMarks_5 rfl (lv_at hl 0 rfl) ?_
    refine x_geti (ci := 7) C hw 0 (xoL_1 ho) rfl inlX7 (by decide) rfl rfl xw_414 dX7_wipeMarks_6 ?_
    refine lv_icmp_ge (tgt := 37) hx hb dX7_wipeMarks_9 (by decide) (fun c1 => ?_) (fun c1 => ?_)
    · have h := h.1 c1
      refine lv_iload_n hx hb dX7_wipeMarks_37 rfl (lv_at hl 1 rfl) ?_
      exact x_iret C hw h dX7_wipeMarks_38
    · have h := h.2 c1
      refine lv_aload_n hx hb dX7_wipeMarks_12 rfl (lv_at hl 0 rfl) ?_
      refine x_getr (ci := 7) C hw 8 (xoL_1 ho) rfl inlX7 (by decide) rfl rfl (xrL_1_8 ho) xw_85 dX7_wipeMarks_13 ?_
      refine lv_iload_n hx hb dX7_wipeMarks_16 rfl (lv_at hl 2 rfl) ?_
      have c2 := h.1
      have h := h.2
      refine x_iald C hw (xoL_8 ho) c2 dX7_wipeMarks_17 ?_
      refine lv_if_le (tgt := 24) hx hb dX7_wipeMarks_18 (by decide) (fun c3 => ?_) (fun c3 => ?_)
      · have h := h.1 c3
        exact s_X7_wipeMarks_L24 C ho (fun hw hl h => ih hw hl h) hw (lv_sub hl [0, 1, 2] rfl) h
      · have h := h.2 c3
        obtain ⟨x4, ex4⟩ : ∃ y : Int32, y = v1 + 1 := ⟨_, rfl⟩
        have h := h x4 ex4
        refine lv_iinc (v := x4) (lv' := [(1, .int x4), (0, .ref (xad g (o + 1))), (2, .int v2)]) hx hb dX7_wipeMarks_21 hl (k := 1) rfl (by rw [ex4]; rfl) (by decide) rfl (fun ls hl => ?_)
        exact s_X7_wipeMarks_L24 C ho (fun hw hl h => ih hw hl h) hw (lv_sub hl [1, 0, 2] rfl) h
set_option maxHeartbeats 4000000 in
set_option maxRecDepth 100000 in
theorem s_X7_wipeMarks {o : Nat} {Qf : Int32 → xM → Prop} (C : x_C p s m args meth c g RX7 cX7_wipeMarks 3 (some .int)) (ho : xpL g o) {u : xM} {H : Heap} {locs : List Loc} {ls : Array Slot} (hw : x_W g s.heap H locs u) (hl : lv_has ls 3 [(0, .ref (xad g (o + 1)))]) (h : p_X7_wipeMarks o u Qf) : W p l e (x_rm 0 0) s m args below meth c H locs 0 0 (MQ below (x_Qi g Qf) args s 0 0 (x_A g)) (F0 m 0 ls []) := by
  unfold p_X7_wipeMarks at h
  have hx := C.1
  have hb := C.2.1
  refine lv_iconst (v := 0) hx hb dX7_wipeMarks_0 (by decide) ?_
  refine lv_istore_n (lv' := [(1, .int 0), (0, .ref (xad g (o + 1)))]) hx hb dX7_wipeMarks_1 rfl hl (by decide) rfl (fun ls hl => ?_)
  refine lv_iconst (v := 0) hx hb dX7_wipeMarks_2 (by decide) ?_
  refine lv_istore_n (lv' := [(2, .int 0), (1, .int 0), (0, .ref (xad g (o + 1)))]) hx hb dX7_wipeMarks_3 rfl hl (by decide) rfl (fun ls hl => ?_)
  obtain ⟨n9, h⟩ := h
  exact s_X7_wipeMarks_L4 C ho n9 hw (lv_sub hl [2, 1, 0] rfl) h
set_option maxHeartbeats 4000000 in
set_option maxRecDepth 100000 in
theorem m_X7_wipeMarks (l : Launch) {g : xG} (hD : x_D g) {o : Nat} (ho : xpL g o) {u : xM} {Qf : Int32 → xM → Prop} (h : p_X7_wipeMarks o u Qf) : Met l yX7_wipeMarks (Cond.code yX7_wipeMarks cX7_wipeMarks 3 (some .int) :: wsL_law) (x_rm 0 0) (va_Pc [.ref (xad g (o + 1))] (x_B g u)) (x_Qi g Qf) 0 0 (x_A g) := by
  refine Met.ofW (cc := cX7_wipeMarks) (maxL := 3) (ret := (some .int)) (by decide) rfl ?_
  intro p e s m args below meth c s₁ B hml hv
  obtain ⟨rfl, hB⟩ := hv
  obtain ⟨C, hw⟩ := x_start B hml hD hB
  have hl := lv_entry [.ref (xad g (o + 1))] (n := 3) (Nat.le_of_ble_eq_true rfl)
  rw [lg_entry_eq]
  exact s_X7_wipeMarks C ho hw hl h
set_option maxHeartbeats 4000000 in
set_option maxRecDepth 100000 in
theorem s_X10_wipe {Qf : Int32 → xM → Prop} (C : x_C p s m args meth c g RX10 cX10_wipe 1 (some .int)) (hX : xpX g) {u : xM} {H : Heap} {locs : List Loc} {ls : Array Slot} (hw : x_W g s.heap H locs u) (hl : lv_has ls 1 [(0, .ref (xad g 0))]) (h : p_X10_wipe  u Qf) : W p l e (x_rm 1 22) s m args below meth c H locs 0 0 (MQ below (x_Qi g Qf) args s 0 0 (x_A g)) (F0 m 0 ls []) := by
  unfold p_X10_wipe at h
  have hx := C.1
  have hb := C.2.1
  refine lv_aload_n hx hb dX10_wipe_0 rfl (lv_at hl 0 rfl) ?_
  refine lv_aload_n hx hb dX10_wipe_1 rfl (lv_at hl 0 rfl) ?_
  refine x_getr (ci := 10) C hw 0 (xoX_0 hX) rfl inlX10 (by decide) rfl rfl xrX_0_0 xw_16 dX10_wipe_2 ?_
  refine x_getr (ci := 1) C hw 0 (xoL_0 (xpL_83 hX)) rfl inlX1 (by decide) rfl rfl (xrL_0_0 (xpL_83 hX)) xw_858 dX10_wipe_5 ?_
  refine x_calli hw (x_runV (ci := 7) C hw (m_X7_wipeMarks l C.2.2.2.2.2.2.2.2.1 (xpL_83 hX) h) (xoL_1 (xpL_83 hX)) rfl (x_gV xw_1255 xw_1256 xw_1257 xw_57 xw_1258) rfl rfl qX7_wipeMarks ⟨(Nat.le_of_ble_eq_true rfl), (Nat.le_of_ble_eq_true rfl)⟩ rfl hl.1 rfl (Nat.le_of_ble_eq_true rfl) dX10_wipe_8) (fun r2 u1 H locs hw h => ?_)
  refine x_calli hw (x_runV (ci := 10) C hw (m_X10_fine l C.2.2.2.2.2.2.2.2.1 hX h) (xoX_0 hX) rfl (x_gV xw_622 xw_623 xw_624 xw_2 xw_625) rfl rfl qX10_fine ⟨(Nat.le_of_ble_eq_true rfl), (Nat.le_of_ble_eq_true rfl)⟩ rfl hl.1 rfl (Nat.le_of_ble_eq_true rfl) dX10_wipe_11) (fun r4 u3 H locs hw h => ?_)
  exact x_iret C hw h dX10_wipe_14
set_option maxHeartbeats 4000000 in
set_option maxRecDepth 100000 in
theorem m_X10_wipe (l : Launch) {g : xG} (hD : x_D g) (hX : xpX g) {u : xM} {Qf : Int32 → xM → Prop} (h : p_X10_wipe  u Qf) : Met l yX10_wipe (Cond.code yX10_wipe cX10_wipe 1 (some .int) :: wsL_law) (x_rm 1 22) (va_Pc [.ref (xad g 0)] (x_B g u)) (x_Qi g Qf) 0 0 (x_A g) := by
  refine Met.ofW (cc := cX10_wipe) (maxL := 1) (ret := (some .int)) (by decide) rfl ?_
  intro p e s m args below meth c s₁ B hml hv
  obtain ⟨rfl, hB⟩ := hv
  obtain ⟨C, hw⟩ := x_start B hml hD hB
  have hl := lv_entry [.ref (xad g 0)] (n := 1) (Nat.le_of_ble_eq_true rfl)
  rw [lg_entry_eq]
  exact s_X10_wipe C hX hw hl h
set_option maxHeartbeats 4000000 in
set_option maxRecDepth 100000 in
theorem s_X10_rota_L46 {Qf : Bool → xM → Prop} (C : x_C p s m args meth c g RX10 cX10_rota 5 (some .boolean)) (hX : xpX g) {v1 : Int32} {v2 : Int32} {v3 : Bool} {w0 : Bool} {u : xM} {H : Heap} {locs : List Loc} {ls : Array Slot} (hw : x_W g s.heap H locs u) (hl : lv_has ls 5 [(0, .ref (xad g 0)), (1, .int v1), (2, .int v2), (3, .int (xb v3))]) (h : p_X10_rota_L46 Qf v1 v2 v3 w0 u) : W p l e (x_rm 1 21) s m args below meth c H locs 0 0 (MQ below (x_Qz g Qf) args s 0 0 (x_A g)) (F0 m 46 ls [.int (xb w0)]) := by
  unfold p_X10_rota_L46 at h
  have hx := C.1
  have hb := C.2.1
  refine lv_istore (lv' := [(4, .int (xb w0)), (0, .ref (xad g 0)), (1, .int v1), (2, .int v2), (3, .int (xb v3))]) hx hb dX10_rota_46 hl (by decide) rfl (fun ls hl => ?_)
  refine lv_iload hx hb dX10_rota_48 (lv_at hl 0 rfl) ?_
  refine lv_iload_n hx hb dX10_rota_50 rfl (lv_at hl 4 rfl) ?_
  refine lv_icmp_ne (tgt := 61) hx hb dX10_rota_51 (by decide) (fun c1 => ?_) (fun c1 => ?_)
  · have h := h.1 c1
    refine lv_aload_n hx hb dX10_rota_61 rfl (lv_at hl 1 rfl) ?_
    refine x_getr (ci := 10) C hw 0 (xoX_0 hX) rfl inlX10 (by decide) rfl rfl xrX_0_0 xw_16 dX10_rota_62 ?_
    refine x_getr (ci := 1) C hw 1 (xoL_0 (xpL_83 hX)) rfl inlX1 (by decide) rfl rfl (xrL_0_1 (xpL_83 hX)) xw_398 dX10_rota_65 ?_
    refine x_getr (ci := 0) C hw 9 (xoL_9 (xpL_83 hX)) rfl inlX0 (by decide) rfl rfl (xrL_9_9 (xpL_83 hX)) xw_1271 dX10_rota_68 ?_
    refine lv_iload_n hx hb dX10_rota_71 rfl (lv_at hl 2 rfl) ?_
    refine lv_dup2_11 hx hb dX10_rota_72 rfl rfl ?_
    have c2 := h.1
    have h := h.2
    refine x_iald C hw (xoL_16 (xpL_83 hX)) c2 dX10_rota_73 ?_
    refine lv_iconst (v := 1) hx hb dX10_rota_74 (by decide) ?_
    refine lv_iload_n hx hb dX10_rota_75 rfl (lv_at hl 3 rfl) ?_
    refine lv_ishl hx hb dX10_rota_76 ?_
    refine lv_ixor hx hb dX10_rota_77 ?_
    have c3 := h.1
    have h := h.2
    obtain ⟨u4, eu4⟩ : ∃ q : xM, q = si u 99 v1.toNatClampNeg ((gi u 99 v1.toNatClampNeg) ^^^ ((1 : Int32) <<< (v2 &&& 31))) := ⟨_, rfl⟩
    have h := h u4 eu4
    refine x_iast C hw (xoL_16 (xpL_83 hX)) c3 dX10_rota_78 eu4 (fun H locs hw => ?_)
    refine lv_aload_n hx hb dX10_rota_79 rfl (lv_at hl 1 rfl) ?_
    refine x_callz hw (x_runV (ci := 10) C hw (m_X10_done l C.2.2.2.2.2.2.2.2.1 hX h) (xoX_0 hX) rfl (x_gV xw_292 xw_293 xw_294 xw_2 xw_295) rfl rfl qX10_done ⟨(Nat.le_of_ble_eq_true rfl), (Nat.le_of_ble_eq_true rfl)⟩ rfl hl.1 rfl (Nat.le_of_ble_eq_true rfl) dX10_rota_80) (fun r6 u5 H locs hw h => ?_)
    exact x_zret _ C hw h rfl dX10_rota_83
  · have h := h.2 c1
    refine lv_aload_n hx hb dX10_rota_54 rfl (lv_at hl 1 rfl) ?_
    refine lv_bipush (v := 7) hx hb dX10_rota_55 (by decide) ?_
    refine x_callz hw (x_runV (ci := 10) C hw (m_X10_refused l C.2.2.2.2.2.2.2.2.1 hX h) (xoX_0 hX) rfl (x_gV xw_283 xw_284 xw_285 xw_2 xw_286) rfl rfl qX10_refused ⟨(Nat.le_of_ble_eq_true rfl), (Nat.le_of_ble_eq_true rfl)⟩ rfl hl.1 rfl (Nat.le_of_ble_eq_true rfl) dX10_rota_57) (fun r8 u7 H locs hw h => ?_)
    exact x_zret _ C hw h rfl dX10_rota_60
set_option maxHeartbeats 4000000 in
set_option maxRecDepth 100000 in
theorem s_X10_rota {Qf : Bool → xM → Prop} {a1 : Int32} {a2 : Int32} {a3 : Bool} (C : x_C p s m args meth c g RX10 cX10_rota 5 (some .boolean)) (hX : xpX g) {u : xM} {H : Heap} {locs : List Loc} {ls : Array Slot} (hw : x_W g s.heap H locs u) (hl : lv_has ls 5 [(0, .ref (xad g 0)), (1, .int a1), (2, .int a2), (3, .int (xb a3))]) (h : p_X10_rota a1 a2 a3 u Qf) : W p l e (x_rm 1 21) s m args below meth c H locs 0 0 (MQ below (x_Qz g Qf) args s 0 0 (x_A g)) (F0 m 0 ls []) := by
  unfold p_X10_rota at h
  have hx := C.1
  have hb := C.2.1
  refine lv_iload_n hx hb dX10_rota_0 rfl (lv_at hl 1 rfl) ?_
  refine x_callz hw (x_runS C hw (m_X10_isHourOfDay l C.2.2.2.2.2.2.2.2.1  h) (x_gS xw_1001 xw_1002 xw_2 xw_1003) rfl rfl qX10_isHourOfDay ⟨(Nat.le_of_ble_eq_true rfl), (Nat.le_of_ble_eq_true rfl)⟩ rfl hl.1 rfl (Nat.le_of_ble_eq_true rfl) dX10_rota_1) (fun r2 u1 H locs hw h => ?_)
  refine lv_if_eq (tgt := 15) hx hb dX10_rota_4 (by decide) (fun c3 => ?_) (fun c3 => ?_)
  · have h := h.1 (xb_f c3)
    refine lv_aload_n hx hb dX10_rota_15 rfl (lv_at hl 0 rfl) ?_
    refine lv_iconst (v := 1) hx hb dX10_rota_16 (by decide) ?_
    refine x_callz hw (x_runV (ci := 10) C hw (m_X10_refused l C.2.2.2.2.2.2.2.2.1 hX h) (xoX_0 hX) rfl (x_gV xw_283 xw_284 xw_285 xw_2 xw_286) rfl rfl qX10_refused ⟨(Nat.le_of_ble_eq_true rfl), (Nat.le_of_ble_eq_true rfl)⟩ rfl hl.1 rfl (Nat.le_of_ble_eq_true rfl) dX10_rota_17) (fun r5 u4 H locs hw h => ?_)
    exact x_zret _ C hw h rfl dX10_rota_20
  · have h := h.2 (xb_t c3)
    refine lv_aload_n hx hb dX10_rota_7 rfl (lv_at hl 0 rfl) ?_
    refine lv_iload_n hx hb dX10_rota_8 rfl (lv_at hl 2 rfl) ?_
    refine x_callz hw (x_runV (ci := 10) C hw (m_X10_isDoor l C.2.2.2.2.2.2.2.2.1 hX h) (xoX_0 hX) rfl (x_gV xw_962 xw_963 xw_964 xw_2 xw_965) rfl rfl qX10_isDoor ⟨(Nat.le_of_ble_eq_true rfl), (Nat.le_of_ble_eq_true rfl)⟩ rfl hl.1 rfl (Nat.le_of_ble_eq_true rfl) dX10_rota_9) (fun r7 u6 H locs hw h => ?_)
    refine lv_if_ne (tgt := 21) hx hb dX10_rota_12 (by decide) (fun c8 => ?_) (fun c8 => ?_)
    · have h := h.1 (xb_t c8)
      refine lv_aload_n hx hb dX10_rota_21 rfl (lv_at hl 0 rfl) ?_
      refine x_getr (ci := 10) C hw 0 (xoX_0 hX) rfl inlX10 (by decide) rfl rfl xrX_0_0 xw_16 dX10_rota_22 ?_
      refine x_getr (ci := 1) C hw 1 (xoL_0 (xpL_83 hX)) rfl inlX1 (by decide) rfl rfl (xrL_0_1 (xpL_83 hX)) xw_398 dX10_rota_25 ?_
      refine x_getr (ci := 0) C hw 9 (xoL_9 (xpL_83 hX)) rfl inlX0 (by decide) rfl rfl (xrL_9_9 (xpL_83 hX)) xw_1271 dX10_rota_28 ?_
      refine lv_iload_n hx hb dX10_rota_31 rfl (lv_at hl 1 rfl) ?_
      have c9 := h.1
      have h := h.2
      refine x_iald C hw (xoL_16 (xpL_83 hX)) c9 dX10_rota_32 ?_
      refine lv_iload_n hx hb dX10_rota_33 rfl (lv_at hl 2 rfl) ?_
      refine lv_ishr hx hb dX10_rota_34 ?_
      refine lv_iconst (v := 1) hx hb dX10_rota_35 (by decide) ?_
      refine lv_iand hx hb dX10_rota_36 ?_
      refine lv_iconst (v := 1) hx hb dX10_rota_37 (by decide) ?_
      refine lv_icmp_ne (tgt := 45) hx hb dX10_rota_38 (by decide) (fun c10 => ?_) (fun c10 => ?_)
      · have h := h.1 c10
        refine lv_iconst (v := 0) hx hb dX10_rota_45 (by decide) ?_
        exact s_X10_rota_L46 C hX hw (lv_sub hl [0, 1, 2, 3] rfl) h
      · have h := h.2 c10
        refine lv_iconst (v := 1) hx hb dX10_rota_41 (by decide) ?_
        refine lv_goto (tgt := 46) hx hb dX10_rota_42 (by decide) ?_
        exact s_X10_rota_L46 C hX hw (lv_sub hl [0, 1, 2, 3] rfl) h
    · have h := h.2 (xb_f c8)
      refine lv_aload_n hx hb dX10_rota_15 rfl (lv_at hl 0 rfl) ?_
      refine lv_iconst (v := 1) hx hb dX10_rota_16 (by decide) ?_
      refine x_callz hw (x_runV (ci := 10) C hw (m_X10_refused l C.2.2.2.2.2.2.2.2.1 hX h) (xoX_0 hX) rfl (x_gV xw_283 xw_284 xw_285 xw_2 xw_286) rfl rfl qX10_refused ⟨(Nat.le_of_ble_eq_true rfl), (Nat.le_of_ble_eq_true rfl)⟩ rfl hl.1 rfl (Nat.le_of_ble_eq_true rfl) dX10_rota_17) (fun r12 u11 H locs hw h => ?_)
      exact x_zret _ C hw h rfl dX10_rota_20
set_option maxHeartbeats 4000000 in
set_option maxRecDepth 100000 in
theorem m_X10_rota (l : Launch) {g : xG} (hD : x_D g) (hX : xpX g) {a1 : Int32} {a2 : Int32} {a3 : Bool} {u : xM} {Qf : Bool → xM → Prop} (h : p_X10_rota a1 a2 a3 u Qf) : Met l yX10_rota (Cond.code yX10_rota cX10_rota 5 (some .boolean) :: wsL_law) (x_rm 1 21) (va_Pc [.ref (xad g 0), .int a1, .int a2, .int (xb a3)] (x_B g u)) (x_Qz g Qf) 0 0 (x_A g) := by
  refine Met.ofW (cc := cX10_rota) (maxL := 5) (ret := (some .boolean)) (by decide) rfl ?_
  intro p e s m args below meth c s₁ B hml hv
  obtain ⟨rfl, hB⟩ := hv
  obtain ⟨C, hw⟩ := x_start B hml hD hB
  have hl := lv_entry [.ref (xad g 0), .int a1, .int a2, .int (xb a3)] (n := 5) (Nat.le_of_ble_eq_true rfl)
  rw [lg_entry_eq]
  exact s_X10_rota C hX hw hl h
set_option maxHeartbeats 4000000 in
set_option maxRecDepth 100000 in
theorem s_X10_moon {Qf : Bool → xM → Prop} {a1 : Int32} {a2 : Int32} (C : x_C p s m args meth c g RX10 cX10_moon 3 (some .boolean)) (hX : xpX g) {u : xM} {H : Heap} {locs : List Loc} {ls : Array Slot} (hw : x_W g s.heap H locs u) (hl : lv_has ls 3 [(0, .ref (xad g 0)), (1, .int a1), (2, .int a2)]) (h : p_X10_moon a1 a2 u Qf) : W p l e (x_rm 1 22) s m args below meth c H locs 0 0 (MQ below (x_Qz g Qf) args s 0 0 (x_A g)) (F0 m 0 ls []) := by
  unfold p_X10_moon at h
  have hx := C.1
  have hb := C.2.1
  refine lv_iload_n hx hb dX10_moon_0 rfl (lv_at hl 1 rfl) ?_
  refine x_callz hw (x_runS C hw (m_X10_isHourOfDay l C.2.2.2.2.2.2.2.2.1  h) (x_gS xw_1001 xw_1002 xw_2 xw_1003) rfl rfl qX10_isHourOfDay ⟨(Nat.le_of_ble_eq_true rfl), (Nat.le_of_ble_eq_true rfl)⟩ rfl hl.1 rfl (Nat.le_of_ble_eq_true rfl) dX10_moon_1) (fun r2 u1 H locs hw h => ?_)
  refine lv_if_eq (tgt := 17) hx hb dX10_moon_4 (by decide) (fun c3 => ?_) (fun c3 => ?_)
  · have h := h.1 (xb_f c3)
    refine lv_aload_n hx hb dX10_moon_17 rfl (lv_at hl 0 rfl) ?_
    refine lv_iconst (v := 1) hx hb dX10_moon_18 (by decide) ?_
    refine x_callz hw (x_runV (ci := 10) C hw (m_X10_refused l C.2.2.2.2.2.2.2.2.1 hX h) (xoX_0 hX) rfl (x_gV xw_283 xw_284 xw_285 xw_2 xw_286) rfl rfl qX10_refused ⟨(Nat.le_of_ble_eq_true rfl), (Nat.le_of_ble_eq_true rfl)⟩ rfl hl.1 rfl (Nat.le_of_ble_eq_true rfl) dX10_moon_19) (fun r5 u4 H locs hw h => ?_)
    exact x_zret _ C hw h rfl dX10_moon_22
  · have h := h.2 (xb_t c3)
    refine lv_iload_n hx hb dX10_moon_7 rfl (lv_at hl 2 rfl) ?_
    refine lv_iconst (v := 0) hx hb dX10_moon_8 (by decide) ?_
    refine lv_bipush (v := 99) hx hb dX10_moon_9 (by decide) ?_
    refine x_callz hw (x_runS C hw (m_X10_isWithin l C.2.2.2.2.2.2.2.2.1  h) (x_gS xw_280 xw_281 xw_2 xw_282) rfl rfl qX10_isWithin ⟨(Nat.le_of_ble_eq_true rfl), (Nat.le_of_ble_eq_true rfl)⟩ rfl hl.1 rfl (Nat.le_of_ble_eq_true rfl) dX10_moon_11) (fun r7 u6 H locs hw h => ?_)
    refine lv_if_ne (tgt := 23) hx hb dX10_moon_14 (by decide) (fun c8 => ?_) (fun c8 => ?_)
    · have h := h.1 (xb_t c8)
      refine lv_aload_n hx hb dX10_moon_23 rfl (lv_at hl 0 rfl) ?_
      refine x_getr (ci := 10) C hw 0 (xoX_0 hX) rfl inlX10 (by decide) rfl rfl xrX_0_0 xw_16 dX10_moon_24 ?_
      refine x_getr (ci := 1) C hw 7 (xoL_0 (xpL_83 hX)) rfl inlX1 (by decide) rfl rfl (xrL_0_7 (xpL_83 hX)) xw_1000 dX10_moon_27 ?_
      refine lv_iload_n hx hb dX10_moon_30 rfl (lv_at hl 1 rfl) ?_
      refine lv_iload_n hx hb dX10_moon_31 rfl (lv_at hl 2 rfl) ?_
      have c9 := h.1
      have h := h.2
      obtain ⟨u10, eu10⟩ : ∃ q : xM, q = si u6 104 a1.toNatClampNeg a2 := ⟨_, rfl⟩
      have h := h u10 eu10
      refine x_iast C hw (xoL_21 (xpL_83 hX)) c9 dX10_moon_32 eu10 (fun H locs hw => ?_)
      refine lv_aload_n hx hb dX10_moon_33 rfl (lv_at hl 0 rfl) ?_
      refine x_callz hw (x_runV (ci := 10) C hw (m_X10_done l C.2.2.2.2.2.2.2.2.1 hX h) (xoX_0 hX) rfl (x_gV xw_292 xw_293 xw_294 xw_2 xw_295) rfl rfl qX10_done ⟨(Nat.le_of_ble_eq_true rfl), (Nat.le_of_ble_eq_true rfl)⟩ rfl hl.1 rfl (Nat.le_of_ble_eq_true rfl) dX10_moon_34) (fun r12 u11 H locs hw h => ?_)
      exact x_zret _ C hw h rfl dX10_moon_37
    · have h := h.2 (xb_f c8)
      refine lv_aload_n hx hb dX10_moon_17 rfl (lv_at hl 0 rfl) ?_
      refine lv_iconst (v := 1) hx hb dX10_moon_18 (by decide) ?_
      refine x_callz hw (x_runV (ci := 10) C hw (m_X10_refused l C.2.2.2.2.2.2.2.2.1 hX h) (xoX_0 hX) rfl (x_gV xw_283 xw_284 xw_285 xw_2 xw_286) rfl rfl qX10_refused ⟨(Nat.le_of_ble_eq_true rfl), (Nat.le_of_ble_eq_true rfl)⟩ rfl hl.1 rfl (Nat.le_of_ble_eq_true rfl) dX10_moon_19) (fun r14 u13 H locs hw h => ?_)
      exact x_zret _ C hw h rfl dX10_moon_22
set_option maxHeartbeats 4000000 in
set_option maxRecDepth 100000 in
theorem m_X10_moon (l : Launch) {g : xG} (hD : x_D g) (hX : xpX g) {a1 : Int32} {a2 : Int32} {u : xM} {Qf : Bool → xM → Prop} (h : p_X10_moon a1 a2 u Qf) : Met l yX10_moon (Cond.code yX10_moon cX10_moon 3 (some .boolean) :: wsL_law) (x_rm 1 22) (va_Pc [.ref (xad g 0), .int a1, .int a2] (x_B g u)) (x_Qz g Qf) 0 0 (x_A g) := by
  refine Met.ofW (cc := cX10_moon) (maxL := 3) (ret := (some .boolean)) (by decide) rfl ?_
  intro p e s m args below meth c s₁ B hml hv
  obtain ⟨rfl, hB⟩ := hv
  obtain ⟨C, hw⟩ := x_start B hml hD hB
  have hl := lv_entry [.ref (xad g 0), .int a1, .int a2] (n := 3) (Nat.le_of_ble_eq_true rfl)
  rw [lg_entry_eq]
  exact s_X10_moon C hX hw hl h
set_option maxHeartbeats 4000000 in
set_option maxRecDepth 100000 in
theorem s_X10_pump {Qf : Bool → xM → Prop} {a1 : Int32} {a2 : Int32} (C : x_C p s m args meth c g RX10 cX10_pump 3 (some .boolean)) (hX : xpX g) {u : xM} {H : Heap} {locs : List Loc} {ls : Array Slot} (hw : x_W g s.heap H locs u) (hl : lv_has ls 3 [(0, .ref (xad g 0)), (1, .int a1), (2, .int a2)]) (h : p_X10_pump a1 a2 u Qf) : W p l e (x_rm 1 22) s m args below meth c H locs 0 0 (MQ below (x_Qz g Qf) args s 0 0 (x_A g)) (F0 m 0 ls []) := by
  unfold p_X10_pump at h
  have hx := C.1
  have hb := C.2.1
  refine lv_aload_n hx hb dX10_pump_0 rfl (lv_at hl 0 rfl) ?_
  refine lv_iload_n hx hb dX10_pump_1 rfl (lv_at hl 1 rfl) ?_
  refine x_callz hw (x_runV (ci := 10) C hw (m_X10_isRoom l C.2.2.2.2.2.2.2.2.1 hX h) (xoX_0 hX) rfl (x_gV xw_936 xw_937 xw_938 xw_2 xw_939) rfl rfl qX10_isRoom ⟨(Nat.le_of_ble_eq_true rfl), (Nat.le_of_ble_eq_true rfl)⟩ rfl hl.1 rfl (Nat.le_of_ble_eq_true rfl) dX10_pump_2) (fun r2 u1 H locs hw h => ?_)
  refine lv_if_eq (tgt := 18) hx hb dX10_pump_5 (by decide) (fun c3 => ?_) (fun c3 => ?_)
  · have h := h.1 (xb_f c3)
    refine lv_aload_n hx hb dX10_pump_18 rfl (lv_at hl 0 rfl) ?_
    refine lv_iconst (v := 1) hx hb dX10_pump_19 (by decide) ?_
    refine x_callz hw (x_runV (ci := 10) C hw (m_X10_refused l C.2.2.2.2.2.2.2.2.1 hX h) (xoX_0 hX) rfl (x_gV xw_283 xw_284 xw_285 xw_2 xw_286) rfl rfl qX10_refused ⟨(Nat.le_of_ble_eq_true rfl), (Nat.le_of_ble_eq_true rfl)⟩ rfl hl.1 rfl (Nat.le_of_ble_eq_true rfl) dX10_pump_20) (fun r5 u4 H locs hw h => ?_)
    exact x_zret _ C hw h rfl dX10_pump_23
  · have h := h.2 (xb_t c3)
    refine lv_iload_n hx hb dX10_pump_8 rfl (lv_at hl 2 rfl) ?_
    refine lv_iconst (v := 0) hx hb dX10_pump_9 (by decide) ?_
    refine lv_bipush (v := 99) hx hb dX10_pump_10 (by decide) ?_
    refine x_callz hw (x_runS C hw (m_X10_isWithin l C.2.2.2.2.2.2.2.2.1  h) (x_gS xw_280 xw_281 xw_2 xw_282) rfl rfl qX10_isWithin ⟨(Nat.le_of_ble_eq_true rfl), (Nat.le_of_ble_eq_true rfl)⟩ rfl hl.1 rfl (Nat.le_of_ble_eq_true rfl) dX10_pump_12) (fun r7 u6 H locs hw h => ?_)
    refine lv_if_ne (tgt := 24) hx hb dX10_pump_15 (by decide) (fun c8 => ?_) (fun c8 => ?_)
    · have h := h.1 (xb_t c8)
      refine lv_aload_n hx hb dX10_pump_24 rfl (lv_at hl 0 rfl) ?_
      refine x_getr (ci := 10) C hw 0 (xoX_0 hX) rfl inlX10 (by decide) rfl rfl xrX_0_0 xw_16 dX10_pump_25 ?_
      refine x_getr (ci := 1) C hw 0 (xoL_0 (xpL_83 hX)) rfl inlX1 (by decide) rfl rfl (xrL_0_0 (xpL_83 hX)) xw_858 dX10_pump_28 ?_
      refine x_getr (ci := 7) C hw 6 (xoL_1 (xpL_83 hX)) rfl inlX7 (by decide) rfl rfl (xrL_1_6 (xpL_83 hX)) xw_933 dX10_pump_31 ?_
      refine lv_iload_n hx hb dX10_pump_34 rfl (lv_at hl 1 rfl) ?_
      refine lv_iload_n hx hb dX10_pump_35 rfl (lv_at hl 2 rfl) ?_
      have c9 := h.1
      have h := h.2
      obtain ⟨u10, eu10⟩ : ∃ q : xM, q = si u6 89 a1.toNatClampNeg a2 := ⟨_, rfl⟩
      have h := h u10 eu10
      refine x_iast C hw (xoL_6 (xpL_83 hX)) c9 dX10_pump_36 eu10 (fun H locs hw => ?_)
      refine lv_aload_n hx hb dX10_pump_37 rfl (lv_at hl 0 rfl) ?_
      refine x_callz hw (x_runV (ci := 10) C hw (m_X10_done l C.2.2.2.2.2.2.2.2.1 hX h) (xoX_0 hX) rfl (x_gV xw_292 xw_293 xw_294 xw_2 xw_295) rfl rfl qX10_done ⟨(Nat.le_of_ble_eq_true rfl), (Nat.le_of_ble_eq_true rfl)⟩ rfl hl.1 rfl (Nat.le_of_ble_eq_true rfl) dX10_pump_38) (fun r12 u11 H locs hw h => ?_)
      exact x_zret _ C hw h rfl dX10_pump_41
    · have h := h.2 (xb_f c8)
      refine lv_aload_n hx hb dX10_pump_18 rfl (lv_at hl 0 rfl) ?_
      refine lv_iconst (v := 1) hx hb dX10_pump_19 (by decide) ?_
      refine x_callz hw (x_runV (ci := 10) C hw (m_X10_refused l C.2.2.2.2.2.2.2.2.1 hX h) (xoX_0 hX) rfl (x_gV xw_283 xw_284 xw_285 xw_2 xw_286) rfl rfl qX10_refused ⟨(Nat.le_of_ble_eq_true rfl), (Nat.le_of_ble_eq_true rfl)⟩ rfl hl.1 rfl (Nat.le_of_ble_eq_true rfl) dX10_pump_20) (fun r14 u13 H locs hw h => ?_)
      exact x_zret _ C hw h rfl dX10_pump_23
set_option maxHeartbeats 4000000 in
set_option maxRecDepth 100000 in
theorem m_X10_pump (l : Launch) {g : xG} (hD : x_D g) (hX : xpX g) {a1 : Int32} {a2 : Int32} {u : xM} {Qf : Bool → xM → Prop} (h : p_X10_pump a1 a2 u Qf) : Met l yX10_pump (Cond.code yX10_pump cX10_pump 3 (some .boolean) :: wsL_law) (x_rm 1 22) (va_Pc [.ref (xad g 0), .int a1, .int a2] (x_B g u)) (x_Qz g Qf) 0 0 (x_A g) := by
  refine Met.ofW (cc := cX10_pump) (maxL := 3) (ret := (some .boolean)) (by decide) rfl ?_
  intro p e s m args below meth c s₁ B hml hv
  obtain ⟨rfl, hB⟩ := hv
  obtain ⟨C, hw⟩ := x_start B hml hD hB
  have hl := lv_entry [.ref (xad g 0), .int a1, .int a2] (n := 3) (Nat.le_of_ble_eq_true rfl)
  rw [lg_entry_eq]
  exact s_X10_pump C hX hw hl h
set_option maxHeartbeats 4000000 in
set_option maxRecDepth 100000 in
theorem s_X10_raise {Qf : Int32 → xM → Prop} {a1 : Int32} {a2 : Int32} (C : x_C p s m args meth c g RX10 cX10_raise 4 (some .int)) (hX : xpX g) {u : xM} {H : Heap} {locs : List Loc} {ls : Array Slot} (hw : x_W g s.heap H locs u) (hl : lv_has ls 4 [(0, .ref (xad g 0)), (1, .int a1), (2, .int a2)]) (h : p_X10_raise a1 a2 u Qf) : W p l e (x_rm 1 22) s m args below meth c H locs 0 0 (MQ below (x_Qi g Qf) args s 0 0 (x_A g)) (F0 m 0 ls []) := by
  unfold p_X10_raise at h
  have hx := C.1
  have hb := C.2.1
  refine lv_aload_n hx hb dX10_raise_0 rfl (lv_at hl 0 rfl) ?_
  refine lv_iload_n hx hb dX10_raise_1 rfl (lv_at hl 1 rfl) ?_
  refine x_callz hw (x_runV (ci := 10) C hw (m_X10_isDoor l C.2.2.2.2.2.2.2.2.1 hX h) (xoX_0 hX) rfl (x_gV xw_962 xw_963 xw_964 xw_2 xw_965) rfl rfl qX10_isDoor ⟨(Nat.le_of_ble_eq_true rfl), (Nat.le_of_ble_eq_true rfl)⟩ rfl hl.1 rfl (Nat.le_of_ble_eq_true rfl) dX10_raise_2) (fun r2 u1 H locs hw h => ?_)
  refine lv_if_eq (tgt := 19) hx hb dX10_raise_5 (by decide) (fun c3 => ?_) (fun c3 => ?_)
  · have h := h.1 (xb_f c3)
    refine lv_aload_n hx hb dX10_raise_19 rfl (lv_at hl 0 rfl) ?_
    refine lv_iconst (v := 1) hx hb dX10_raise_20 (by decide) ?_
    refine x_calli hw (x_runV (ci := 10) C hw (m_X10_none l C.2.2.2.2.2.2.2.2.1 hX h) (xoX_0 hX) rfl (x_gV xw_343 xw_344 xw_345 xw_2 xw_346) rfl rfl qX10_none ⟨(Nat.le_of_ble_eq_true rfl), (Nat.le_of_ble_eq_true rfl)⟩ rfl hl.1 rfl (Nat.le_of_ble_eq_true rfl) dX10_raise_21) (fun r5 u4 H locs hw h => ?_)
    exact x_iret C hw h dX10_raise_24
  · have h := h.2 (xb_t c3)
    refine lv_iload_n hx hb dX10_raise_8 rfl (lv_at hl 2 rfl) ?_
    refine lv_bipush (v := -99) hx hb dX10_raise_9 (by decide) ?_
    refine lv_bipush (v := 99) hx hb dX10_raise_11 (by decide) ?_
    refine x_callz hw (x_runS C hw (m_X10_isWithin l C.2.2.2.2.2.2.2.2.1  h) (x_gS xw_280 xw_281 xw_2 xw_282) rfl rfl qX10_isWithin ⟨(Nat.le_of_ble_eq_true rfl), (Nat.le_of_ble_eq_true rfl)⟩ rfl hl.1 rfl (Nat.le_of_ble_eq_true rfl) dX10_raise_13) (fun r7 u6 H locs hw h => ?_)
    refine lv_if_ne (tgt := 25) hx hb dX10_raise_16 (by decide) (fun c8 => ?_) (fun c8 => ?_)
    · have h := h.1 (xb_t c8)
      refine lv_aload_n hx hb dX10_raise_25 rfl (lv_at hl 0 rfl) ?_
      refine x_getr (ci := 10) C hw 0 (xoX_0 hX) rfl inlX10 (by decide) rfl rfl xrX_0_0 xw_16 dX10_raise_26 ?_
      refine x_getr (ci := 1) C hw 1 (xoL_0 (xpL_83 hX)) rfl inlX1 (by decide) rfl rfl (xrL_0_1 (xpL_83 hX)) xw_398 dX10_raise_29 ?_
      refine x_getr (ci := 0) C hw 6 (xoL_9 (xpL_83 hX)) rfl inlX0 (by decide) rfl rfl (xrL_9_6 (xpL_83 hX)) xw_959 dX10_raise_32 ?_
      refine lv_iload_n hx hb dX10_raise_35 rfl (lv_at hl 1 rfl) ?_
      have c9 := h.1
      have h := h.2
      refine x_iald C hw (xoL_13 (xpL_83 hX)) c9 dX10_raise_36 ?_
      refine lv_iload_n hx hb dX10_raise_37 rfl (lv_at hl 2 rfl) ?_
      refine lv_iadd hx hb dX10_raise_38 ?_
      refine lv_topi (fun x10 ex10 => ?_)
      have h := h x10 ex10
      refine lv_istore_n (lv' := [(3, .int x10), (0, .ref (xad g 0)), (1, .int a1), (2, .int a2)]) hx hb dX10_raise_39 rfl hl (by decide) rfl (fun ls hl => ?_)
      refine lv_iload_n hx hb dX10_raise_40 rfl (lv_at hl 0 rfl) ?_
      refine lv_iconst (v := 0) hx hb dX10_raise_41 (by decide) ?_
      refine lv_bipush (v := 99) hx hb dX10_raise_42 (by decide) ?_
      refine x_callz hw (x_runS C hw (m_X10_isWithin l C.2.2.2.2.2.2.2.2.1  h) (x_gS xw_280 xw_281 xw_2 xw_282) rfl rfl qX10_isWithin ⟨(Nat.le_of_ble_eq_true rfl), (Nat.le_of_ble_eq_true rfl)⟩ rfl hl.1 rfl (Nat.le_of_ble_eq_true rfl) dX10_raise_44) (fun r12 u11 H locs hw h => ?_)
      refine lv_if_ne (tgt := 57) hx hb dX10_raise_47 (by decide) (fun c13 => ?_) (fun c13 => ?_)
      · have h := h.1 (xb_t c13)
        refine lv_aload_n hx hb dX10_raise_57 rfl (lv_at hl 1 rfl) ?_
        refine x_getr (ci := 10) C hw 0 (xoX_0 hX) rfl inlX10 (by decide) rfl rfl xrX_0_0 xw_16 dX10_raise_58 ?_
        refine x_getr (ci := 1) C hw 1 (xoL_0 (xpL_83 hX)) rfl inlX1 (by decide) rfl rfl (xrL_0_1 (xpL_83 hX)) xw_398 dX10_raise_61 ?_
        refine x_getr (ci := 0) C hw 6 (xoL_9 (xpL_83 hX)) rfl inlX0 (by decide) rfl rfl (xrL_9_6 (xpL_83 hX)) xw_959 dX10_raise_64 ?_
        refine lv_iload_n hx hb dX10_raise_67 rfl (lv_at hl 2 rfl) ?_
        refine lv_iload_n hx hb dX10_raise_68 rfl (lv_at hl 0 rfl) ?_
        have c14 := h.1
        have h := h.2
        obtain ⟨u15, eu15⟩ : ∃ q : xM, q = si u11 96 a1.toNatClampNeg x10 := ⟨_, rfl⟩
        have h := h u15 eu15
        refine x_iast C hw (xoL_13 (xpL_83 hX)) c14 dX10_raise_69 eu15 (fun H locs hw => ?_)
        refine lv_aload_n hx hb dX10_raise_70 rfl (lv_at hl 1 rfl) ?_
        refine lv_iload_n hx hb dX10_raise_71 rfl (lv_at hl 0 rfl) ?_
        refine x_calli hw (x_runV (ci := 10) C hw (m_X10_fine l C.2.2.2.2.2.2.2.2.1 hX h) (xoX_0 hX) rfl (x_gV xw_622 xw_623 xw_624 xw_2 xw_625) rfl rfl qX10_fine ⟨(Nat.le_of_ble_eq_true rfl), (Nat.le_of_ble_eq_true rfl)⟩ rfl hl.1 rfl (Nat.le_of_ble_eq_true rfl) dX10_raise_72) (fun r17 u16 H locs hw h => ?_)
        exact x_iret C hw h dX10_raise_75
      · have h := h.2 (xb_f c13)
        refine lv_aload_n hx hb dX10_raise_50 rfl (lv_at hl 1 rfl) ?_
        refine lv_bipush (v := 7) hx hb dX10_raise_51 (by decide) ?_
        refine x_calli hw (x_runV (ci := 10) C hw (m_X10_none l C.2.2.2.2.2.2.2.2.1 hX h) (xoX_0 hX) rfl (x_gV xw_343 xw_344 xw_345 xw_2 xw_346) rfl rfl qX10_none ⟨(Nat.le_of_ble_eq_true rfl), (Nat.le_of_ble_eq_true rfl)⟩ rfl hl.1 rfl (Nat.le_of_ble_eq_true rfl) dX10_raise_53) (fun r19 u18 H locs hw h => ?_)
        exact x_iret C hw h dX10_raise_56
    · have h := h.2 (xb_f c8)
      refine lv_aload_n hx hb dX10_raise_19 rfl (lv_at hl 0 rfl) ?_
      refine lv_iconst (v := 1) hx hb dX10_raise_20 (by decide) ?_
      refine x_calli hw (x_runV (ci := 10) C hw (m_X10_none l C.2.2.2.2.2.2.2.2.1 hX h) (xoX_0 hX) rfl (x_gV xw_343 xw_344 xw_345 xw_2 xw_346) rfl rfl qX10_none ⟨(Nat.le_of_ble_eq_true rfl), (Nat.le_of_ble_eq_true rfl)⟩ rfl hl.1 rfl (Nat.le_of_ble_eq_true rfl) dX10_raise_21) (fun r21 u20 H locs hw h => ?_)
      exact x_iret C hw h dX10_raise_24
set_option maxHeartbeats 4000000 in
set_option maxRecDepth 100000 in
theorem m_X10_raise (l : Launch) {g : xG} (hD : x_D g) (hX : xpX g) {a1 : Int32} {a2 : Int32} {u : xM} {Qf : Int32 → xM → Prop} (h : p_X10_raise a1 a2 u Qf) : Met l yX10_raise (Cond.code yX10_raise cX10_raise 4 (some .int) :: wsL_law) (x_rm 1 22) (va_Pc [.ref (xad g 0), .int a1, .int a2] (x_B g u)) (x_Qi g Qf) 0 0 (x_A g) := by
  refine Met.ofW (cc := cX10_raise) (maxL := 4) (ret := (some .int)) (by decide) rfl ?_
  intro p e s m args below meth c s₁ B hml hv
  obtain ⟨rfl, hB⟩ := hv
  obtain ⟨C, hw⟩ := x_start B hml hD hB
  have hl := lv_entry [.ref (xad g 0), .int a1, .int a2] (n := 4) (Nat.le_of_ble_eq_true rfl)
  rw [lg_entry_eq]
  exact s_X10_raise C hX hw hl h
set_option maxHeartbeats 4000000 in
set_option maxRecDepth 100000 in
theorem s_X7_isDrowned {o : Nat} {Qf : Bool → xM → Prop} {a1 : Int32} (C : x_C p s m args meth c g RX7 cX7_isDrowned 2 (some .boolean)) (ho : xpL g o) {u : xM} {H : Heap} {locs : List Loc} {ls : Array Slot} (hw : x_W g s.heap H locs u) (hl : lv_has ls 2 [(0, .ref (xad g (o + 1))), (1, .int a1)]) (h : p_X7_isDrowned o a1 u Qf) : W p l e (x_rm 0 0) s m args below meth c H locs 0 0 (MQ below (x_Qz g Qf) args s 0 0 (x_A g)) (F0 m 0 ls []) := by
  unfold p_X7_isDrowned at h
  have hx := C.1
  have hb := C.2.1
  refine lv_aload_n hx hb dX7_isDrowned_0 rfl (lv_at hl 0 rfl) ?_
  refine x_geti (ci := 7) C hw 1 (xoL_1 ho) rfl inlX7 (by decide) rfl rfl xw_415 dX7_isDrowned_1 ?_
  refine lv_iload_n hx hb dX7_isDrowned_4 rfl (lv_at hl 1 rfl) ?_
  refine lv_ishr hx hb dX7_isDrowned_5 ?_
  refine lv_iconst (v := 1) hx hb dX7_isDrowned_6 (by decide) ?_
  refine lv_iand hx hb dX7_isDrowned_7 ?_
  refine lv_iconst (v := 1) hx hb dX7_isDrowned_8 (by decide) ?_
  refine lv_icmp_ne (tgt := 16) hx hb dX7_isDrowned_9 (by decide) (fun c1 => ?_) (fun c1 => ?_)
  · have h := h.1 c1
    refine lv_iconst (v := 0) hx hb dX7_isDrowned_16 (by decide) ?_
    exact x_zret false C hw h rfl dX7_isDrowned_17
  · have h := h.2 c1
    refine lv_iconst (v := 1) hx hb dX7_isDrowned_12 (by decide) ?_
    refine lv_goto (tgt := 17) hx hb dX7_isDrowned_13 (by decide) ?_
    exact x_zret true C hw h rfl dX7_isDrowned_17
set_option maxHeartbeats 4000000 in
set_option maxRecDepth 100000 in
theorem m_X7_isDrowned (l : Launch) {g : xG} (hD : x_D g) {o : Nat} (ho : xpL g o) {a1 : Int32} {u : xM} {Qf : Bool → xM → Prop} (h : p_X7_isDrowned o a1 u Qf) : Met l yX7_isDrowned (Cond.code yX7_isDrowned cX7_isDrowned 2 (some .boolean) :: wsL_law) (x_rm 0 0) (va_Pc [.ref (xad g (o + 1)), .int a1] (x_B g u)) (x_Qz g Qf) 0 0 (x_A g) := by
  refine Met.ofW (cc := cX7_isDrowned) (maxL := 2) (ret := (some .boolean)) (by decide) rfl ?_
  intro p e s m args below meth c s₁ B hml hv
  obtain ⟨rfl, hB⟩ := hv
  obtain ⟨C, hw⟩ := x_start B hml hD hB
  have hl := lv_entry [.ref (xad g (o + 1)), .int a1] (n := 2) (Nat.le_of_ble_eq_true rfl)
  rw [lg_entry_eq]
  exact s_X7_isDrowned C ho hw hl h
set_option maxHeartbeats 4000000 in
set_option maxRecDepth 100000 in
theorem s_J6_bitCount_0f7a4 {Qf : Int32 → xM → Prop} {a1 : Int32} (C : x_C p s m args meth c g RJ6 cJ6_bitCount_0f7a4 1 (some .int)) {u : xM} {H : Heap} {locs : List Loc} {ls : Array Slot} (hw : x_W g s.heap H locs u) (hl : lv_has ls 1 [(0, .int a1)]) (h : p_J6_bitCount_0f7a4 a1 u Qf) : W p l e (x_rm 0 0) s m args below meth c H locs 0 0 (MQ below (x_Qi g Qf) args s 0 0 (x_A g)) (F0 m 0 ls []) := by
  unfold p_J6_bitCount_0f7a4 at h
  have hx := C.1
  have hb := C.2.1
  refine lv_iload_n hx hb dJ6_bitCount_0f7a4_0 rfl (lv_at hl 0 rfl) ?_
  refine lv_iload_n hx hb dJ6_bitCount_0f7a4_1 rfl (lv_at hl 0 rfl) ?_
  refine lv_iconst (v := 1) hx hb dJ6_bitCount_0f7a4_2 (by decide) ?_
  refine lv_iushr hx hb dJ6_bitCount_0f7a4_3 rfl ?_
  refine lv_ldcw (v := 1431655765) hx hb C.2.2.2.1 (C.2.2.2.2.1 _ xw_1313) dJ6_bitCount_0f7a4_4 ?_
  refine lv_iand hx hb dJ6_bitCount_0f7a4_7 ?_
  refine lv_isub hx hb dJ6_bitCount_0f7a4_8 ?_
  refine lv_topi (fun x1 ex1 => ?_)
  have h := h x1 ex1
  refine lv_istore_n (lv' := [(0, .int x1)]) hx hb dJ6_bitCount_0f7a4_9 rfl hl (by decide) rfl (fun ls hl => ?_)
  refine lv_iload_n hx hb dJ6_bitCount_0f7a4_10 rfl (lv_at hl 0 rfl) ?_
  refine lv_ldcw (v := 858993459) hx hb C.2.2.2.1 (C.2.2.2.2.1 _ xw_1314) dJ6_bitCount_0f7a4_11 ?_
  refine lv_iand hx hb dJ6_bitCount_0f7a4_14 ?_
  refine lv_iload_n hx hb dJ6_bitCount_0f7a4_15 rfl (lv_at hl 0 rfl) ?_
  refine lv_iconst (v := 2) hx hb dJ6_bitCount_0f7a4_16 (by decide) ?_
  refine lv_iushr hx hb dJ6_bitCount_0f7a4_17 rfl ?_
  refine lv_ldcw (v := 858993459) hx hb C.2.2.2.1 (C.2.2.2.2.1 _ xw_1314) dJ6_bitCount_0f7a4_18 ?_
  refine lv_iand hx hb dJ6_bitCount_0f7a4_21 ?_
  refine lv_iadd hx hb dJ6_bitCount_0f7a4_22 ?_
  refine lv_topi (fun x2 ex2 => ?_)
  have h := h x2 ex2
  refine lv_istore_n (lv' := [(0, .int x2)]) hx hb dJ6_bitCount_0f7a4_23 rfl hl (by decide) rfl (fun ls hl => ?_)
  refine lv_iload_n hx hb dJ6_bitCount_0f7a4_24 rfl (lv_at hl 0 rfl) ?_
  refine lv_iload_n hx hb dJ6_bitCount_0f7a4_25 rfl (lv_at hl 0 rfl) ?_
  refine lv_iconst (v := 4) hx hb dJ6_bitCount_0f7a4_26 (by decide) ?_
  refine lv_iushr hx hb dJ6_bitCount_0f7a4_27 rfl ?_
  refine lv_iadd hx hb dJ6_bitCount_0f7a4_28 ?_
  refine lv_ldcw (v := 252645135) hx hb C.2.2.2.1 (C.2.2.2.2.1 _ xw_1315) dJ6_bitCount_0f7a4_29 ?_
  refine lv_iand hx hb dJ6_bitCount_0f7a4_32 ?_
  refine lv_topi (fun x3 ex3 => ?_)
  have h := h x3 ex3
  refine lv_istore_n (lv' := [(0, .int x3)]) hx hb dJ6_bitCount_0f7a4_33 rfl hl (by decide) rfl (fun ls hl => ?_)
  refine lv_iload_n hx hb dJ6_bitCount_0f7a4_34 rfl (lv_at hl 0 rfl) ?_
  refine lv_iload_n hx hb dJ6_bitCount_0f7a4_35 rfl (lv_at hl 0 rfl) ?_
  refine lv_bipush (v := 8) hx hb dJ6_bitCount_0f7a4_36 (by decide) ?_
  refine lv_iushr hx hb dJ6_bitCount_0f7a4_38 rfl ?_
  refine lv_iadd hx hb dJ6_bitCount_0f7a4_39 ?_
  refine lv_topi (fun x4 ex4 => ?_)
  have h := h x4 ex4
  refine lv_istore_n (lv' := [(0, .int x4)]) hx hb dJ6_bitCount_0f7a4_40 rfl hl (by decide) rfl (fun ls hl => ?_)
  refine lv_iload_n hx hb dJ6_bitCount_0f7a4_41 rfl (lv_at hl 0 rfl) ?_
  refine lv_iload_n hx hb dJ6_bitCount_0f7a4_42 rfl (lv_at hl 0 rfl) ?_
  refine lv_bipush (v := 16) hx hb dJ6_bitCount_0f7a4_43 (by decide) ?_
  refine lv_iushr hx hb dJ6_bitCount_0f7a4_45 rfl ?_
  refine lv_iadd hx hb dJ6_bitCount_0f7a4_46 ?_
  refine lv_topi (fun x5 ex5 => ?_)
  have h := h x5 ex5
  refine lv_istore_n (lv' := [(0, .int x5)]) hx hb dJ6_bitCount_0f7a4_47 rfl hl (by decide) rfl (fun ls hl => ?_)
  refine lv_iload_n hx hb dJ6_bitCount_0f7a4_48 rfl (lv_at hl 0 rfl) ?_
  refine lv_bipush (v := 63) hx hb dJ6_bitCount_0f7a4_49 (by decide) ?_
  refine lv_iand hx hb dJ6_bitCount_0f7a4_51 ?_
  exact x_iret C hw h dJ6_bitCount_0f7a4_52
set_option maxHeartbeats 4000000 in
set_option maxRecDepth 100000 in
theorem m_J6_bitCount_0f7a4 (l : Launch) {g : xG} (hD : x_D g) {a1 : Int32} {u : xM} {Qf : Int32 → xM → Prop} (h : p_J6_bitCount_0f7a4 a1 u Qf) : Met l yJ6_bitCount_0f7a4 (Cond.code yJ6_bitCount_0f7a4 cJ6_bitCount_0f7a4 1 (some .int) :: wsL_law) (x_rm 0 0) (va_Pc [.int a1] (x_B g u)) (x_Qi g Qf) 0 0 (x_A g) := by
  refine Met.ofW (cc := cJ6_bitCount_0f7a4) (maxL := 1) (ret := (some .int)) (by decide) rfl ?_
  intro p e s m args below meth c s₁ B hml hv
  obtain ⟨rfl, hB⟩ := hv
  obtain ⟨C, hw⟩ := x_start B hml hD hB
  have hl := lv_entry [.int a1] (n := 1) (Nat.le_of_ble_eq_true rfl)
  rw [lg_entry_eq]
  exact s_J6_bitCount_0f7a4 C hw hl h
set_option maxHeartbeats 4000000 in
set_option maxRecDepth 100000 in
theorem s_X10_build {Qf : Int32 → xM → Prop} {a1 : Int32} (C : x_C p s m args meth c g RX10 cX10_build 2 (some .int)) (hX : xpX g) {u : xM} {H : Heap} {locs : List Loc} {ls : Array Slot} (hw : x_W g s.heap H locs u) (hl : lv_has ls 2 [(0, .ref (xad g 0)), (1, .int a1)]) (h : p_X10_build a1 u Qf) : W p l e (x_rm 1 21) s m args below meth c H locs 0 0 (MQ below (x_Qi g Qf) args s 0 0 (x_A g)) (F0 m 0 ls []) := by
  unfold p_X10_build at h
  have hx := C.1
  have hb := C.2.1
  refine lv_aload_n hx hb dX10_build_0 rfl (lv_at hl 0 rfl) ?_
  refine lv_iload_n hx hb dX10_build_1 rfl (lv_at hl 1 rfl) ?_
  refine x_callz hw (x_runV (ci := 10) C hw (m_X10_isRoom l C.2.2.2.2.2.2.2.2.1 hX h) (xoX_0 hX) rfl (x_gV xw_936 xw_937 xw_938 xw_2 xw_939) rfl rfl qX10_isRoom ⟨(Nat.le_of_ble_eq_true rfl), (Nat.le_of_ble_eq_true rfl)⟩ rfl hl.1 rfl (Nat.le_of_ble_eq_true rfl) dX10_build_2) (fun r2 u1 H locs hw h => ?_)
  refine lv_if_ne (tgt := 14) hx hb dX10_build_5 (by decide) (fun c3 => ?_) (fun c3 => ?_)
  · have h := h.1 (xb_t c3)
    refine lv_aload_n hx hb dX10_build_14 rfl (lv_at hl 0 rfl) ?_
    refine x_getr (ci := 10) C hw 0 (xoX_0 hX) rfl inlX10 (by decide) rfl rfl xrX_0_0 xw_16 dX10_build_15 ?_
    refine x_getr (ci := 1) C hw 0 (xoL_0 (xpL_83 hX)) rfl inlX1 (by decide) rfl rfl (xrL_0_0 (xpL_83 hX)) xw_858 dX10_build_18 ?_
    refine lv_iload_n hx hb dX10_build_21 rfl (lv_at hl 1 rfl) ?_
    refine x_callz hw (x_runV (ci := 7) C hw (m_X7_isDrowned l C.2.2.2.2.2.2.2.2.1 (xpL_83 hX) h) (xoL_1 (xpL_83 hX)) rfl (x_gV xw_1305 xw_1306 xw_1307 xw_57 xw_1308) rfl rfl qX7_isDrowned ⟨(Nat.le_of_ble_eq_true rfl), (Nat.le_of_ble_eq_true rfl)⟩ rfl hl.1 rfl (Nat.le_of_ble_eq_true rfl) dX10_build_22) (fun r5 u4 H locs hw h => ?_)
    refine lv_if_ne (tgt := 35) hx hb dX10_build_25 (by decide) (fun c6 => ?_) (fun c6 => ?_)
    · have h := h.1 (xb_t c6)
      refine lv_aload_n hx hb dX10_build_35 rfl (lv_at hl 0 rfl) ?_
      refine x_getr (ci := 10) C hw 0 (xoX_0 hX) rfl inlX10 (by decide) rfl rfl xrX_0_0 xw_16 dX10_build_36 ?_
      refine x_getr (ci := 1) C hw 0 (xoL_0 (xpL_83 hX)) rfl inlX1 (by decide) rfl rfl (xrL_0_0 (xpL_83 hX)) xw_858 dX10_build_39 ?_
      refine lv_dup hx hb dX10_build_42 rfl ?_
      refine x_geti (ci := 7) C hw 1 (xoL_1 (xpL_83 hX)) rfl inlX7 (by decide) rfl rfl xw_862 dX10_build_43 ?_
      refine lv_iconst (v := 1) hx hb dX10_build_46 (by decide) ?_
      refine lv_iload_n hx hb dX10_build_47 rfl (lv_at hl 1 rfl) ?_
      refine lv_ishl hx hb dX10_build_48 ?_
      refine lv_iconst (v := -1) hx hb dX10_build_49 (by decide) ?_
      refine lv_ixor hx hb dX10_build_50 ?_
      refine lv_iand hx hb dX10_build_51 ?_
      obtain ⟨u7, eu7⟩ : ∃ q : xM, q = si u4 84 1 ((gi u4 84 1) &&& (((1 : Int32) <<< (a1 &&& 31)) ^^^ (-1 : Int32))) := ⟨_, rfl⟩
      have h := h u7 eu7
      refine x_puti (ci := 7) (ty := .int) C hw 1 (xoL_1 (xpL_83 hX)) rfl inlX7 tyX7_ok nmX7 (by decide) rfl rfl xw_862 rfl (by decide +kernel) rfl rfl dX10_build_52 eu7 (fun H locs hw => ?_)
      refine lv_aload_n hx hb dX10_build_55 rfl (lv_at hl 0 rfl) ?_
      refine lv_aload_n hx hb dX10_build_56 rfl (lv_at hl 0 rfl) ?_
      refine x_getr (ci := 10) C hw 0 (xoX_0 hX) rfl inlX10 (by decide) rfl rfl xrX_0_0 xw_16 dX10_build_57 ?_
      refine x_getr (ci := 1) C hw 0 (xoL_0 (xpL_83 hX)) rfl inlX1 (by decide) rfl rfl (xrL_0_0 (xpL_83 hX)) xw_858 dX10_build_60 ?_
      refine x_geti (ci := 7) C hw 1 (xoL_1 (xpL_83 hX)) rfl inlX7 (by decide) rfl rfl xw_862 dX10_build_63 ?_
      refine x_calli hw (x_runS C hw (m_J6_bitCount_0f7a4 l C.2.2.2.2.2.2.2.2.1  h) (x_gS xw_1309 xw_1310 xw_1311 xw_1312) rfl rfl qJ6_bitCount_0f7a4 ⟨(Nat.le_of_ble_eq_true rfl), (Nat.le_of_ble_eq_true rfl)⟩ rfl hl.1 rfl (Nat.le_of_ble_eq_true rfl) dX10_build_66) (fun r9 u8 H locs hw h => ?_)
      refine x_calli hw (x_runV (ci := 10) C hw (m_X10_fine l C.2.2.2.2.2.2.2.2.1 hX h) (xoX_0 hX) rfl (x_gV xw_622 xw_623 xw_624 xw_2 xw_625) rfl rfl qX10_fine ⟨(Nat.le_of_ble_eq_true rfl), (Nat.le_of_ble_eq_true rfl)⟩ rfl hl.1 rfl (Nat.le_of_ble_eq_true rfl) dX10_build_69) (fun r11 u10 H locs hw h => ?_)
      exact x_iret C hw h dX10_build_72
    · have h := h.2 (xb_f c6)
      refine lv_aload_n hx hb dX10_build_28 rfl (lv_at hl 0 rfl) ?_
      refine lv_bipush (v := 7) hx hb dX10_build_29 (by decide) ?_
      refine x_calli hw (x_runV (ci := 10) C hw (m_X10_none l C.2.2.2.2.2.2.2.2.1 hX h) (xoX_0 hX) rfl (x_gV xw_343 xw_344 xw_345 xw_2 xw_346) rfl rfl qX10_none ⟨(Nat.le_of_ble_eq_true rfl), (Nat.le_of_ble_eq_true rfl)⟩ rfl hl.1 rfl (Nat.le_of_ble_eq_true rfl) dX10_build_31) (fun r13 u12 H locs hw h => ?_)
      exact x_iret C hw h dX10_build_34
  · have h := h.2 (xb_f c3)
    refine lv_aload_n hx hb dX10_build_8 rfl (lv_at hl 0 rfl) ?_
    refine lv_iconst (v := 1) hx hb dX10_build_9 (by decide) ?_
    refine x_calli hw (x_runV (ci := 10) C hw (m_X10_none l C.2.2.2.2.2.2.2.2.1 hX h) (xoX_0 hX) rfl (x_gV xw_343 xw_344 xw_345 xw_2 xw_346) rfl rfl qX10_none ⟨(Nat.le_of_ble_eq_true rfl), (Nat.le_of_ble_eq_true rfl)⟩ rfl hl.1 rfl (Nat.le_of_ble_eq_true rfl) dX10_build_10) (fun r15 u14 H locs hw h => ?_)
    exact x_iret C hw h dX10_build_13
set_option maxHeartbeats 4000000 in
set_option maxRecDepth 100000 in
theorem m_X10_build (l : Launch) {g : xG} (hD : x_D g) (hX : xpX g) {a1 : Int32} {u : xM} {Qf : Int32 → xM → Prop} (h : p_X10_build a1 u Qf) : Met l yX10_build (Cond.code yX10_build cX10_build 2 (some .int) :: wsL_law) (x_rm 1 21) (va_Pc [.ref (xad g 0), .int a1] (x_B g u)) (x_Qi g Qf) 0 0 (x_A g) := by
  refine Met.ofW (cc := cX10_build) (maxL := 2) (ret := (some .int)) (by decide) rfl ?_
  intro p e s m args below meth c s₁ B hml hv
  obtain ⟨rfl, hB⟩ := hv
  obtain ⟨C, hw⟩ := x_start B hml hD hB
  have hl := lv_entry [.ref (xad g 0), .int a1] (n := 2) (Nat.le_of_ble_eq_true rfl)
  rw [lg_entry_eq]
  exact s_X10_build C hX hw hl h
set_option maxHeartbeats 4000000 in
set_option maxRecDepth 100000 in
theorem s_X10_asItIs {Qf : xM → Prop} (C : x_C p s m args meth c g RX10 cX10_asItIs 1 (some (.object "DryDoors$Land"))) (hX : xpX g) {u : xM} {H : Heap} {locs : List Loc} {ls : Array Slot} (hw : x_W g s.heap H locs u) (hl : lv_has ls 1 [(0, .ref (xad g 0))]) (h : p_X10_asItIs  u Qf) : W p l e (x_rm 3 122) s m args below meth c H locs 0 0 (MQ below (x_Qr g 110 Qf) args s 0 0 (x_A g)) (F0 m 0 ls []) := by
  unfold p_X10_asItIs at h
  have hx := C.1
  have hb := C.2.1
  refine lv_aload_n hx hb dX10_asItIs_0 rfl (lv_at hl 0 rfl) ?_
  refine x_getr (ci := 10) C hw 2 (xoX_0 hX) rfl inlX10 (by decide) rfl rfl xrX_0_2 xw_21 dX10_asItIs_1 ?_
  refine lv_aload_n hx hb dX10_asItIs_4 rfl (lv_at hl 0 rfl) ?_
  refine x_getr (ci := 10) C hw 0 (xoX_0 hX) rfl inlX10 (by decide) rfl rfl xrX_0_0 xw_16 dX10_asItIs_5 ?_
  refine x_callv hw (x_runV (ci := 1) C hw (m_X1_copyFrom l C.2.2.2.2.2.2.2.2.1 (xpL_110 hX) (xpL_83 hX) h) (xoL_0 (xpL_110 hX)) rfl (x_gV xw_600 xw_601 xw_602 xw_15 xw_603) rfl rfl qX1_copyFrom ⟨(Nat.le_of_ble_eq_true rfl), (Nat.le_of_ble_eq_true rfl)⟩ rfl hl.1 rfl (Nat.le_of_ble_eq_true rfl) dX10_asItIs_8) (fun u1 H locs hw h => ?_)
  refine lv_aload_n hx hb dX10_asItIs_11 rfl (lv_at hl 0 rfl) ?_
  refine x_getr (ci := 10) C hw 2 (xoX_0 hX) rfl inlX10 (by decide) rfl rfl xrX_0_2 xw_21 dX10_asItIs_12 ?_
  exact x_rret C hw h dX10_asItIs_15
set_option maxHeartbeats 4000000 in
set_option maxRecDepth 100000 in
theorem m_X10_asItIs (l : Launch) {g : xG} (hD : x_D g) (hX : xpX g) {u : xM} {Qf : xM → Prop} (h : p_X10_asItIs  u Qf) : Met l yX10_asItIs (Cond.code yX10_asItIs cX10_asItIs 1 (some (.object "DryDoors$Land")) :: wsL_law) (x_rm 3 122) (va_Pc [.ref (xad g 0)] (x_B g u)) (x_Qr g 110 Qf) 0 0 (x_A g) := by
  refine Met.ofW (cc := cX10_asItIs) (maxL := 1) (ret := (some (.object "DryDoors$Land"))) (by decide) rfl ?_
  intro p e s m args below meth c s₁ B hml hv
  obtain ⟨rfl, hB⟩ := hv
  obtain ⟨C, hw⟩ := x_start B hml hD hB
  have hl := lv_entry [.ref (xad g 0)] (n := 1) (Nat.le_of_ble_eq_true rfl)
  rw [lg_entry_eq]
  exact s_X10_asItIs C hX hw hl h
set_option maxHeartbeats 4000000 in
set_option maxRecDepth 100000 in
theorem s_X10_drownedMore {o1 : Nat} {Qf : Int32 → xM → Prop} (C : x_C p s m args meth c g RX10 cX10_drownedMore 2 (some .int)) (hX : xpX g) (ho1 : xpL g o1) {u : xM} {H : Heap} {locs : List Loc} {ls : Array Slot} (hw : x_W g s.heap H locs u) (hl : lv_has ls 2 [(0, .ref (xad g 0)), (1, .ref (xad g o1))]) (h : p_X10_drownedMore o1 u Qf) : W p l e (x_rm 0 0) s m args below meth c H locs 0 0 (MQ below (x_Qi g Qf) args s 0 0 (x_A g)) (F0 m 0 ls []) := by
  unfold p_X10_drownedMore at h
  have hx := C.1
  have hb := C.2.1
  refine lv_aload_n hx hb dX10_drownedMore_0 rfl (lv_at hl 1 rfl) ?_
  refine x_getr (ci := 1) C hw 0 (xoL_0 ho1) rfl inlX1 (by decide) rfl rfl (xrL_0_0 ho1) xw_858 dX10_drownedMore_1 ?_
  refine x_geti (ci := 7) C hw 1 (xoL_1 ho1) rfl inlX7 (by decide) rfl rfl xw_862 dX10_drownedMore_4 ?_
  refine lv_aload_n hx hb dX10_drownedMore_7 rfl (lv_at hl 0 rfl) ?_
  refine x_getr (ci := 10) C hw 0 (xoX_0 hX) rfl inlX10 (by decide) rfl rfl xrX_0_0 xw_16 dX10_drownedMore_8 ?_
  refine x_getr (ci := 1) C hw 0 (xoL_0 (xpL_83 hX)) rfl inlX1 (by decide) rfl rfl (xrL_0_0 (xpL_83 hX)) xw_858 dX10_drownedMore_11 ?_
  refine x_geti (ci := 7) C hw 1 (xoL_1 (xpL_83 hX)) rfl inlX7 (by decide) rfl rfl xw_862 dX10_drownedMore_14 ?_
  refine lv_iconst (v := -1) hx hb dX10_drownedMore_17 (by decide) ?_
  refine lv_ixor hx hb dX10_drownedMore_18 ?_
  refine lv_iand hx hb dX10_drownedMore_19 ?_
  exact x_iret C hw h dX10_drownedMore_20
set_option maxHeartbeats 4000000 in
set_option maxRecDepth 100000 in
theorem m_X10_drownedMore (l : Launch) {g : xG} (hD : x_D g) {o1 : Nat} (hX : xpX g) (ho1 : xpL g o1) {u : xM} {Qf : Int32 → xM → Prop} (h : p_X10_drownedMore o1 u Qf) : Met l yX10_drownedMore (Cond.code yX10_drownedMore cX10_drownedMore 2 (some .int) :: wsL_law) (x_rm 0 0) (va_Pc [.ref (xad g 0), .ref (xad g o1)] (x_B g u)) (x_Qi g Qf) 0 0 (x_A g) := by
  refine Met.ofW (cc := cX10_drownedMore) (maxL := 2) (ret := (some .int)) (by decide) rfl ?_
  intro p e s m args below meth c s₁ B hml hv
  obtain ⟨rfl, hB⟩ := hv
  obtain ⟨C, hw⟩ := x_start B hml hD hB
  have hl := lv_entry [.ref (xad g 0), .ref (xad g o1)] (n := 2) (Nat.le_of_ble_eq_true rfl)
  rw [lg_entry_eq]
  exact s_X10_drownedMore C hX ho1 hw hl h
set_option maxHeartbeats 4000000 in
set_option maxRecDepth 100000 in
theorem s_X10_later {Qf : Int32 → xM → Prop} {a1 : Int32} {a2 : Int32} (C : x_C p s m args meth c g RX10 cX10_later 4 (some .int)) (hX : xpX g) {u : xM} {H : Heap} {locs : List Loc} {ls : Array Slot} (hw : x_W g s.heap H locs u) (hl : lv_has ls 4 [(0, .ref (xad g 0)), (1, .int a1), (2, .int a2)]) (h : p_X10_later a1 a2 u Qf) : W p l e (x_rm 4 152) s m args below meth c H locs 0 0 (MQ below (x_Qi g Qf) args s 0 0 (x_A g)) (F0 m 0 ls []) := by
  unfold p_X10_later at h
  have hx := C.1
  have hb := C.2.1
  refine lv_aload_n hx hb dX10_later_0 rfl (lv_at hl 0 rfl) ?_
  refine lv_iload_n hx hb dX10_later_1 rfl (lv_at hl 1 rfl) ?_
  refine x_callz hw (x_runV (ci := 10) C hw (m_X10_isRoom l C.2.2.2.2.2.2.2.2.1 hX h) (xoX_0 hX) rfl (x_gV xw_936 xw_937 xw_938 xw_2 xw_939) rfl rfl qX10_isRoom ⟨(Nat.le_of_ble_eq_true rfl), (Nat.le_of_ble_eq_true rfl)⟩ rfl hl.1 rfl (Nat.le_of_ble_eq_true rfl) dX10_later_2) (fun r2 u1 H locs hw h => ?_)
  refine lv_if_eq (tgt := 18) hx hb dX10_later_5 (by decide) (fun c3 => ?_) (fun c3 => ?_)
  · have h := h.1 (xb_f c3)
    refine lv_aload_n hx hb dX10_later_18 rfl (lv_at hl 0 rfl) ?_
    refine lv_iconst (v := 1) hx hb dX10_later_19 (by decide) ?_
    refine x_calli hw (x_runV (ci := 10) C hw (m_X10_none l C.2.2.2.2.2.2.2.2.1 hX h) (xoX_0 hX) rfl (x_gV xw_343 xw_344 xw_345 xw_2 xw_346) rfl rfl qX10_none ⟨(Nat.le_of_ble_eq_true rfl), (Nat.le_of_ble_eq_true rfl)⟩ rfl hl.1 rfl (Nat.le_of_ble_eq_true rfl) dX10_later_20) (fun r5 u4 H locs hw h => ?_)
    exact x_iret C hw h dX10_later_23
  · have h := h.2 (xb_t c3)
    refine lv_iload_n hx hb dX10_later_8 rfl (lv_at hl 2 rfl) ?_
    refine lv_iconst (v := 0) hx hb dX10_later_9 (by decide) ?_
    refine lv_bipush (v := 99) hx hb dX10_later_10 (by decide) ?_
    refine x_callz hw (x_runS C hw (m_X10_isWithin l C.2.2.2.2.2.2.2.2.1  h) (x_gS xw_280 xw_281 xw_2 xw_282) rfl rfl qX10_isWithin ⟨(Nat.le_of_ble_eq_true rfl), (Nat.le_of_ble_eq_true rfl)⟩ rfl hl.1 rfl (Nat.le_of_ble_eq_true rfl) dX10_later_12) (fun r7 u6 H locs hw h => ?_)
    refine lv_if_ne (tgt := 24) hx hb dX10_later_15 (by decide) (fun c8 => ?_) (fun c8 => ?_)
    · have h := h.1 (xb_t c8)
      refine lv_aload_n hx hb dX10_later_24 rfl (lv_at hl 0 rfl) ?_
      refine x_callr hw (x_runV (ci := 10) C hw (m_X10_asItIs l C.2.2.2.2.2.2.2.2.1 hX h) (xoX_0 hX) rfl (x_gV xw_1327 xw_1328 xw_1329 xw_2 xw_1330) rfl rfl qX10_asItIs ⟨(Nat.le_of_ble_eq_true rfl), (Nat.le_of_ble_eq_true rfl)⟩ rfl hl.1 rfl (Nat.le_of_ble_eq_true rfl) dX10_later_25) (fun u9 H locs hw h => ?_)
      refine lv_astore_n (lv' := [(3, .ref (xad g 110)), (0, .ref (xad g 0)), (1, .int a1), (2, .int a2)]) hx hb dX10_later_28 rfl hl (by decide) rfl (fun ls hl => ?_)
      refine lv_aload_n hx hb dX10_later_29 rfl (lv_at hl 0 rfl) ?_
      refine lv_iload_n hx hb dX10_later_30 rfl (lv_at hl 3 rfl) ?_
      refine x_callv hw (x_runV (ci := 1) C hw (m_X1_goOn l C.2.2.2.2.2.2.2.2.1 (xpL_110 hX) h) (xoL_0 (xpL_110 hX)) rfl (x_gV xw_1160 xw_1161 xw_1162 xw_15 xw_1163) rfl rfl qX1_goOn ⟨(Nat.le_of_ble_eq_true rfl), (Nat.le_of_ble_eq_true rfl)⟩ rfl hl.1 rfl (Nat.le_of_ble_eq_true rfl) dX10_later_31) (fun u10 H locs hw h => ?_)
      refine lv_aload_n hx hb dX10_later_34 rfl (lv_at hl 1 rfl) ?_
      refine lv_aload_n hx hb dX10_later_35 rfl (lv_at hl 0 rfl) ?_
      refine x_getr (ci := 1) C hw 0 (xoL_0 (xpL_110 hX)) rfl inlX1 (by decide) rfl rfl (xrL_0_0 (xpL_110 hX)) xw_858 dX10_later_36 ?_
      refine x_getr (ci := 7) C hw 7 (xoL_1 (xpL_110 hX)) rfl inlX7 (by decide) rfl rfl (xrL_1_7 (xpL_110 hX)) xw_934 dX10_later_39 ?_
      refine lv_iload_n hx hb dX10_later_42 rfl (lv_at hl 2 rfl) ?_
      have c11 := h.1
      have h := h.2
      refine x_iald C hw (xoL_7 (xpL_110 hX)) c11 dX10_later_43 ?_
      refine x_calli hw (x_runV (ci := 10) C hw (m_X10_fine l C.2.2.2.2.2.2.2.2.1 hX h) (xoX_0 hX) rfl (x_gV xw_622 xw_623 xw_624 xw_2 xw_625) rfl rfl qX10_fine ⟨(Nat.le_of_ble_eq_true rfl), (Nat.le_of_ble_eq_true rfl)⟩ rfl hl.1 rfl (Nat.le_of_ble_eq_true rfl) dX10_later_44) (fun r13 u12 H locs hw h => ?_)
      exact x_iret C hw h dX10_later_47
    · have h := h.2 (xb_f c8)
      refine lv_aload_n hx hb dX10_later_18 rfl (lv_at hl 0 rfl) ?_
      refine lv_iconst (v := 1) hx hb dX10_later_19 (by decide) ?_
      refine x_calli hw (x_runV (ci := 10) C hw (m_X10_none l C.2.2.2.2.2.2.2.2.1 hX h) (xoX_0 hX) rfl (x_gV xw_343 xw_344 xw_345 xw_2 xw_346) rfl rfl qX10_none ⟨(Nat.le_of_ble_eq_true rfl), (Nat.le_of_ble_eq_true rfl)⟩ rfl hl.1 rfl (Nat.le_of_ble_eq_true rfl) dX10_later_20) (fun r15 u14 H locs hw h => ?_)
      exact x_iret C hw h dX10_later_23
set_option maxHeartbeats 4000000 in
set_option maxRecDepth 100000 in
theorem m_X10_later (l : Launch) {g : xG} (hD : x_D g) (hX : xpX g) {a1 : Int32} {a2 : Int32} {u : xM} {Qf : Int32 → xM → Prop} (h : p_X10_later a1 a2 u Qf) : Met l yX10_later (Cond.code yX10_later cX10_later 4 (some .int) :: wsL_law) (x_rm 4 152) (va_Pc [.ref (xad g 0), .int a1, .int a2] (x_B g u)) (x_Qi g Qf) 0 0 (x_A g) := by
  refine Met.ofW (cc := cX10_later) (maxL := 4) (ret := (some .int)) (by decide) rfl ?_
  intro p e s m args below meth c s₁ B hml hv
  obtain ⟨rfl, hB⟩ := hv
  obtain ⟨C, hw⟩ := x_start B hml hD hB
  have hl := lv_entry [.ref (xad g 0), .int a1, .int a2] (n := 4) (Nat.le_of_ble_eq_true rfl)
  rw [lg_entry_eq]
  exact s_X10_later C hX hw hl h
set_option maxHeartbeats 4000000 in
set_option maxRecDepth 100000 in
theorem s_X1_waterIn {o : Nat} {Qf : Int32 → xM → Prop} {a1 : Int32} (C : x_C p s m args meth c g RX1 cX1_waterIn 2 (some .int)) (ho : xpL g o) {u : xM} {H : Heap} {locs : List Loc} {ls : Array Slot} (hw : x_W g s.heap H locs u) (hl : lv_has ls 2 [(0, .ref (xad g o)), (1, .int a1)]) (h : p_X1_waterIn o a1 u Qf) : W p l e (x_rm 4 152) s m args below meth c H locs 0 0 (MQ below (x_Qi g Qf) args s 0 0 (x_A g)) (F0 m 0 ls []) := by
  unfold p_X1_waterIn at h
  have hx := C.1
  have hb := C.2.1
  refine lv_aload_n hx hb dX1_waterIn_0 rfl (lv_at hl 0 rfl) ?_
  refine lv_iload_n hx hb dX1_waterIn_1 rfl (lv_at hl 1 rfl) ?_
  refine x_callv hw (x_runV (ci := 1) C hw (m_X1_goOn l C.2.2.2.2.2.2.2.2.1 ho h) (xoL_0 ho) rfl (x_gV xw_1358 xw_1161 xw_1162 xw_15 xw_1163) rfl rfl qX1_goOn ⟨(Nat.le_of_ble_eq_true rfl), (Nat.le_of_ble_eq_true rfl)⟩ rfl hl.1 rfl (Nat.le_of_ble_eq_true rfl) dX1_waterIn_2) (fun u1 H locs hw h => ?_)
  refine lv_aload_n hx hb dX1_waterIn_5 rfl (lv_at hl 0 rfl) ?_
  refine x_getr (ci := 1) C hw 0 (xoL_0 ho) rfl inlX1 (by decide) rfl rfl (xrL_0_0 ho) xw_58 dX1_waterIn_6 ?_
  refine x_calli hw (x_runV (ci := 7) C hw (m_X7_allWater l C.2.2.2.2.2.2.2.2.1 ho h) (xoL_1 ho) rfl (x_gV xw_1359 xw_866 xw_867 xw_57 xw_868) rfl rfl qX7_allWater ⟨(Nat.le_of_ble_eq_true rfl), (Nat.le_of_ble_eq_true rfl)⟩ rfl hl.1 rfl (Nat.le_of_ble_eq_true rfl) dX1_waterIn_9) (fun r3 u2 H locs hw h => ?_)
  exact x_iret C hw h dX1_waterIn_12
set_option maxHeartbeats 4000000 in
set_option maxRecDepth 100000 in
theorem m_X1_waterIn (l : Launch) {g : xG} (hD : x_D g) {o : Nat} (ho : xpL g o) {a1 : Int32} {u : xM} {Qf : Int32 → xM → Prop} (h : p_X1_waterIn o a1 u Qf) : Met l yX1_waterIn (Cond.code yX1_waterIn cX1_waterIn 2 (some .int) :: wsL_law) (x_rm 4 152) (va_Pc [.ref (xad g o), .int a1] (x_B g u)) (x_Qi g Qf) 0 0 (x_A g) := by
  refine Met.ofW (cc := cX1_waterIn) (maxL := 2) (ret := (some .int)) (by decide) rfl ?_
  intro p e s m args below meth c s₁ B hml hv
  obtain ⟨rfl, hB⟩ := hv
  obtain ⟨C, hw⟩ := x_start B hml hD hB
  have hl := lv_entry [.ref (xad g o), .int a1] (n := 2) (Nat.le_of_ble_eq_true rfl)
  rw [lg_entry_eq]
  exact s_X1_waterIn C ho hw hl h
set_option maxHeartbeats 4000000 in
set_option maxRecDepth 100000 in
theorem s_X10_allLater {Qf : Int32 → xM → Prop} {a1 : Int32} (C : x_C p s m args meth c g RX10 cX10_allLater 2 (some .int)) (hX : xpX g) {u : xM} {H : Heap} {locs : List Loc} {ls : Array Slot} (hw : x_W g s.heap H locs u) (hl : lv_has ls 2 [(0, .ref (xad g 0)), (1, .int a1)]) (h : p_X10_allLater a1 u Qf) : W p l e (x_rm 5 173) s m args below meth c H locs 0 0 (MQ below (x_Qi g Qf) args s 0 0 (x_A g)) (F0 m 0 ls []) := by
  unfold p_X10_allLater at h
  have hx := C.1
  have hb := C.2.1
  refine lv_iload_n hx hb dX10_allLater_0 rfl (lv_at hl 1 rfl) ?_
  refine lv_iconst (v := 0) hx hb dX10_allLater_1 (by decide) ?_
  refine lv_bipush (v := 99) hx hb dX10_allLater_2 (by decide) ?_
  refine x_callz hw (x_runS C hw (m_X10_isWithin l C.2.2.2.2.2.2.2.2.1  h) (x_gS xw_280 xw_281 xw_2 xw_282) rfl rfl qX10_isWithin ⟨(Nat.le_of_ble_eq_true rfl), (Nat.le_of_ble_eq_true rfl)⟩ rfl hl.1 rfl (Nat.le_of_ble_eq_true rfl) dX10_allLater_4) (fun r2 u1 H locs hw h => ?_)
  refine lv_if_ne (tgt := 16) hx hb dX10_allLater_7 (by decide) (fun c3 => ?_) (fun c3 => ?_)
  · have h := h.1 (xb_t c3)
    refine lv_aload_n hx hb dX10_allLater_16 rfl (lv_at hl 0 rfl) ?_
    refine lv_aload_n hx hb dX10_allLater_17 rfl (lv_at hl 0 rfl) ?_
    refine x_callr hw (x_runV (ci := 10) C hw (m_X10_asItIs l C.2.2.2.2.2.2.2.2.1 hX h) (xoX_0 hX) rfl (x_gV xw_1327 xw_1328 xw_1329 xw_2 xw_1330) rfl rfl qX10_asItIs ⟨(Nat.le_of_ble_eq_true rfl), (Nat.le_of_ble_eq_true rfl)⟩ rfl hl.1 rfl (Nat.le_of_ble_eq_true rfl) dX10_allLater_18) (fun u4 H locs hw h => ?_)
    refine lv_iload_n hx hb dX10_allLater_21 rfl (lv_at hl 1 rfl) ?_
    refine x_calli hw (x_runV (ci := 1) C hw (m_X1_waterIn l C.2.2.2.2.2.2.2.2.1 (xpL_110 hX) h) (xoL_0 (xpL_110 hX)) rfl (x_gV xw_1354 xw_1355 xw_1356 xw_15 xw_1357) rfl rfl qX1_waterIn ⟨(Nat.le_of_ble_eq_true rfl), (Nat.le_of_ble_eq_true rfl)⟩ rfl hl.1 rfl (Nat.le_of_ble_eq_true rfl) dX10_allLater_22) (fun r6 u5 H locs hw h => ?_)
    refine x_calli hw (x_runV (ci := 10) C hw (m_X10_fine l C.2.2.2.2.2.2.2.2.1 hX h) (xoX_0 hX) rfl (x_gV xw_622 xw_623 xw_624 xw_2 xw_625) rfl rfl qX10_fine ⟨(Nat.le_of_ble_eq_true rfl), (Nat.le_of_ble_eq_true rfl)⟩ rfl hl.1 rfl (Nat.le_of_ble_eq_true rfl) dX10_allLater_25) (fun r8 u7 H locs hw h => ?_)
    exact x_iret C hw h dX10_allLater_28
  · have h := h.2 (xb_f c3)
    refine lv_aload_n hx hb dX10_allLater_10 rfl (lv_at hl 0 rfl) ?_
    refine lv_iconst (v := 1) hx hb dX10_allLater_11 (by decide) ?_
    refine x_calli hw (x_runV (ci := 10) C hw (m_X10_none l C.2.2.2.2.2.2.2.2.1 hX h) (xoX_0 hX) rfl (x_gV xw_343 xw_344 xw_345 xw_2 xw_346) rfl rfl qX10_none ⟨(Nat.le_of_ble_eq_true rfl), (Nat.le_of_ble_eq_true rfl)⟩ rfl hl.1 rfl (Nat.le_of_ble_eq_true rfl) dX10_allLater_12) (fun r10 u9 H locs hw h => ?_)
    exact x_iret C hw h dX10_allLater_15
set_option maxHeartbeats 4000000 in
set_option maxRecDepth 100000 in
theorem m_X10_allLater (l : Launch) {g : xG} (hD : x_D g) (hX : xpX g) {a1 : Int32} {u : xM} {Qf : Int32 → xM → Prop} (h : p_X10_allLater a1 u Qf) : Met l yX10_allLater (Cond.code yX10_allLater cX10_allLater 2 (some .int) :: wsL_law) (x_rm 5 173) (va_Pc [.ref (xad g 0), .int a1] (x_B g u)) (x_Qi g Qf) 0 0 (x_A g) := by
  refine Met.ofW (cc := cX10_allLater) (maxL := 2) (ret := (some .int)) (by decide) rfl ?_
  intro p e s m args below meth c s₁ B hml hv
  obtain ⟨rfl, hB⟩ := hv
  obtain ⟨C, hw⟩ := x_start B hml hD hB
  have hl := lv_entry [.ref (xad g 0), .int a1] (n := 2) (Nat.le_of_ble_eq_true rfl)
  rw [lg_entry_eq]
  exact s_X10_allLater C hX hw hl h
set_option maxHeartbeats 4000000 in
set_option maxRecDepth 100000 in
theorem s_X10_wetIn_L21 {Qf : Int32 → xM → Prop} (C : x_C p s m args meth c g RX10 cX10_wetIn 4 (some .int)) (hX : xpX g) : ∀ (nn : Nat) {v1 : Int32} {v3 : Int32} {u : xM} {H : Heap} {locs : List Loc} {ls : Array Slot} (hw : x_W g s.heap H locs u) (hl : lv_has ls 4 [(0, .ref (xad g 0)), (1, .int v1), (2, .ref (xad g 110)), (3, .int v3)]) (h : p_X10_wetIn_L21 Qf nn v1 v3 u), W p l e (x_rm 4 142) s m args below meth c H locs 0 0 (MQ below (x_Qi g Qf) args s 0 0 (x_A g)) (F0 m 21 ls []) := by
  intro nn
  induction nn with
  | zero => intro v1 v3 u H locs ls hw hl h; exact h.elim
  | succ nn ih =>
    intro v1 v3 u H locs ls hw hl h
    unfold p_X10_wetIn_L21 at h
    have hx := C.1
    have hb := C.2.1
    refine lv_iload_n hx hb dX10_wetIn_21 rfl (lv_at hl 3 rfl) ?_
    refine lv_bipush (v := 99) hx hb dX10_wetIn_22 (by decide) ?_
    refine lv_icmp_gt (tgt := 54) hx hb dX10_wetIn_24 (by decide) (fun c1 => ?_) (fun c1 => ?_)
    · have h := h.1 c1
      refine lv_aload_n hx hb dX10_wetIn_54 rfl (lv_at hl 0 rfl) ?_
      refine lv_bipush (v := 6) hx hb dX10_wetIn_55 (by decide) ?_
      refine x_calli hw (x_runV (ci := 10) C hw (m_X10_none l C.2.2.2.2.2.2.2.2.1 hX h) (xoX_0 hX) rfl (x_gV xw_343 xw_344 xw_345 xw_2 xw_346) rfl rfl qX10_none ⟨(Nat.le_of_ble_eq_true rfl), (Nat.le_of_ble_eq_true rfl)⟩ rfl hl.1 rfl (Nat.le_of_ble_eq_true rfl) dX10_wetIn_57) (fun r3 u2 H locs hw h => ?_)
      exact x_iret C hw h dX10_wetIn_60
    · have h := h.2 c1
      refine lv_aload_n hx hb dX10_wetIn_27 rfl (lv_at hl 2 rfl) ?_
      refine x_getr (ci := 1) C hw 0 (xoL_0 (xpL_110 hX)) rfl inlX1 (by decide) rfl rfl (xrL_0_0 (xpL_110 hX)) xw_858 dX10_wetIn_28 ?_
      refine lv_iload_n hx hb dX10_wetIn_31 rfl (lv_at hl 1 rfl) ?_
      refine x_calli hw (x_runV (ci := 7) C hw (m_X7_depth l C.2.2.2.2.2.2.2.2.1 (xpL_110 hX) h) (xoL_1 (xpL_110 hX)) rfl (x_gV xw_940 xw_874 xw_875 xw_57 xw_876) rfl rfl qX7_depth ⟨(Nat.le_of_ble_eq_true rfl), (Nat.le_of_ble_eq_true rfl)⟩ rfl hl.1 rfl (Nat.le_of_ble_eq_true rfl) dX10_wetIn_32) (fun r5 u4 H locs hw h => ?_)
      refine lv_if_le (tgt := 44) hx hb dX10_wetIn_35 (by decide) (fun c6 => ?_) (fun c6 => ?_)
      · have h := h.1 c6
        refine lv_aload_n hx hb dX10_wetIn_44 rfl (lv_at hl 2 rfl) ?_
        refine x_callv hw (x_runV (ci := 1) C hw (m_X1_goOneHour l C.2.2.2.2.2.2.2.2.1 (xpL_110 hX) h) (xoL_0 (xpL_110 hX)) rfl (x_gV xw_1368 xw_1165 xw_1166 xw_15 xw_1167) rfl rfl qX1_goOneHour ⟨(Nat.le_of_ble_eq_true rfl), (Nat.le_of_ble_eq_true rfl)⟩ rfl hl.1 rfl (Nat.le_of_ble_eq_true rfl) dX10_wetIn_45) (fun u7 H locs hw h => ?_)
        obtain ⟨x8, ex8⟩ : ∃ y : Int32, y = v3 + 1 := ⟨_, rfl⟩
        have h := h x8 ex8
        refine lv_iinc (v := x8) (lv' := [(3, .int x8), (0, .ref (xad g 0)), (1, .int v1), (2, .ref (xad g 110))]) hx hb dX10_wetIn_48 hl (k := 3) rfl (by rw [ex8]; rfl) (by decide) rfl (fun ls hl => ?_)
        refine lv_goto (tgt := 21) hx hb dX10_wetIn_51 (by decide) ?_
        exact ih hw (lv_sub hl [1, 2, 3, 0] rfl) h
      · have h := h.2 c6
        refine lv_aload_n hx hb dX10_wetIn_38 rfl (lv_at hl 0 rfl) ?_
        refine lv_iload_n hx hb dX10_wetIn_39 rfl (lv_at hl 3 rfl) ?_
        refine x_calli hw (x_runV (ci := 10) C hw (m_X10_fine l C.2.2.2.2.2.2.2.2.1 hX h) (xoX_0 hX) rfl (x_gV xw_622 xw_623 xw_624 xw_2 xw_625) rfl rfl qX10_fine ⟨(Nat.le_of_ble_eq_true rfl), (Nat.le_of_ble_eq_true rfl)⟩ rfl hl.1 rfl (Nat.le_of_ble_eq_true rfl) dX10_wetIn_40) (fun r10 u9 H locs hw h => ?_)
        exact x_iret C hw h dX10_wetIn_43
set_option maxHeartbeats 4000000 in
set_option maxRecDepth 100000 in
theorem s_X10_wetIn {Qf : Int32 → xM → Prop} {a1 : Int32} (C : x_C p s m args meth c g RX10 cX10_wetIn 4 (some .int)) (hX : xpX g) {u : xM} {H : Heap} {locs : List Loc} {ls : Array Slot} (hw : x_W g s.heap H locs u) (hl : lv_has ls 4 [(0, .ref (xad g 0)), (1, .int a1)]) (h : p_X10_wetIn a1 u Qf) : W p l e (x_rm 4 142) s m args below meth c H locs 0 0 (MQ below (x_Qi g Qf) args s 0 0 (x_A g)) (F0 m 0 ls []) := by
  unfold p_X10_wetIn at h
  have hx := C.1
  have hb := C.2.1
  refine lv_aload_n hx hb dX10_wetIn_0 rfl (lv_at hl 0 rfl) ?_
  refine lv_iload_n hx hb dX10_wetIn_1 rfl (lv_at hl 1 rfl) ?_
  refine x_callz hw (x_runV (ci := 10) C hw (m_X10_isRoom l C.2.2.2.2.2.2.2.2.1 hX h) (xoX_0 hX) rfl (x_gV xw_936 xw_937 xw_938 xw_2 xw_939) rfl rfl qX10_isRoom ⟨(Nat.le_of_ble_eq_true rfl), (Nat.le_of_ble_eq_true rfl)⟩ rfl hl.1 rfl (Nat.le_of_ble_eq_true rfl) dX10_wetIn_2) (fun r2 u1 H locs hw h => ?_)
  refine lv_if_ne (tgt := 14) hx hb dX10_wetIn_5 (by decide) (fun c3 => ?_) (fun c3 => ?_)
  · have h := h.1 (xb_t c3)
    refine lv_aload_n hx hb dX10_wetIn_14 rfl (lv_at hl 0 rfl) ?_
    refine x_callr hw (x_runV (ci := 10) C hw (m_X10_asItIs l C.2.2.2.2.2.2.2.2.1 hX h) (xoX_0 hX) rfl (x_gV xw_1327 xw_1328 xw_1329 xw_2 xw_1330) rfl rfl qX10_asItIs ⟨(Nat.le_of_ble_eq_true rfl), (Nat.le_of_ble_eq_true rfl)⟩ rfl hl.1 rfl (Nat.le_of_ble_eq_true rfl) dX10_wetIn_15) (fun u4 H locs hw h => ?_)
    refine lv_astore_n (lv' := [(2, .ref (xad g 110)), (0, .ref (xad g 0)), (1, .int a1)]) hx hb dX10_wetIn_18 rfl hl (by decide) rfl (fun ls hl => ?_)
    refine lv_iconst (v := 0) hx hb dX10_wetIn_19 (by decide) ?_
    refine lv_istore_n (lv' := [(3, .int 0), (2, .ref (xad g 110)), (0, .ref (xad g 0)), (1, .int a1)]) hx hb dX10_wetIn_20 rfl hl (by decide) rfl (fun ls hl => ?_)
    obtain ⟨n9, h⟩ := h
    exact s_X10_wetIn_L21 C hX n9 hw (lv_sub hl [2, 3, 1, 0] rfl) h
  · have h := h.2 (xb_f c3)
    refine lv_aload_n hx hb dX10_wetIn_8 rfl (lv_at hl 0 rfl) ?_
    refine lv_iconst (v := 1) hx hb dX10_wetIn_9 (by decide) ?_
    refine x_calli hw (x_runV (ci := 10) C hw (m_X10_none l C.2.2.2.2.2.2.2.2.1 hX h) (xoX_0 hX) rfl (x_gV xw_343 xw_344 xw_345 xw_2 xw_346) rfl rfl qX10_none ⟨(Nat.le_of_ble_eq_true rfl), (Nat.le_of_ble_eq_true rfl)⟩ rfl hl.1 rfl (Nat.le_of_ble_eq_true rfl) dX10_wetIn_10) (fun r6 u5 H locs hw h => ?_)
    exact x_iret C hw h dX10_wetIn_13
set_option maxHeartbeats 4000000 in
set_option maxRecDepth 100000 in
theorem m_X10_wetIn (l : Launch) {g : xG} (hD : x_D g) (hX : xpX g) {a1 : Int32} {u : xM} {Qf : Int32 → xM → Prop} (h : p_X10_wetIn a1 u Qf) : Met l yX10_wetIn (Cond.code yX10_wetIn cX10_wetIn 4 (some .int) :: wsL_law) (x_rm 4 142) (va_Pc [.ref (xad g 0), .int a1] (x_B g u)) (x_Qi g Qf) 0 0 (x_A g) := by
  refine Met.ofW (cc := cX10_wetIn) (maxL := 4) (ret := (some .int)) (by decide) rfl ?_
  intro p e s m args below meth c s₁ B hml hv
  obtain ⟨rfl, hB⟩ := hv
  obtain ⟨C, hw⟩ := x_start B hml hD hB
  have hl := lv_entry [.ref (xad g 0), .int a1] (n := 4) (Nat.le_of_ble_eq_true rfl)
  rw [lg_entry_eq]
  exact s_X10_wetIn C hX hw hl h
set_option maxHeartbeats 4000000 in
set_option maxRecDepth 100000 in
theorem s_X10_drownsIn_L21 {Qf : Int32 → xM → Prop} (C : x_C p s m args meth c g RX10 cX10_drownsIn 4 (some .int)) (hX : xpX g) : ∀ (nn : Nat) {v1 : Int32} {v3 : Int32} {u : xM} {H : Heap} {locs : List Loc} {ls : Array Slot} (hw : x_W g s.heap H locs u) (hl : lv_has ls 4 [(0, .ref (xad g 0)), (1, .int v1), (2, .ref (xad g 110)), (3, .int v3)]) (h : p_X10_drownsIn_L21 Qf nn v1 v3 u), W p l e (x_rm 4 142) s m args below meth c H locs 0 0 (MQ below (x_Qi g Qf) args s 0 0 (x_A g)) (F0 m 21 ls []) := by
  intro nn
  induction nn with
  | zero => intro v1 v3 u H locs ls hw hl h; exact h.elim
  | succ nn ih =>
    intro v1 v3 u H locs ls hw hl h
    unfold p_X10_drownsIn_L21 at h
    have hx := C.1
    have hb := C.2.1
    refine lv_iload_n hx hb dX10_drownsIn_21 rfl (lv_at hl 3 rfl) ?_
    refine lv_bipush (v := 99) hx hb dX10_drownsIn_22 (by decide) ?_
    refine lv_icmp_gt (tgt := 54) hx hb dX10_drownsIn_24 (by decide) (fun c1 => ?_) (fun c1 => ?_)
    · have h := h.1 c1
      refine lv_aload_n hx hb dX10_drownsIn_54 rfl (lv_at hl 0 rfl) ?_
      refine lv_bipush (v := 6) hx hb dX10_drownsIn_55 (by decide) ?_
      refine x_calli hw (x_runV (ci := 10) C hw (m_X10_none l C.2.2.2.2.2.2.2.2.1 hX h) (xoX_0 hX) rfl (x_gV xw_343 xw_344 xw_345 xw_2 xw_346) rfl rfl qX10_none ⟨(Nat.le_of_ble_eq_true rfl), (Nat.le_of_ble_eq_true rfl)⟩ rfl hl.1 rfl (Nat.le_of_ble_eq_true rfl) dX10_drownsIn_57) (fun r3 u2 H locs hw h => ?_)
      exact x_iret C hw h dX10_drownsIn_60
    · have h := h.2 c1
      refine lv_aload_n hx hb dX10_drownsIn_27 rfl (lv_at hl 2 rfl) ?_
      refine x_getr (ci := 1) C hw 0 (xoL_0 (xpL_110 hX)) rfl inlX1 (by decide) rfl rfl (xrL_0_0 (xpL_110 hX)) xw_858 dX10_drownsIn_28 ?_
      refine lv_iload_n hx hb dX10_drownsIn_31 rfl (lv_at hl 1 rfl) ?_
      refine x_callz hw (x_runV (ci := 7) C hw (m_X7_isDrowned l C.2.2.2.2.2.2.2.2.1 (xpL_110 hX) h) (xoL_1 (xpL_110 hX)) rfl (x_gV xw_1305 xw_1306 xw_1307 xw_57 xw_1308) rfl rfl qX7_isDrowned ⟨(Nat.le_of_ble_eq_true rfl), (Nat.le_of_ble_eq_true rfl)⟩ rfl hl.1 rfl (Nat.le_of_ble_eq_true rfl) dX10_drownsIn_32) (fun r5 u4 H locs hw h => ?_)
      refine lv_if_eq (tgt := 44) hx hb dX10_drownsIn_35 (by decide) (fun c6 => ?_) (fun c6 => ?_)
      · have h := h.1 (xb_f c6)
        refine lv_aload_n hx hb dX10_drownsIn_44 rfl (lv_at hl 2 rfl) ?_
        refine x_callv hw (x_runV (ci := 1) C hw (m_X1_goOneHour l C.2.2.2.2.2.2.2.2.1 (xpL_110 hX) h) (xoL_0 (xpL_110 hX)) rfl (x_gV xw_1368 xw_1165 xw_1166 xw_15 xw_1167) rfl rfl qX1_goOneHour ⟨(Nat.le_of_ble_eq_true rfl), (Nat.le_of_ble_eq_true rfl)⟩ rfl hl.1 rfl (Nat.le_of_ble_eq_true rfl) dX10_drownsIn_45) (fun u7 H locs hw h => ?_)
        obtain ⟨x8, ex8⟩ : ∃ y : Int32, y = v3 + 1 := ⟨_, rfl⟩
        have h := h x8 ex8
        refine lv_iinc (v := x8) (lv' := [(3, .int x8), (0, .ref (xad g 0)), (1, .int v1), (2, .ref (xad g 110))]) hx hb dX10_drownsIn_48 hl (k := 3) rfl (by rw [ex8]; rfl) (by decide) rfl (fun ls hl => ?_)
        refine lv_goto (tgt := 21) hx hb dX10_drownsIn_51 (by decide) ?_
        exact ih hw (lv_sub hl [1, 2, 3, 0] rfl) h
      · have h := h.2 (xb_t c6)
        refine lv_aload_n hx hb dX10_drownsIn_38 rfl (lv_at hl 0 rfl) ?_
        refine lv_iload_n hx hb dX10_drownsIn_39 rfl (lv_at hl 3 rfl) ?_
        refine x_calli hw (x_runV (ci := 10) C hw (m_X10_fine l C.2.2.2.2.2.2.2.2.1 hX h) (xoX_0 hX) rfl (x_gV xw_622 xw_623 xw_624 xw_2 xw_625) rfl rfl qX10_fine ⟨(Nat.le_of_ble_eq_true rfl), (Nat.le_of_ble_eq_true rfl)⟩ rfl hl.1 rfl (Nat.le_of_ble_eq_true rfl) dX10_drownsIn_40) (fun r10 u9 H locs hw h => ?_)
        exact x_iret C hw h dX10_drownsIn_43
set_option maxHeartbeats 4000000 in
set_option maxRecDepth 100000 in
theorem s_X10_drownsIn {Qf : Int32 → xM → Prop} {a1 : Int32} (C : x_C p s m args meth c g RX10 cX10_drownsIn 4 (some .int)) (hX : xpX g) {u : xM} {H : Heap} {locs : List Loc} {ls : Array Slot} (hw : x_W g s.heap H locs u) (hl : lv_has ls 4 [(0, .ref (xad g 0)), (1, .int a1)]) (h : p_X10_drownsIn a1 u Qf) : W p l e (x_rm 4 142) s m args below meth c H locs 0 0 (MQ below (x_Qi g Qf) args s 0 0 (x_A g)) (F0 m 0 ls []) := by
  unfold p_X10_drownsIn at h
  have hx := C.1
  have hb := C.2.1
  refine lv_aload_n hx hb dX10_drownsIn_0 rfl (lv_at hl 0 rfl) ?_
  refine lv_iload_n hx hb dX10_drownsIn_1 rfl (lv_at hl 1 rfl) ?_
  refine x_callz hw (x_runV (ci := 10) C hw (m_X10_isRoom l C.2.2.2.2.2.2.2.2.1 hX h) (xoX_0 hX) rfl (x_gV xw_936 xw_937 xw_938 xw_2 xw_939) rfl rfl qX10_isRoom ⟨(Nat.le_of_ble_eq_true rfl), (Nat.le_of_ble_eq_true rfl)⟩ rfl hl.1 rfl (Nat.le_of_ble_eq_true rfl) dX10_drownsIn_2) (fun r2 u1 H locs hw h => ?_)
  refine lv_if_ne (tgt := 14) hx hb dX10_drownsIn_5 (by decide) (fun c3 => ?_) (fun c3 => ?_)
  · have h := h.1 (xb_t c3)
    refine lv_aload_n hx hb dX10_drownsIn_14 rfl (lv_at hl 0 rfl) ?_
    refine x_callr hw (x_runV (ci := 10) C hw (m_X10_asItIs l C.2.2.2.2.2.2.2.2.1 hX h) (xoX_0 hX) rfl (x_gV xw_1327 xw_1328 xw_1329 xw_2 xw_1330) rfl rfl qX10_asItIs ⟨(Nat.le_of_ble_eq_true rfl), (Nat.le_of_ble_eq_true rfl)⟩ rfl hl.1 rfl (Nat.le_of_ble_eq_true rfl) dX10_drownsIn_15) (fun u4 H locs hw h => ?_)
    refine lv_astore_n (lv' := [(2, .ref (xad g 110)), (0, .ref (xad g 0)), (1, .int a1)]) hx hb dX10_drownsIn_18 rfl hl (by decide) rfl (fun ls hl => ?_)
    refine lv_iconst (v := 0) hx hb dX10_drownsIn_19 (by decide) ?_
    refine lv_istore_n (lv' := [(3, .int 0), (2, .ref (xad g 110)), (0, .ref (xad g 0)), (1, .int a1)]) hx hb dX10_drownsIn_20 rfl hl (by decide) rfl (fun ls hl => ?_)
    obtain ⟨n9, h⟩ := h
    exact s_X10_drownsIn_L21 C hX n9 hw (lv_sub hl [2, 3, 1, 0] rfl) h
  · have h := h.2 (xb_f c3)
    refine lv_aload_n hx hb dX10_drownsIn_8 rfl (lv_at hl 0 rfl) ?_
    refine lv_iconst (v := 1) hx hb dX10_drownsIn_9 (by decide) ?_
    refine x_calli hw (x_runV (ci := 10) C hw (m_X10_none l C.2.2.2.2.2.2.2.2.1 hX h) (xoX_0 hX) rfl (x_gV xw_343 xw_344 xw_345 xw_2 xw_346) rfl rfl qX10_none ⟨(Nat.le_of_ble_eq_true rfl), (Nat.le_of_ble_eq_true rfl)⟩ rfl hl.1 rfl (Nat.le_of_ble_eq_true rfl) dX10_drownsIn_10) (fun r6 u5 H locs hw h => ?_)
    exact x_iret C hw h dX10_drownsIn_13
set_option maxHeartbeats 4000000 in
set_option maxRecDepth 100000 in
theorem m_X10_drownsIn (l : Launch) {g : xG} (hD : x_D g) (hX : xpX g) {a1 : Int32} {u : xM} {Qf : Int32 → xM → Prop} (h : p_X10_drownsIn a1 u Qf) : Met l yX10_drownsIn (Cond.code yX10_drownsIn cX10_drownsIn 4 (some .int) :: wsL_law) (x_rm 4 142) (va_Pc [.ref (xad g 0), .int a1] (x_B g u)) (x_Qi g Qf) 0 0 (x_A g) := by
  refine Met.ofW (cc := cX10_drownsIn) (maxL := 4) (ret := (some .int)) (by decide) rfl ?_
  intro p e s m args below meth c s₁ B hml hv
  obtain ⟨rfl, hB⟩ := hv
  obtain ⟨C, hw⟩ := x_start B hml hD hB
  have hl := lv_entry [.ref (xad g 0), .int a1] (n := 4) (Nat.le_of_ble_eq_true rfl)
  rw [lg_entry_eq]
  exact s_X10_drownsIn C hX hw hl h
set_option maxHeartbeats 4000000 in
set_option maxRecDepth 100000 in
theorem s_X10_dryIn_L7 {Qf : Int32 → xM → Prop} (C : x_C p s m args meth c g RX10 cX10_dryIn 3 (some .int)) (hX : xpX g) : ∀ (nn : Nat) {v2 : Int32} {u : xM} {H : Heap} {locs : List Loc} {ls : Array Slot} (hw : x_W g s.heap H locs u) (hl : lv_has ls 3 [(0, .ref (xad g 0)), (1, .ref (xad g 110)), (2, .int v2)]) (h : p_X10_dryIn_L7 Qf nn v2 u), W p l e (x_rm 4 142) s m args below meth c H locs 0 0 (MQ below (x_Qi g Qf) args s 0 0 (x_A g)) (F0 m 7 ls []) := by
  intro nn
  induction nn with
  | zero => intro v2 u H locs ls hw hl h; exact h.elim
  | succ nn ih =>
    intro v2 u H locs ls hw hl h
    unfold p_X10_dryIn_L7 at h
    have hx := C.1
    have hb := C.2.1
    refine lv_iload_n hx hb dX10_dryIn_7 rfl (lv_at hl 2 rfl) ?_
    refine lv_bipush (v := 99) hx hb dX10_dryIn_8 (by decide) ?_
    refine lv_icmp_gt (tgt := 39) hx hb dX10_dryIn_10 (by decide) (fun c1 => ?_) (fun c1 => ?_)
    · have h := h.1 c1
      refine lv_aload_n hx hb dX10_dryIn_39 rfl (lv_at hl 0 rfl) ?_
      refine lv_bipush (v := 6) hx hb dX10_dryIn_40 (by decide) ?_
      refine x_calli hw (x_runV (ci := 10) C hw (m_X10_none l C.2.2.2.2.2.2.2.2.1 hX h) (xoX_0 hX) rfl (x_gV xw_343 xw_344 xw_345 xw_2 xw_346) rfl rfl qX10_none ⟨(Nat.le_of_ble_eq_true rfl), (Nat.le_of_ble_eq_true rfl)⟩ rfl hl.1 rfl (Nat.le_of_ble_eq_true rfl) dX10_dryIn_42) (fun r3 u2 H locs hw h => ?_)
      exact x_iret C hw h dX10_dryIn_45
    · have h := h.2 c1
      refine lv_aload_n hx hb dX10_dryIn_13 rfl (lv_at hl 1 rfl) ?_
      refine x_getr (ci := 1) C hw 0 (xoL_0 (xpL_110 hX)) rfl inlX1 (by decide) rfl rfl (xrL_0_0 (xpL_110 hX)) xw_858 dX10_dryIn_14 ?_
      refine x_calli hw (x_runV (ci := 7) C hw (m_X7_wetOnes l C.2.2.2.2.2.2.2.2.1 (xpL_110 hX) h) (xoL_1 (xpL_110 hX)) rfl (x_gV xw_869 xw_870 xw_871 xw_57 xw_872) rfl rfl qX7_wetOnes ⟨(Nat.le_of_ble_eq_true rfl), (Nat.le_of_ble_eq_true rfl)⟩ rfl hl.1 rfl (Nat.le_of_ble_eq_true rfl) dX10_dryIn_17) (fun r5 u4 H locs hw h => ?_)
      refine lv_if_ne (tgt := 29) hx hb dX10_dryIn_20 (by decide) (fun c6 => ?_) (fun c6 => ?_)
      · have h := h.1 c6
        refine lv_aload_n hx hb dX10_dryIn_29 rfl (lv_at hl 1 rfl) ?_
        refine x_callv hw (x_runV (ci := 1) C hw (m_X1_goOneHour l C.2.2.2.2.2.2.2.2.1 (xpL_110 hX) h) (xoL_0 (xpL_110 hX)) rfl (x_gV xw_1368 xw_1165 xw_1166 xw_15 xw_1167) rfl rfl qX1_goOneHour ⟨(Nat.le_of_ble_eq_true rfl), (Nat.le_of_ble_eq_true rfl)⟩ rfl hl.1 rfl (Nat.le_of_ble_eq_true rfl) dX10_dryIn_30) (fun u7 H locs hw h => ?_)
        obtain ⟨x8, ex8⟩ : ∃ y : Int32, y = v2 + 1 := ⟨_, rfl⟩
        have h := h x8 ex8
        refine lv_iinc (v := x8) (lv' := [(2, .int x8), (0, .ref (xad g 0)), (1, .ref (xad g 110))]) hx hb dX10_dryIn_33 hl (k := 2) rfl (by rw [ex8]; rfl) (by decide) rfl (fun ls hl => ?_)
        refine lv_goto (tgt := 7) hx hb dX10_dryIn_36 (by decide) ?_
        exact ih hw (lv_sub hl [1, 2, 0] rfl) h
      · have h := h.2 c6
        refine lv_aload_n hx hb dX10_dryIn_23 rfl (lv_at hl 0 rfl) ?_
        refine lv_iload_n hx hb dX10_dryIn_24 rfl (lv_at hl 2 rfl) ?_
        refine x_calli hw (x_runV (ci := 10) C hw (m_X10_fine l C.2.2.2.2.2.2.2.2.1 hX h) (xoX_0 hX) rfl (x_gV xw_622 xw_623 xw_624 xw_2 xw_625) rfl rfl qX10_fine ⟨(Nat.le_of_ble_eq_true rfl), (Nat.le_of_ble_eq_true rfl)⟩ rfl hl.1 rfl (Nat.le_of_ble_eq_true rfl) dX10_dryIn_25) (fun r10 u9 H locs hw h => ?_)
        exact x_iret C hw h dX10_dryIn_28
set_option maxHeartbeats 4000000 in
set_option maxRecDepth 100000 in
theorem s_X10_dryIn {Qf : Int32 → xM → Prop} (C : x_C p s m args meth c g RX10 cX10_dryIn 3 (some .int)) (hX : xpX g) {u : xM} {H : Heap} {locs : List Loc} {ls : Array Slot} (hw : x_W g s.heap H locs u) (hl : lv_has ls 3 [(0, .ref (xad g 0))]) (h : p_X10_dryIn  u Qf) : W p l e (x_rm 4 142) s m args below meth c H locs 0 0 (MQ below (x_Qi g Qf) args s 0 0 (x_A g)) (F0 m 0 ls []) := by
  unfold p_X10_dryIn at h
  have hx := C.1
  have hb := C.2.1
  refine lv_aload_n hx hb dX10_dryIn_0 rfl (lv_at hl 0 rfl) ?_
  refine x_callr hw (x_runV (ci := 10) C hw (m_X10_asItIs l C.2.2.2.2.2.2.2.2.1 hX h) (xoX_0 hX) rfl (x_gV xw_1327 xw_1328 xw_1329 xw_2 xw_1330) rfl rfl qX10_asItIs ⟨(Nat.le_of_ble_eq_true rfl), (Nat.le_of_ble_eq_true rfl)⟩ rfl hl.1 rfl (Nat.le_of_ble_eq_true rfl) dX10_dryIn_1) (fun u1 H locs hw h => ?_)
  refine lv_astore_n (lv' := [(1, .ref (xad g 110)), (0, .ref (xad g 0))]) hx hb dX10_dryIn_4 rfl hl (by decide) rfl (fun ls hl => ?_)
  refine lv_iconst (v := 0) hx hb dX10_dryIn_5 (by decide) ?_
  refine lv_istore_n (lv' := [(2, .int 0), (1, .ref (xad g 110)), (0, .ref (xad g 0))]) hx hb dX10_dryIn_6 rfl hl (by decide) rfl (fun ls hl => ?_)
  obtain ⟨n9, h⟩ := h
  exact s_X10_dryIn_L7 C hX n9 hw (lv_sub hl [2, 1, 0] rfl) h
set_option maxHeartbeats 4000000 in
set_option maxRecDepth 100000 in
theorem m_X10_dryIn (l : Launch) {g : xG} (hD : x_D g) (hX : xpX g) {u : xM} {Qf : Int32 → xM → Prop} (h : p_X10_dryIn  u Qf) : Met l yX10_dryIn (Cond.code yX10_dryIn cX10_dryIn 3 (some .int) :: wsL_law) (x_rm 4 142) (va_Pc [.ref (xad g 0)] (x_B g u)) (x_Qi g Qf) 0 0 (x_A g) := by
  refine Met.ofW (cc := cX10_dryIn) (maxL := 3) (ret := (some .int)) (by decide) rfl ?_
  intro p e s m args below meth c s₁ B hml hv
  obtain ⟨rfl, hB⟩ := hv
  obtain ⟨C, hw⟩ := x_start B hml hD hB
  have hl := lv_entry [.ref (xad g 0)] (n := 3) (Nat.le_of_ble_eq_true rfl)
  rw [lg_entry_eq]
  exact s_X10_dryIn C hX hw hl h
set_option maxHeartbeats 4000000 in
set_option maxRecDepth 100000 in
theorem s_X10_fails {Qf : Int32 → xM → Prop} {a1 : Int32} (C : x_C p s m args meth c g RX10 cX10_fails 3 (some .int)) (hX : xpX g) {u : xM} {H : Heap} {locs : List Loc} {ls : Array Slot} (hw : x_W g s.heap H locs u) (hl : lv_has ls 3 [(0, .ref (xad g 0)), (1, .int a1)]) (h : p_X10_fails a1 u Qf) : W p l e (x_rm 4 152) s m args below meth c H locs 0 0 (MQ below (x_Qi g Qf) args s 0 0 (x_A g)) (F0 m 0 ls []) := by
  unfold p_X10_fails at h
  have hx := C.1
  have hb := C.2.1
  refine lv_aload_n hx hb dX10_fails_0 rfl (lv_at hl 0 rfl) ?_
  refine lv_iload_n hx hb dX10_fails_1 rfl (lv_at hl 1 rfl) ?_
  refine x_callz hw (x_runV (ci := 10) C hw (m_X10_isDoor l C.2.2.2.2.2.2.2.2.1 hX h) (xoX_0 hX) rfl (x_gV xw_962 xw_963 xw_964 xw_2 xw_965) rfl rfl qX10_isDoor ⟨(Nat.le_of_ble_eq_true rfl), (Nat.le_of_ble_eq_true rfl)⟩ rfl hl.1 rfl (Nat.le_of_ble_eq_true rfl) dX10_fails_2) (fun r2 u1 H locs hw h => ?_)
  refine lv_if_ne (tgt := 14) hx hb dX10_fails_5 (by decide) (fun c3 => ?_) (fun c3 => ?_)
  · have h := h.1 (xb_t c3)
    refine lv_aload_n hx hb dX10_fails_14 rfl (lv_at hl 0 rfl) ?_
    refine x_callr hw (x_runV (ci := 10) C hw (m_X10_asItIs l C.2.2.2.2.2.2.2.2.1 hX h) (xoX_0 hX) rfl (x_gV xw_1327 xw_1328 xw_1329 xw_2 xw_1330) rfl rfl qX10_asItIs ⟨(Nat.le_of_ble_eq_true rfl), (Nat.le_of_ble_eq_true rfl)⟩ rfl hl.1 rfl (Nat.le_of_ble_eq_true rfl) dX10_fails_15) (fun u4 H locs hw h => ?_)
    refine lv_astore_n (lv' := [(2, .ref (xad g 110)), (0, .ref (xad g 0)), (1, .int a1)]) hx hb dX10_fails_18 rfl hl (by decide) rfl (fun ls hl => ?_)
    refine lv_aload_n hx hb dX10_fails_19 rfl (lv_at hl 0 rfl) ?_
    refine x_getr (ci := 1) C hw 1 (xoL_0 (xpL_110 hX)) rfl inlX1 (by decide) rfl rfl (xrL_0_1 (xpL_110 hX)) xw_398 dX10_fails_20 ?_
    refine lv_dup hx hb dX10_fails_23 rfl ?_
    refine x_geti (ci := 0) C hw 1 (xoL_9 (xpL_110 hX)) rfl inlX0 (by decide) rfl rfl xw_863 dX10_fails_24 ?_
    refine lv_iconst (v := 1) hx hb dX10_fails_27 (by decide) ?_
    refine lv_iload_n hx hb dX10_fails_28 rfl (lv_at hl 2 rfl) ?_
    refine lv_ishl hx hb dX10_fails_29 ?_
    refine lv_ior hx hb dX10_fails_30 ?_
    obtain ⟨u5, eu5⟩ : ∃ q : xM, q = si u4 119 1 ((gi u4 119 1) ||| ((1 : Int32) <<< (a1 &&& 31))) := ⟨_, rfl⟩
    have h := h u5 eu5
    refine x_puti (ci := 0) (ty := .int) C hw 1 (xoL_9 (xpL_110 hX)) rfl inlX0 tyX0_ok nmX0 (by decide) rfl rfl xw_863 rfl (by decide +kernel) rfl rfl dX10_fails_31 eu5 (fun H locs hw => ?_)
    refine lv_aload_n hx hb dX10_fails_34 rfl (lv_at hl 0 rfl) ?_
    refine lv_bipush (v := 12) hx hb dX10_fails_35 (by decide) ?_
    refine x_callv hw (x_runV (ci := 1) C hw (m_X1_goOn l C.2.2.2.2.2.2.2.2.1 (xpL_110 hX) h) (xoL_0 (xpL_110 hX)) rfl (x_gV xw_1160 xw_1161 xw_1162 xw_15 xw_1163) rfl rfl qX1_goOn ⟨(Nat.le_of_ble_eq_true rfl), (Nat.le_of_ble_eq_true rfl)⟩ rfl hl.1 rfl (Nat.le_of_ble_eq_true rfl) dX10_fails_37) (fun u6 H locs hw h => ?_)
    refine lv_aload_n hx hb dX10_fails_40 rfl (lv_at hl 1 rfl) ?_
    refine lv_aload_n hx hb dX10_fails_41 rfl (lv_at hl 0 rfl) ?_
    refine x_getr (ci := 1) C hw 0 (xoL_0 (xpL_110 hX)) rfl inlX1 (by decide) rfl rfl (xrL_0_0 (xpL_110 hX)) xw_858 dX10_fails_42 ?_
    refine x_geti (ci := 7) C hw 1 (xoL_1 (xpL_110 hX)) rfl inlX7 (by decide) rfl rfl xw_862 dX10_fails_45 ?_
    refine x_calli hw (x_runV (ci := 10) C hw (m_X10_fine l C.2.2.2.2.2.2.2.2.1 hX h) (xoX_0 hX) rfl (x_gV xw_622 xw_623 xw_624 xw_2 xw_625) rfl rfl qX10_fine ⟨(Nat.le_of_ble_eq_true rfl), (Nat.le_of_ble_eq_true rfl)⟩ rfl hl.1 rfl (Nat.le_of_ble_eq_true rfl) dX10_fails_48) (fun r8 u7 H locs hw h => ?_)
    exact x_iret C hw h dX10_fails_51
  · have h := h.2 (xb_f c3)
    refine lv_aload_n hx hb dX10_fails_8 rfl (lv_at hl 0 rfl) ?_
    refine lv_iconst (v := 1) hx hb dX10_fails_9 (by decide) ?_
    refine x_calli hw (x_runV (ci := 10) C hw (m_X10_none l C.2.2.2.2.2.2.2.2.1 hX h) (xoX_0 hX) rfl (x_gV xw_343 xw_344 xw_345 xw_2 xw_346) rfl rfl qX10_none ⟨(Nat.le_of_ble_eq_true rfl), (Nat.le_of_ble_eq_true rfl)⟩ rfl hl.1 rfl (Nat.le_of_ble_eq_true rfl) dX10_fails_10) (fun r10 u9 H locs hw h => ?_)
    exact x_iret C hw h dX10_fails_13
set_option maxHeartbeats 4000000 in
set_option maxRecDepth 100000 in
theorem m_X10_fails (l : Launch) {g : xG} (hD : x_D g) (hX : xpX g) {a1 : Int32} {u : xM} {Qf : Int32 → xM → Prop} (h : p_X10_fails a1 u Qf) : Met l yX10_fails (Cond.code yX10_fails cX10_fails 3 (some .int) :: wsL_law) (x_rm 4 152) (va_Pc [.ref (xad g 0), .int a1] (x_B g u)) (x_Qi g Qf) 0 0 (x_A g) := by
  refine Met.ofW (cc := cX10_fails) (maxL := 3) (ret := (some .int)) (by decide) rfl ?_
  intro p e s m args below meth c s₁ B hml hv
  obtain ⟨rfl, hB⟩ := hv
  obtain ⟨C, hw⟩ := x_start B hml hD hB
  have hl := lv_entry [.ref (xad g 0), .int a1] (n := 3) (Nat.le_of_ble_eq_true rfl)
  rw [lg_entry_eq]
  exact s_X10_fails C hX hw hl h
set_option maxHeartbeats 4000000 in
set_option maxRecDepth 100000 in
theorem s_X10_worst_L6 {Qf : Int32 → xM → Prop} (C : x_C p s m args meth c g RX10 cX10_worst 6 (some .int)) (hX : xpX g) : ∀ (nn : Nat) {v1 : Int32} {v2 : Int32} {v3 : Int32} {u : xM} {H : Heap} {locs : List Loc} {ls : Array Slot} (hw : x_W g s.heap H locs u) (hl : lv_has ls 6 [(0, .ref (xad g 0)), (1, .int v1), (2, .int v2), (3, .int v3)]) (h : p_X10_worst_L6 Qf nn v1 v2 v3 u), W p l e (x_rm 5 173) s m args below meth c H locs 0 0 (MQ below (x_Qi g Qf) args s 0 0 (x_A g)) (F0 m 6 ls []) := by
  intro nn
  induction nn with
  | zero => intro v1 v2 v3 u H locs ls hw hl h; exact h.elim
  | succ nn ih =>
    intro v1 v2 v3 u H locs ls hw hl h
    unfold p_X10_worst_L6 at h
    have hx := C.1
    have hb := C.2.1
    refine lv_iload_n hx hb dX10_worst_6 rfl (lv_at hl 3 rfl) ?_
    refine lv_aload_n hx hb dX10_worst_7 rfl (lv_at hl 0 rfl) ?_
    refine x_getr (ci := 10) C hw 0 (xoX_0 hX) rfl inlX10 (by decide) rfl rfl xrX_0_0 xw_16 dX10_worst_8 ?_
    refine x_getr (ci := 1) C hw 1 (xoL_0 (xpL_83 hX)) rfl inlX1 (by decide) rfl rfl (xrL_0_1 (xpL_83 hX)) xw_398 dX10_worst_11 ?_
    refine x_geti (ci := 0) C hw 0 (xoL_9 (xpL_83 hX)) rfl inlX0 (by decide) rfl rfl xw_399 dX10_worst_14 ?_
    refine lv_icmp_ge (tgt := 68) hx hb dX10_worst_17 (by decide) (fun c1 => ?_) (fun c1 => ?_)
    · have h := h.1 c1
      refine lv_iload_n hx hb dX10_worst_68 rfl (lv_at hl 1 rfl) ?_
      refine lv_iconst (v := -1) hx hb dX10_worst_69 (by decide) ?_
      refine lv_icmp_ne (tgt := 82) hx hb dX10_worst_70 (by decide) (fun c2 => ?_) (fun c2 => ?_)
      · have h := h.1 c2
        refine lv_aload_n hx hb dX10_worst_82 rfl (lv_at hl 0 rfl) ?_
        refine lv_iload_n hx hb dX10_worst_83 rfl (lv_at hl 1 rfl) ?_
        refine x_calli hw (x_runV (ci := 10) C hw (m_X10_fine l C.2.2.2.2.2.2.2.2.1 hX h) (xoX_0 hX) rfl (x_gV xw_622 xw_623 xw_624 xw_2 xw_625) rfl rfl qX10_fine ⟨(Nat.le_of_ble_eq_true rfl), (Nat.le_of_ble_eq_true rfl)⟩ rfl hl.1 rfl (Nat.le_of_ble_eq_true rfl) dX10_worst_84) (fun r4 u3 H locs hw h => ?_)
        exact x_iret C hw h dX10_worst_87
      · have h := h.2 c2
        refine lv_aload_n hx hb dX10_worst_73 rfl (lv_at hl 0 rfl) ?_
        refine lv_bipush (v := 6) hx hb dX10_worst_74 (by decide) ?_
        refine x_calli hw (x_runV (ci := 10) C hw (m_X10_none l C.2.2.2.2.2.2.2.2.1 hX h) (xoX_0 hX) rfl (x_gV xw_343 xw_344 xw_345 xw_2 xw_346) rfl rfl qX10_none ⟨(Nat.le_of_ble_eq_true rfl), (Nat.le_of_ble_eq_true rfl)⟩ rfl hl.1 rfl (Nat.le_of_ble_eq_true rfl) dX10_worst_76) (fun r6 u5 H locs hw h => ?_)
        refine lv_goto (tgt := 87) hx hb dX10_worst_79 (by decide) ?_
        exact x_iret C hw h dX10_worst_87
    · have h := h.2 c1
      refine lv_aload_n hx hb dX10_worst_20 rfl (lv_at hl 0 rfl) ?_
      refine x_callr hw (x_runV (ci := 10) C hw (m_X10_asItIs l C.2.2.2.2.2.2.2.2.1 hX h) (xoX_0 hX) rfl (x_gV xw_1327 xw_1328 xw_1329 xw_2 xw_1330) rfl rfl qX10_asItIs ⟨(Nat.le_of_ble_eq_true rfl), (Nat.le_of_ble_eq_true rfl)⟩ rfl hl.1 rfl (Nat.le_of_ble_eq_true rfl) dX10_worst_21) (fun u7 H locs hw h => ?_)
      refine lv_astore (lv' := [(4, .ref (xad g 110)), (0, .ref (xad g 0)), (1, .int v1), (2, .int v2), (3, .int v3)]) hx hb dX10_worst_24 hl (by decide) rfl (fun ls hl => ?_)
      refine lv_aload hx hb dX10_worst_26 (lv_at hl 0 rfl) ?_
      refine x_getr (ci := 1) C hw 1 (xoL_0 (xpL_110 hX)) rfl inlX1 (by decide) rfl rfl (xrL_0_1 (xpL_110 hX)) xw_398 dX10_worst_28 ?_
      refine lv_dup hx hb dX10_worst_31 rfl ?_
      refine x_geti (ci := 0) C hw 1 (xoL_9 (xpL_110 hX)) rfl inlX0 (by decide) rfl rfl xw_863 dX10_worst_32 ?_
      refine lv_iconst (v := 1) hx hb dX10_worst_35 (by decide) ?_
      refine lv_iload_n hx hb dX10_worst_36 rfl (lv_at hl 4 rfl) ?_
      refine lv_ishl hx hb dX10_worst_37 ?_
      refine lv_ior hx hb dX10_worst_38 ?_
      obtain ⟨u8, eu8⟩ : ∃ q : xM, q = si u7 119 1 ((gi u7 119 1) ||| ((1 : Int32) <<< (v3 &&& 31))) := ⟨_, rfl⟩
      have h := h u8 eu8
      refine x_puti (ci := 0) (ty := .int) C hw 1 (xoL_9 (xpL_110 hX)) rfl inlX0 tyX0_ok nmX0 (by decide) rfl rfl xw_863 rfl (by decide +kernel) rfl rfl dX10_worst_39 eu8 (fun H locs hw => ?_)
      refine lv_aload hx hb dX10_worst_42 (lv_at hl 0 rfl) ?_
      refine lv_bipush (v := 12) hx hb dX10_worst_44 (by decide) ?_
      refine x_calli hw (x_runV (ci := 1) C hw (m_X1_waterIn l C.2.2.2.2.2.2.2.2.1 (xpL_110 hX) h) (xoL_0 (xpL_110 hX)) rfl (x_gV xw_1354 xw_1355 xw_1356 xw_15 xw_1357) rfl rfl qX1_waterIn ⟨(Nat.le_of_ble_eq_true rfl), (Nat.le_of_ble_eq_true rfl)⟩ rfl hl.1 rfl (Nat.le_of_ble_eq_true rfl) dX10_worst_46) (fun r10 u9 H locs hw h => ?_)
      refine lv_istore (lv' := [(5, .int r10), (4, .ref (xad g 110)), (0, .ref (xad g 0)), (1, .int v1), (2, .int v2), (3, .int v3)]) hx hb dX10_worst_49 hl (by decide) rfl (fun ls hl => ?_)
      refine lv_iload hx hb dX10_worst_51 (lv_at hl 0 rfl) ?_
      refine lv_iload_n hx hb dX10_worst_53 rfl (lv_at hl 4 rfl) ?_
      refine lv_icmp_le (tgt := 62) hx hb dX10_worst_54 (by decide) (fun c11 => ?_) (fun c11 => ?_)
      · have h := h.1 c11
        obtain ⟨x12, ex12⟩ : ∃ y : Int32, y = v3 + 1 := ⟨_, rfl⟩
        have h := h x12 ex12
        refine lv_iinc (v := x12) (lv' := [(3, .int x12), (5, .int r10), (4, .ref (xad g 110)), (0, .ref (xad g 0)), (1, .int v1), (2, .int v2)]) hx hb dX10_worst_62 hl (k := 5) rfl (by rw [ex12]; rfl) (by decide) rfl (fun ls hl => ?_)
        refine lv_goto (tgt := 6) hx hb dX10_worst_65 (by decide) ?_
        exact ih hw (lv_sub hl [3, 4, 5, 0] rfl) h
      · have h := h.2 c11
        refine lv_iload hx hb dX10_worst_57 (lv_at hl 0 rfl) ?_
        refine lv_istore_n (lv' := [(2, .int r10), (5, .int r10), (4, .ref (xad g 110)), (0, .ref (xad g 0)), (1, .int v1), (3, .int v3)]) hx hb dX10_worst_59 rfl hl (by decide) rfl (fun ls hl => ?_)
        refine lv_iload_n hx hb dX10_worst_60 rfl (lv_at hl 5 rfl) ?_
        refine lv_istore_n (lv' := [(1, .int v3), (2, .int r10), (5, .int r10), (4, .ref (xad g 110)), (0, .ref (xad g 0)), (3, .int v3)]) hx hb dX10_worst_61 rfl hl (by decide) rfl (fun ls hl => ?_)
        obtain ⟨x13, ex13⟩ : ∃ y : Int32, y = v3 + 1 := ⟨_, rfl⟩
        have h := h x13 ex13
        refine lv_iinc (v := x13) (lv' := [(3, .int x13), (1, .int v3), (2, .int r10), (5, .int r10), (4, .ref (xad g 110)), (0, .ref (xad g 0))]) hx hb dX10_worst_62 hl (k := 5) rfl (by rw [ex13]; rfl) (by decide) rfl (fun ls hl => ?_)
        refine lv_goto (tgt := 6) hx hb dX10_worst_65 (by decide) ?_
        exact ih hw (lv_sub hl [5, 1, 2, 0] rfl) h
set_option maxHeartbeats 4000000 in
set_option maxRecDepth 100000 in
theorem s_X10_worst {Qf : Int32 → xM → Prop} (C : x_C p s m args meth c g RX10 cX10_worst 6 (some .int)) (hX : xpX g) {u : xM} {H : Heap} {locs : List Loc} {ls : Array Slot} (hw : x_W g s.heap H locs u) (hl : lv_has ls 6 [(0, .ref (xad g 0))]) (h : p_X10_worst  u Qf) : W p l e (x_rm 5 173) s m args below meth c H locs 0 0 (MQ below (x_Qi g Qf) args s 0 0 (x_A g)) (F0 m 0 ls []) := by
  unfold p_X10_worst at h
  have hx := C.1
  have hb := C.2.1
  refine lv_iconst (v := -1) hx hb dX10_worst_0 (by decide) ?_
  refine lv_istore_n (lv' := [(1, .int (-1)), (0, .ref (xad g 0))]) hx hb dX10_worst_1 rfl hl (by decide) rfl (fun ls hl => ?_)
  refine lv_iconst (v := -1) hx hb dX10_worst_2 (by decide) ?_
  refine lv_istore_n (lv' := [(2, .int (-1)), (1, .int (-1)), (0, .ref (xad g 0))]) hx hb dX10_worst_3 rfl hl (by decide) rfl (fun ls hl => ?_)
  refine lv_iconst (v := 0) hx hb dX10_worst_4 (by decide) ?_
  refine lv_istore_n (lv' := [(3, .int 0), (2, .int (-1)), (1, .int (-1)), (0, .ref (xad g 0))]) hx hb dX10_worst_5 rfl hl (by decide) rfl (fun ls hl => ?_)
  obtain ⟨n9, h⟩ := h
  exact s_X10_worst_L6 C hX n9 hw (lv_sub hl [3, 2, 1, 0] rfl) h
set_option maxHeartbeats 4000000 in
set_option maxRecDepth 100000 in
theorem m_X10_worst (l : Launch) {g : xG} (hD : x_D g) (hX : xpX g) {u : xM} {Qf : Int32 → xM → Prop} (h : p_X10_worst  u Qf) : Met l yX10_worst (Cond.code yX10_worst cX10_worst 6 (some .int) :: wsL_law) (x_rm 5 173) (va_Pc [.ref (xad g 0)] (x_B g u)) (x_Qi g Qf) 0 0 (x_A g) := by
  refine Met.ofW (cc := cX10_worst) (maxL := 6) (ret := (some .int)) (by decide) rfl ?_
  intro p e s m args below meth c s₁ B hml hv
  obtain ⟨rfl, hB⟩ := hv
  obtain ⟨C, hw⟩ := x_start B hml hD hB
  have hl := lv_entry [.ref (xad g 0)] (n := 6) (Nat.le_of_ble_eq_true rfl)
  rw [lg_entry_eq]
  exact s_X10_worst C hX hw hl h
set_option maxHeartbeats 4000000 in
set_option maxRecDepth 100000 in
theorem s_X10_sillFor_L16 {Qf : Int32 → xM → Prop} (C : x_C p s m args meth c g RX10 cX10_sillFor 4 (some .int)) (hX : xpX g) : ∀ (nn : Nat) {v1 : Int32} {v2 : Int32} {u : xM} {H : Heap} {locs : List Loc} {ls : Array Slot} (hw : x_W g s.heap H locs u) (hl : lv_has ls 4 [(0, .ref (xad g 0)), (1, .int v1), (2, .int v2)]) (h : p_X10_sillFor_L16 Qf nn v1 v2 u), W p l e (x_rm 4 152) s m args below meth c H locs 0 0 (MQ below (x_Qi g Qf) args s 0 0 (x_A g)) (F0 m 16 ls []) := by
  intro nn
  induction nn with
  | zero => intro v1 v2 u H locs ls hw hl h; exact h.elim
  | succ nn ih =>
    intro v1 v2 u H locs ls hw hl h
    unfold p_X10_sillFor_L16 at h
    have hx := C.1
    have hb := C.2.1
    refine lv_aload_n hx hb dX10_sillFor_16 rfl (lv_at hl 0 rfl) ?_
    refine x_getr (ci := 10) C hw 0 (xoX_0 hX) rfl inlX10 (by decide) rfl rfl xrX_0_0 xw_16 dX10_sillFor_17 ?_
    refine x_getr (ci := 1) C hw 1 (xoL_0 (xpL_83 hX)) rfl inlX1 (by decide) rfl rfl (xrL_0_1 (xpL_83 hX)) xw_398 dX10_sillFor_20 ?_
    refine x_getr (ci := 0) C hw 6 (xoL_9 (xpL_83 hX)) rfl inlX0 (by decide) rfl rfl (xrL_9_6 (xpL_83 hX)) xw_959 dX10_sillFor_23 ?_
    refine lv_iload_n hx hb dX10_sillFor_26 rfl (lv_at hl 1 rfl) ?_
    have c1 := h.1
    have h := h.2
    refine x_iald C hw (xoL_13 (xpL_83 hX)) c1 dX10_sillFor_27 ?_
    refine lv_iload_n hx hb dX10_sillFor_28 rfl (lv_at hl 2 rfl) ?_
    refine lv_iadd hx hb dX10_sillFor_29 ?_
    refine lv_bipush (v := 99) hx hb dX10_sillFor_30 (by decide) ?_
    refine lv_icmp_gt (tgt := 94) hx hb dX10_sillFor_32 (by decide) (fun c2 => ?_) (fun c2 => ?_)
    · have h := h.1 c2
      refine lv_aload_n hx hb dX10_sillFor_94 rfl (lv_at hl 0 rfl) ?_
      refine lv_bipush (v := 6) hx hb dX10_sillFor_95 (by decide) ?_
      refine x_calli hw (x_runV (ci := 10) C hw (m_X10_none l C.2.2.2.2.2.2.2.2.1 hX h) (xoX_0 hX) rfl (x_gV xw_343 xw_344 xw_345 xw_2 xw_346) rfl rfl qX10_none ⟨(Nat.le_of_ble_eq_true rfl), (Nat.le_of_ble_eq_true rfl)⟩ rfl hl.1 rfl (Nat.le_of_ble_eq_true rfl) dX10_sillFor_97) (fun r4 u3 H locs hw h => ?_)
      exact x_iret C hw h dX10_sillFor_100
    · have h := h.2 c2
      refine lv_aload_n hx hb dX10_sillFor_35 rfl (lv_at hl 0 rfl) ?_
      refine x_callr hw (x_runV (ci := 10) C hw (m_X10_asItIs l C.2.2.2.2.2.2.2.2.1 hX h) (xoX_0 hX) rfl (x_gV xw_1327 xw_1328 xw_1329 xw_2 xw_1330) rfl rfl qX10_asItIs ⟨(Nat.le_of_ble_eq_true rfl), (Nat.le_of_ble_eq_true rfl)⟩ rfl hl.1 rfl (Nat.le_of_ble_eq_true rfl) dX10_sillFor_36) (fun u5 H locs hw h => ?_)
      refine lv_astore_n (lv' := [(3, .ref (xad g 110)), (0, .ref (xad g 0)), (1, .int v1), (2, .int v2)]) hx hb dX10_sillFor_39 rfl hl (by decide) rfl (fun ls hl => ?_)
      refine lv_aload_n hx hb dX10_sillFor_40 rfl (lv_at hl 0 rfl) ?_
      refine x_getr (ci := 1) C hw 1 (xoL_0 (xpL_110 hX)) rfl inlX1 (by decide) rfl rfl (xrL_0_1 (xpL_110 hX)) xw_398 dX10_sillFor_41 ?_
      refine lv_dup hx hb dX10_sillFor_44 rfl ?_
      refine x_geti (ci := 0) C hw 1 (xoL_9 (xpL_110 hX)) rfl inlX0 (by decide) rfl rfl xw_863 dX10_sillFor_45 ?_
      refine lv_iconst (v := 1) hx hb dX10_sillFor_48 (by decide) ?_
      refine lv_iload_n hx hb dX10_sillFor_49 rfl (lv_at hl 2 rfl) ?_
      refine lv_ishl hx hb dX10_sillFor_50 ?_
      refine lv_ior hx hb dX10_sillFor_51 ?_
      obtain ⟨u6, eu6⟩ : ∃ q : xM, q = si u5 119 1 ((gi u5 119 1) ||| ((1 : Int32) <<< (v1 &&& 31))) := ⟨_, rfl⟩
      have h := h u6 eu6
      refine x_puti (ci := 0) (ty := .int) C hw 1 (xoL_9 (xpL_110 hX)) rfl inlX0 tyX0_ok nmX0 (by decide) rfl rfl xw_863 rfl (by decide +kernel) rfl rfl dX10_sillFor_52 eu6 (fun H locs hw => ?_)
      refine lv_aload_n hx hb dX10_sillFor_55 rfl (lv_at hl 0 rfl) ?_
      refine x_getr (ci := 1) C hw 1 (xoL_0 (xpL_110 hX)) rfl inlX1 (by decide) rfl rfl (xrL_0_1 (xpL_110 hX)) xw_398 dX10_sillFor_56 ?_
      refine x_getr (ci := 0) C hw 6 (xoL_9 (xpL_110 hX)) rfl inlX0 (by decide) rfl rfl (xrL_9_6 (xpL_110 hX)) xw_959 dX10_sillFor_59 ?_
      refine lv_iload_n hx hb dX10_sillFor_62 rfl (lv_at hl 2 rfl) ?_
      refine lv_dup2_11 hx hb dX10_sillFor_63 rfl rfl ?_
      have c7 := h.1
      have h := h.2
      refine x_iald C hw (xoL_13 (xpL_110 hX)) c7 dX10_sillFor_64 ?_
      refine lv_iload_n hx hb dX10_sillFor_65 rfl (lv_at hl 3 rfl) ?_
      refine lv_iadd hx hb dX10_sillFor_66 ?_
      have c8 := h.1
      have h := h.2
      obtain ⟨u9, eu9⟩ : ∃ q : xM, q = si u6 123 v1.toNatClampNeg ((gi u6 123 v1.toNatClampNeg) + v2) := ⟨_, rfl⟩
      have h := h u9 eu9
      refine x_iast C hw (xoL_13 (xpL_110 hX)) c8 dX10_sillFor_67 eu9 (fun H locs hw => ?_)
      refine lv_aload_n hx hb dX10_sillFor_68 rfl (lv_at hl 0 rfl) ?_
      refine lv_bipush (v := 12) hx hb dX10_sillFor_69 (by decide) ?_
      refine x_callv hw (x_runV (ci := 1) C hw (m_X1_goOn l C.2.2.2.2.2.2.2.2.1 (xpL_110 hX) h) (xoL_0 (xpL_110 hX)) rfl (x_gV xw_1160 xw_1161 xw_1162 xw_15 xw_1163) rfl rfl qX1_goOn ⟨(Nat.le_of_ble_eq_true rfl), (Nat.le_of_ble_eq_true rfl)⟩ rfl hl.1 rfl (Nat.le_of_ble_eq_true rfl) dX10_sillFor_71) (fun u10 H locs hw h => ?_)
      refine lv_aload_n hx hb dX10_sillFor_74 rfl (lv_at hl 1 rfl) ?_
      refine lv_aload_n hx hb dX10_sillFor_75 rfl (lv_at hl 0 rfl) ?_
      refine x_calli hw (x_runV (ci := 10) C hw (m_X10_drownedMore l C.2.2.2.2.2.2.2.2.1 hX (xpL_110 hX) h) (xoX_0 hX) rfl (x_gV xw_1419 xw_1420 xw_1421 xw_2 xw_1422) rfl rfl qX10_drownedMore ⟨(Nat.le_of_ble_eq_true rfl), (Nat.le_of_ble_eq_true rfl)⟩ rfl hl.1 rfl (Nat.le_of_ble_eq_true rfl) dX10_sillFor_76) (fun r12 u11 H locs hw h => ?_)
      refine lv_if_ne (tgt := 88) hx hb dX10_sillFor_79 (by decide) (fun c13 => ?_) (fun c13 => ?_)
      · have h := h.1 c13
        obtain ⟨x14, ex14⟩ : ∃ y : Int32, y = v2 + 1 := ⟨_, rfl⟩
        have h := h x14 ex14
        refine lv_iinc (v := x14) (lv' := [(2, .int x14), (3, .ref (xad g 110)), (0, .ref (xad g 0)), (1, .int v1)]) hx hb dX10_sillFor_88 hl (k := 3) rfl (by rw [ex14]; rfl) (by decide) rfl (fun ls hl => ?_)
        refine lv_goto (tgt := 16) hx hb dX10_sillFor_91 (by decide) ?_
        exact ih hw (lv_sub hl [2, 3, 0] rfl) h
      · have h := h.2 c13
        refine lv_aload_n hx hb dX10_sillFor_82 rfl (lv_at hl 1 rfl) ?_
        refine lv_iload_n hx hb dX10_sillFor_83 rfl (lv_at hl 3 rfl) ?_
        refine x_calli hw (x_runV (ci := 10) C hw (m_X10_fine l C.2.2.2.2.2.2.2.2.1 hX h) (xoX_0 hX) rfl (x_gV xw_622 xw_623 xw_624 xw_2 xw_625) rfl rfl qX10_fine ⟨(Nat.le_of_ble_eq_true rfl), (Nat.le_of_ble_eq_true rfl)⟩ rfl hl.1 rfl (Nat.le_of_ble_eq_true rfl) dX10_sillFor_84) (fun r16 u15 H locs hw h => ?_)
        exact x_iret C hw h dX10_sillFor_87
set_option maxHeartbeats 4000000 in
set_option maxRecDepth 100000 in
theorem s_X10_sillFor {Qf : Int32 → xM → Prop} {a1 : Int32} (C : x_C p s m args meth c g RX10 cX10_sillFor 4 (some .int)) (hX : xpX g) {u : xM} {H : Heap} {locs : List Loc} {ls : Array Slot} (hw : x_W g s.heap H locs u) (hl : lv_has ls 4 [(0, .ref (xad g 0)), (1, .int a1)]) (h : p_X10_sillFor a1 u Qf) : W p l e (x_rm 4 152) s m args below meth c H locs 0 0 (MQ below (x_Qi g Qf) args s 0 0 (x_A g)) (F0 m 0 ls []) := by
  unfold p_X10_sillFor at h
  have hx := C.1
  have hb := C.2.1
  refine lv_aload_n hx hb dX10_sillFor_0 rfl (lv_at hl 0 rfl) ?_
  refine lv_iload_n hx hb dX10_sillFor_1 rfl (lv_at hl 1 rfl) ?_
  refine x_callz hw (x_runV (ci := 10) C hw (m_X10_isDoor l C.2.2.2.2.2.2.2.2.1 hX h) (xoX_0 hX) rfl (x_gV xw_962 xw_963 xw_964 xw_2 xw_965) rfl rfl qX10_isDoor ⟨(Nat.le_of_ble_eq_true rfl), (Nat.le_of_ble_eq_true rfl)⟩ rfl hl.1 rfl (Nat.le_of_ble_eq_true rfl) dX10_sillFor_2) (fun r2 u1 H locs hw h => ?_)
  refine lv_if_ne (tgt := 14) hx hb dX10_sillFor_5 (by decide) (fun c3 => ?_) (fun c3 => ?_)
  · have h := h.1 (xb_t c3)
    refine lv_iconst (v := 0) hx hb dX10_sillFor_14 (by decide) ?_
    refine lv_istore_n (lv' := [(2, .int 0), (0, .ref (xad g 0)), (1, .int a1)]) hx hb dX10_sillFor_15 rfl hl (by decide) rfl (fun ls hl => ?_)
    obtain ⟨n9, h⟩ := h
    exact s_X10_sillFor_L16 C hX n9 hw (lv_sub hl [1, 2, 0] rfl) h
  · have h := h.2 (xb_f c3)
    refine lv_aload_n hx hb dX10_sillFor_8 rfl (lv_at hl 0 rfl) ?_
    refine lv_iconst (v := 1) hx hb dX10_sillFor_9 (by decide) ?_
    refine x_calli hw (x_runV (ci := 10) C hw (m_X10_none l C.2.2.2.2.2.2.2.2.1 hX h) (xoX_0 hX) rfl (x_gV xw_343 xw_344 xw_345 xw_2 xw_346) rfl rfl qX10_none ⟨(Nat.le_of_ble_eq_true rfl), (Nat.le_of_ble_eq_true rfl)⟩ rfl hl.1 rfl (Nat.le_of_ble_eq_true rfl) dX10_sillFor_10) (fun r5 u4 H locs hw h => ?_)
    exact x_iret C hw h dX10_sillFor_13
set_option maxHeartbeats 4000000 in
set_option maxRecDepth 100000 in
theorem m_X10_sillFor (l : Launch) {g : xG} (hD : x_D g) (hX : xpX g) {a1 : Int32} {u : xM} {Qf : Int32 → xM → Prop} (h : p_X10_sillFor a1 u Qf) : Met l yX10_sillFor (Cond.code yX10_sillFor cX10_sillFor 4 (some .int) :: wsL_law) (x_rm 4 152) (va_Pc [.ref (xad g 0), .int a1] (x_B g u)) (x_Qi g Qf) 0 0 (x_A g) := by
  refine Met.ofW (cc := cX10_sillFor) (maxL := 4) (ret := (some .int)) (by decide) rfl ?_
  intro p e s m args below meth c s₁ B hml hv
  obtain ⟨rfl, hB⟩ := hv
  obtain ⟨C, hw⟩ := x_start B hml hD hB
  have hl := lv_entry [.ref (xad g 0), .int a1] (n := 4) (Nat.le_of_ble_eq_true rfl)
  rw [lg_entry_eq]
  exact s_X10_sillFor C hX hw hl h
end
