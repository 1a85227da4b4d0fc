section
variable {p : Program} {l : Launch} {e : Env} {s : State} {m : MethodId} {args : Array Value} {below : List Frame} {meth : Method} {c : Code} {g : xG}
set_option maxHeartbeats 4000000 in
set_option maxRecDepth 100000 in
theorem s_X11_setOf_L115 {Qf : Int32 → xM → Prop} {K62 : Int32 → Int32 → Int32 → xM → Prop} (C : x_C p s m args meth c g RX11 cX11_setOf 4 (some .int)) (hM : xpM g) (hK62 : ∀ {v1 : Int32} {v2 : Int32} {v3 : Int32} {u : xM} {H : Heap} {locs : List Loc} {ls : Array Slot}, x_W g s.heap H locs u → lv_has ls 4 [(0, .ref (xad g 272)), (1, .int v1), (2, .int v2), (3, .int v3)] → K62 v1 v2 v3 u → W p l e (x_rm 3 63) s m args below meth c H locs 0 0 (MQ below (x_Qi g Qf) args s 0 0 (x_A g)) (F0 m 62 ls [])) {v1 : Int32} {v3 : Int32} {w0 : Int32} {u : xM} {H : Heap} {locs : List Loc} {ls : Array Slot} (hw : x_W g s.heap H locs u) (hl : lv_has ls 4 [(0, .ref (xad g 272)), (1, .int v1), (3, .int v3)]) (h : p_X11_setOf_L115 Qf K62 v1 v3 w0 u) : W p l e (x_rm 3 63) s m args below meth c H locs 0 0 (MQ below (x_Qi g Qf) args s 0 0 (x_A g)) (F0 m 115 ls [.int w0]) := by
  unfold p_X11_setOf_L115 at h
  have hx := C.1
  have hb := C.2.1
  refine lv_iconst (v := 1) hx hb dX11_setOf_115 (by decide) ?_
  refine lv_iload_n hx hb dX11_setOf_116 rfl (lv_at hl 2 rfl) ?_
  refine lv_ishl hx hb dX11_setOf_117 ?_
  refine lv_goto (tgt := 122) hx hb dX11_setOf_118 (by decide) ?_
  refine lv_ior hx hb dX11_setOf_122 ?_
  refine lv_topi (fun x1 ex1 => ?_)
  have h := h x1 ex1
  refine lv_istore_n (lv' := [(2, .int x1), (0, .ref (xad g 272)), (1, .int v1), (3, .int v3)]) hx hb dX11_setOf_123 rfl hl (by decide) rfl (fun ls hl => ?_)
  obtain ⟨x2, ex2⟩ : ∃ y : Int32, y = v3 + 1 := ⟨_, rfl⟩
  have h := h x2 ex2
  refine lv_iinc (v := x2) (lv' := [(3, .int x2), (2, .int x1), (0, .ref (xad g 272)), (1, .int v1)]) hx hb dX11_setOf_124 hl (k := 3) rfl (by rw [ex2]; rfl) (by decide) rfl (fun ls hl => ?_)
  refine lv_goto (tgt := 62) hx hb dX11_setOf_127 (by decide) ?_
  exact hK62 hw (lv_sub hl [2, 3, 1, 0] rfl) h
set_option maxHeartbeats 4000000 in
set_option maxRecDepth 100000 in
theorem s_X11_setOf_L108 {Qf : Int32 → xM → Prop} {K62 : Int32 → Int32 → Int32 → xM → Prop} (C : x_C p s m args meth c g RX11 cX11_setOf 4 (some .int)) (hM : xpM g) (hK62 : ∀ {v1 : Int32} {v2 : Int32} {v3 : Int32} {u : xM} {H : Heap} {locs : List Loc} {ls : Array Slot}, x_W g s.heap H locs u → lv_has ls 4 [(0, .ref (xad g 272)), (1, .int v1), (2, .int v2), (3, .int v3)] → K62 v1 v2 v3 u → W p l e (x_rm 3 63) s m args below meth c H locs 0 0 (MQ below (x_Qi g Qf) args s 0 0 (x_A g)) (F0 m 62 ls [])) {v1 : Int32} {v3 : Int32} {w0 : Int32} {w2 : Int32} {w3 : Int32} {u : xM} {H : Heap} {locs : List Loc} {ls : Array Slot} (hw : x_W g s.heap H locs u) (hl : lv_has ls 4 [(0, .ref (xad g 272)), (1, .int v1), (3, .int v3)]) (h : p_X11_setOf_L108 Qf K62 v1 v3 w0 w2 w3 u) : W p l e (x_rm 3 63) s m args below meth c H locs 0 0 (MQ below (x_Qi g Qf) args s 0 0 (x_A g)) (F0 m 108 ls [.int w3, .int w2, .ref (xad g 272), .int w0]) := by
  unfold p_X11_setOf_L108 at h
  have hx := C.1
  have hb := C.2.1
  refine x_calli hw (x_runV (ci := 11) C hw (m_X11_doorOf l C.2.2.2.2.2.2.2.2.1 hM h) (xoM_272 hM) rfl (x_gV xw_911 xw_912 xw_913 xw_5 xw_914) rfl rfl qX11_doorOf ⟨(Nat.le_of_ble_eq_true rfl), (Nat.le_of_ble_eq_true rfl)⟩ rfl hl.1 rfl (Nat.le_of_ble_eq_true rfl) dX11_setOf_108) (fun r2 u1 H locs hw h => ?_)
  refine lv_iconst (v := 1) hx hb dX11_setOf_111 (by decide) ?_
  refine lv_icmp_ne (tgt := 121) hx hb dX11_setOf_112 (by decide) (fun c3 => ?_) (fun c3 => ?_)
  · have h := h.1 c3
    refine lv_iconst (v := 0) hx hb dX11_setOf_121 (by decide) ?_
    refine lv_ior hx hb dX11_setOf_122 ?_
    refine lv_topi (fun x4 ex4 => ?_)
    have h := h x4 ex4
    refine lv_istore_n (lv' := [(2, .int x4), (0, .ref (xad g 272)), (1, .int v1), (3, .int v3)]) hx hb dX11_setOf_123 rfl hl (by decide) rfl (fun ls hl => ?_)
    obtain ⟨x5, ex5⟩ : ∃ y : Int32, y = v3 + 1 := ⟨_, rfl⟩
    have h := h x5 ex5
    refine lv_iinc (v := x5) (lv' := [(3, .int x5), (2, .int x4), (0, .ref (xad g 272)), (1, .int v1)]) hx hb dX11_setOf_124 hl (k := 3) rfl (by rw [ex5]; rfl) (by decide) rfl (fun ls hl => ?_)
    refine lv_goto (tgt := 62) hx hb dX11_setOf_127 (by decide) ?_
    exact hK62 hw (lv_sub hl [2, 3, 1, 0] rfl) h
  · have h := h.2 c3
    exact s_X11_setOf_L115 C hM hK62 hw (lv_sub hl [0, 1, 2] rfl) h
set_option maxHeartbeats 4000000 in
set_option maxRecDepth 100000 in
theorem s_X11_setOf_L62 {Qf : Int32 → xM → Prop} (C : x_C p s m args meth c g RX11 cX11_setOf 4 (some .int)) (hM : xpM g) : ∀ (nn : Nat) {v1 : Int32} {v2 : Int32} {v3 : Int32} {u : xM} {H : Heap} {locs : List Loc} {ls : Array Slot} (hw : x_W g s.heap H locs u) (hl : lv_has ls 4 [(0, .ref (xad g 272)), (1, .int v1), (2, .int v2), (3, .int v3)]) (h : p_X11_setOf_L62 Qf nn v1 v2 v3 u), W p l e (x_rm 3 63) s m args below meth c H locs 0 0 (MQ below (x_Qi g Qf) args s 0 0 (x_A g)) (F0 m 62 ls []) := by
  intro nn
  induction nn with
  | zero => intro v1 v2 v3 u H locs ls hw hl h; exact h.elim
  | succ nn ih =>
    intro v1 v2 v3 u H locs ls hw hl h
    unfold p_X11_setOf_L62 at h
    have hx := C.1
    have hb := C.2.1
    refine lv_iload_n hx hb dX11_setOf_62 rfl (lv_at hl 3 rfl) ?_
    refine lv_aload_n hx hb dX11_setOf_63 rfl (lv_at hl 0 rfl) ?_
    refine x_getr (ci := 11) C hw 0 (xoM_272 hM) rfl inlX11 (by decide) rfl rfl xrM_272_0 xw_219 dX11_setOf_64 ?_
    refine lv_iconst (v := 1) hx hb dX11_setOf_67 (by decide) ?_
    have c1 := h.1
    have h := h.2
    refine x_iald C hw (xoM_273 hM) c1 dX11_setOf_68 ?_
    refine lv_icmp_ge (tgt := 130) hx hb dX11_setOf_69 (by decide) (fun c2 => ?_) (fun c2 => ?_)
    · have h := h.1 c2
      refine lv_iload_n hx hb dX11_setOf_130 rfl (lv_at hl 2 rfl) ?_
      exact x_iret C hw h dX11_setOf_131
    · have h := h.2 c2
      refine lv_iload_n hx hb dX11_setOf_72 rfl (lv_at hl 1 rfl) ?_
      refine lv_iconst (v := 1) hx hb dX11_setOf_73 (by decide) ?_
      refine lv_icmp_le (tgt := 130) hx hb dX11_setOf_74 (by decide) (fun c3 => ?_) (fun c3 => ?_)
      · have h := h.1 c3
        refine lv_iload_n hx hb dX11_setOf_130 rfl (lv_at hl 2 rfl) ?_
        exact x_iret C hw h dX11_setOf_131
      · have h := h.2 c3
        refine lv_iload_n hx hb dX11_setOf_77 rfl (lv_at hl 2 rfl) ?_
        refine lv_iload_n hx hb dX11_setOf_78 rfl (lv_at hl 1 rfl) ?_
        refine lv_iconst (v := 2) hx hb dX11_setOf_79 (by decide) ?_
        refine lv_icmp_ne (tgt := 94) hx hb dX11_setOf_80 (by decide) (fun c4 => ?_) (fun c4 => ?_)
        · have h := h.1 c4
          refine lv_aload_n hx hb dX11_setOf_94 rfl (lv_at hl 0 rfl) ?_
          refine lv_iload_n hx hb dX11_setOf_95 rfl (lv_at hl 3 rfl) ?_
          refine lv_iload_n hx hb dX11_setOf_96 rfl (lv_at hl 1 rfl) ?_
          refine lv_iconst (v := 3) hx hb dX11_setOf_97 (by decide) ?_
          refine lv_icmp_ne (tgt := 106) hx hb dX11_setOf_98 (by decide) (fun c5 => ?_) (fun c5 => ?_)
          · have h := h.1 c5
            refine lv_bipush (v := 7) hx hb dX11_setOf_106 (by decide) ?_
            exact s_X11_setOf_L108 C hM (fun hw hl h => ih hw hl h) hw (lv_sub hl [0, 1, 3] rfl) h
          · have h := h.2 c5
            refine lv_bipush (v := 6) hx hb dX11_setOf_101 (by decide) ?_
            refine lv_goto (tgt := 108) hx hb dX11_setOf_103 (by decide) ?_
            exact s_X11_setOf_L108 C hM (fun hw hl h => ih hw hl h) hw (lv_sub hl [0, 1, 3] rfl) h
        · have h := h.2 c4
          refine lv_aload_n hx hb dX11_setOf_83 rfl (lv_at hl 0 rfl) ?_
          refine lv_iload_n hx hb dX11_setOf_84 rfl (lv_at hl 3 rfl) ?_
          refine x_callz hw (x_runV (ci := 11) C hw (m_X11_isOpen l C.2.2.2.2.2.2.2.2.1 hM h) (xoM_272 hM) rfl (x_gV xw_907 xw_908 xw_909 xw_5 xw_910) rfl rfl qX11_isOpen ⟨(Nat.le_of_ble_eq_true rfl), (Nat.le_of_ble_eq_true rfl)⟩ rfl hl.1 rfl (Nat.le_of_ble_eq_true rfl) dX11_setOf_85) (fun r7 u6 H locs hw h => ?_)
          refine lv_if_eq (tgt := 121) hx hb dX11_setOf_88 (by decide) (fun c8 => ?_) (fun c8 => ?_)
          · have h := h.1 (xb_f c8)
            refine lv_iconst (v := 0) hx hb dX11_setOf_121 (by decide) ?_
            refine lv_ior hx hb dX11_setOf_122 ?_
            refine lv_topi (fun x9 ex9 => ?_)
            have h := h x9 ex9
            refine lv_istore_n (lv' := [(2, .int x9), (0, .ref (xad g 272)), (1, .int v1), (3, .int v3)]) hx hb dX11_setOf_123 rfl hl (by decide) rfl (fun ls hl => ?_)
            obtain ⟨x10, ex10⟩ : ∃ y : Int32, y = v3 + 1 := ⟨_, rfl⟩
            have h := h x10 ex10
            refine lv_iinc (v := x10) (lv' := [(3, .int x10), (2, .int x9), (0, .ref (xad g 272)), (1, .int v1)]) hx hb dX11_setOf_124 hl (k := 3) rfl (by rw [ex10]; rfl) (by decide) rfl (fun ls hl => ?_)
            refine lv_goto (tgt := 62) hx hb dX11_setOf_127 (by decide) ?_
            exact ih hw (lv_sub hl [2, 3, 1, 0] rfl) h
          · have h := h.2 (xb_t c8)
            refine lv_goto (tgt := 115) hx hb dX11_setOf_91 (by decide) ?_
            exact s_X11_setOf_L115 C hM (fun hw hl h => ih hw hl h) hw (lv_sub hl [0, 1, 3] rfl) h
set_option maxHeartbeats 4000000 in
set_option maxRecDepth 100000 in
theorem s_X11_setOf_L45 {Qf : Int32 → xM → Prop} {K4 : Int32 → Int32 → Int32 → xM → Prop} (C : x_C p s m args meth c g RX11 cX11_setOf 4 (some .int)) (hM : xpM g) (hK4 : ∀ {v1 : Int32} {v2 : Int32} {v3 : Int32} {u : xM} {H : Heap} {locs : List Loc} {ls : Array Slot}, x_W g s.heap H locs u → lv_has ls 4 [(0, .ref (xad g 272)), (1, .int v1), (2, .int v2), (3, .int v3)] → K4 v1 v2 v3 u → W p l e (x_rm 3 63) s m args below meth c H locs 0 0 (MQ below (x_Qi g Qf) args s 0 0 (x_A g)) (F0 m 4 ls [])) {v1 : Int32} {v3 : Int32} {w0 : Int32} {u : xM} {H : Heap} {locs : List Loc} {ls : Array Slot} (hw : x_W g s.heap H locs u) (hl : lv_has ls 4 [(0, .ref (xad g 272)), (1, .int v1), (3, .int v3)]) (h : p_X11_setOf_L45 Qf K4 v1 v3 w0 u) : W p l e (x_rm 3 63) s m args below meth c H locs 0 0 (MQ below (x_Qi g Qf) args s 0 0 (x_A g)) (F0 m 45 ls [.int w0]) := by
  unfold p_X11_setOf_L45 at h
  have hx := C.1
  have hb := C.2.1
  refine lv_iconst (v := 1) hx hb dX11_setOf_45 (by decide) ?_
  refine lv_iload_n hx hb dX11_setOf_46 rfl (lv_at hl 2 rfl) ?_
  refine lv_ishl hx hb dX11_setOf_47 ?_
  refine lv_goto (tgt := 52) hx hb dX11_setOf_48 (by decide) ?_
  refine lv_ior hx hb dX11_setOf_52 ?_
  refine lv_topi (fun x1 ex1 => ?_)
  have h := h x1 ex1
  refine lv_istore_n (lv' := [(2, .int x1), (0, .ref (xad g 272)), (1, .int v1), (3, .int v3)]) hx hb dX11_setOf_53 rfl hl (by decide) rfl (fun ls hl => ?_)
  obtain ⟨x2, ex2⟩ : ∃ y : Int32, y = v3 + 1 := ⟨_, rfl⟩
  have h := h x2 ex2
  refine lv_iinc (v := x2) (lv' := [(3, .int x2), (2, .int x1), (0, .ref (xad g 272)), (1, .int v1)]) hx hb dX11_setOf_54 hl (k := 3) rfl (by rw [ex2]; rfl) (by decide) rfl (fun ls hl => ?_)
  refine lv_goto (tgt := 4) hx hb dX11_setOf_57 (by decide) ?_
  exact hK4 hw (lv_sub hl [2, 3, 1, 0] rfl) h
set_option maxHeartbeats 4000000 in
set_option maxRecDepth 100000 in
theorem s_X11_setOf_L4 {Qf : Int32 → xM → Prop} (C : x_C p s m args meth c g RX11 cX11_setOf 4 (some .int)) (hM : xpM g) : ∀ (nn : Nat) {v1 : Int32} {v2 : Int32} {v3 : Int32} {u : xM} {H : Heap} {locs : List Loc} {ls : Array Slot} (hw : x_W g s.heap H locs u) (hl : lv_has ls 4 [(0, .ref (xad g 272)), (1, .int v1), (2, .int v2), (3, .int v3)]) (h : p_X11_setOf_L4 Qf nn v1 v2 v3 u), W p l e (x_rm 3 63) s m args below meth c H locs 0 0 (MQ below (x_Qi g Qf) args s 0 0 (x_A g)) (F0 m 4 ls []) := by
  intro nn
  induction nn with
  | zero => intro v1 v2 v3 u H locs ls hw hl h; exact h.elim
  | succ nn ih =>
    intro v1 v2 v3 u H locs ls hw hl h
    unfold p_X11_setOf_L4 at h
    have hx := C.1
    have hb := C.2.1
    refine lv_iload_n hx hb dX11_setOf_4 rfl (lv_at hl 3 rfl) ?_
    refine lv_aload_n hx hb dX11_setOf_5 rfl (lv_at hl 0 rfl) ?_
    refine x_getr (ci := 11) C hw 0 (xoM_272 hM) rfl inlX11 (by decide) rfl rfl xrM_272_0 xw_219 dX11_setOf_6 ?_
    refine lv_iconst (v := 0) hx hb dX11_setOf_9 (by decide) ?_
    have c1 := h.1
    have h := h.2
    refine x_iald C hw (xoM_273 hM) c1 dX11_setOf_10 ?_
    refine lv_icmp_ge (tgt := 60) hx hb dX11_setOf_11 (by decide) (fun c2 => ?_) (fun c2 => ?_)
    · have h := h.1 c2
      refine lv_iconst (v := 0) hx hb dX11_setOf_60 (by decide) ?_
      refine lv_istore_n (lv' := [(3, .int 0), (0, .ref (xad g 272)), (1, .int v1), (2, .int v2)]) hx hb dX11_setOf_61 rfl hl (by decide) rfl (fun ls hl => ?_)
      obtain ⟨n9, h⟩ := h
      exact s_X11_setOf_L62 C hM n9 hw (lv_sub hl [1, 2, 3, 0] rfl) h
    · have h := h.2 c2
      refine lv_iload_n hx hb dX11_setOf_14 rfl (lv_at hl 1 rfl) ?_
      refine lv_iconst (v := 2) hx hb dX11_setOf_15 (by decide) ?_
      refine lv_icmp_ge (tgt := 60) hx hb dX11_setOf_16 (by decide) (fun c3 => ?_) (fun c3 => ?_)
      · have h := h.1 c3
        refine lv_iconst (v := 0) hx hb dX11_setOf_60 (by decide) ?_
        refine lv_istore_n (lv' := [(3, .int 0), (0, .ref (xad g 272)), (1, .int v1), (2, .int v2)]) hx hb dX11_setOf_61 rfl hl (by decide) rfl (fun ls hl => ?_)
        obtain ⟨n9, h⟩ := h
        exact s_X11_setOf_L62 C hM n9 hw (lv_sub hl [1, 2, 3, 0] rfl) h
      · have h := h.2 c3
        refine lv_iload_n hx hb dX11_setOf_19 rfl (lv_at hl 2 rfl) ?_
        refine lv_iload_n hx hb dX11_setOf_20 rfl (lv_at hl 1 rfl) ?_
        refine lv_if_ne (tgt := 35) hx hb dX11_setOf_21 (by decide) (fun c4 => ?_) (fun c4 => ?_)
        · have h := h.1 c4
          refine lv_aload_n hx hb dX11_setOf_35 rfl (lv_at hl 0 rfl) ?_
          refine lv_iload_n hx hb dX11_setOf_36 rfl (lv_at hl 3 rfl) ?_
          refine lv_iconst (v := 5) hx hb dX11_setOf_37 (by decide) ?_
          refine x_calli hw (x_runV (ci := 11) C hw (m_X11_roomOf l C.2.2.2.2.2.2.2.2.1 hM h) (xoM_272 hM) rfl (x_gV xw_892 xw_893 xw_894 xw_5 xw_895) rfl rfl qX11_roomOf ⟨(Nat.le_of_ble_eq_true rfl), (Nat.le_of_ble_eq_true rfl)⟩ rfl hl.1 rfl (Nat.le_of_ble_eq_true rfl) dX11_setOf_38) (fun r6 u5 H locs hw h => ?_)
          refine lv_iconst (v := 1) hx hb dX11_setOf_41 (by decide) ?_
          refine lv_icmp_ne (tgt := 51) hx hb dX11_setOf_42 (by decide) (fun c7 => ?_) (fun c7 => ?_)
          · have h := h.1 c7
            refine lv_iconst (v := 0) hx hb dX11_setOf_51 (by decide) ?_
            refine lv_ior hx hb dX11_setOf_52 ?_
            refine lv_topi (fun x8 ex8 => ?_)
            have h := h x8 ex8
            refine lv_istore_n (lv' := [(2, .int x8), (0, .ref (xad g 272)), (1, .int v1), (3, .int v3)]) hx hb dX11_setOf_53 rfl hl (by decide) rfl (fun ls hl => ?_)
            obtain ⟨x9, ex9⟩ : ∃ y : Int32, y = v3 + 1 := ⟨_, rfl⟩
            have h := h x9 ex9
            refine lv_iinc (v := x9) (lv' := [(3, .int x9), (2, .int x8), (0, .ref (xad g 272)), (1, .int v1)]) hx hb dX11_setOf_54 hl (k := 3) rfl (by rw [ex9]; rfl) (by decide) rfl (fun ls hl => ?_)
            refine lv_goto (tgt := 4) hx hb dX11_setOf_57 (by decide) ?_
            exact ih hw (lv_sub hl [2, 3, 1, 0] rfl) h
          · have h := h.2 c7
            exact s_X11_setOf_L45 C hM (fun hw hl h => ih hw hl h) hw (lv_sub hl [0, 1, 3] rfl) h
        · have h := h.2 c4
          refine lv_aload_n hx hb dX11_setOf_24 rfl (lv_at hl 0 rfl) ?_
          refine lv_iload_n hx hb dX11_setOf_25 rfl (lv_at hl 3 rfl) ?_
          refine x_calli hw (x_runV (ci := 11) C hw (m_X11_depthOf l C.2.2.2.2.2.2.2.2.1 hM h) (xoM_272 hM) rfl (x_gV xw_903 xw_904 xw_905 xw_5 xw_906) rfl rfl qX11_depthOf ⟨(Nat.le_of_ble_eq_true rfl), (Nat.le_of_ble_eq_true rfl)⟩ rfl hl.1 rfl (Nat.le_of_ble_eq_true rfl) dX11_setOf_26) (fun r11 u10 H locs hw h => ?_)
          refine lv_if_le (tgt := 51) hx hb dX11_setOf_29 (by decide) (fun c12 => ?_) (fun c12 => ?_)
          · have h := h.1 c12
            refine lv_iconst (v := 0) hx hb dX11_setOf_51 (by decide) ?_
            refine lv_ior hx hb dX11_setOf_52 ?_
            refine lv_topi (fun x13 ex13 => ?_)
            have h := h x13 ex13
            refine lv_istore_n (lv' := [(2, .int x13), (0, .ref (xad g 272)), (1, .int v1), (3, .int v3)]) hx hb dX11_setOf_53 rfl hl (by decide) rfl (fun ls hl => ?_)
            obtain ⟨x14, ex14⟩ : ∃ y : Int32, y = v3 + 1 := ⟨_, rfl⟩
            have h := h x14 ex14
            refine lv_iinc (v := x14) (lv' := [(3, .int x14), (2, .int x13), (0, .ref (xad g 272)), (1, .int v1)]) hx hb dX11_setOf_54 hl (k := 3) rfl (by rw [ex14]; rfl) (by decide) rfl (fun ls hl => ?_)
            refine lv_goto (tgt := 4) hx hb dX11_setOf_57 (by decide) ?_
            exact ih hw (lv_sub hl [2, 3, 1, 0] rfl) h
          · have h := h.2 c12
            refine lv_goto (tgt := 45) hx hb dX11_setOf_32 (by decide) ?_
            exact s_X11_setOf_L45 C hM (fun hw hl h => ih hw hl h) hw (lv_sub hl [0, 1, 3] rfl) h
set_option maxHeartbeats 4000000 in
set_option maxRecDepth 100000 in
theorem s_X11_setOf {Qf : Int32 → xM → Prop} {a1 : Int32} (C : x_C p s m args meth c g RX11 cX11_setOf 4 (some .int)) (hM : xpM g) {u : xM} {H : Heap} {locs : List Loc} {ls : Array Slot} (hw : x_W g s.heap H locs u) (hl : lv_has ls 4 [(0, .ref (xad g 272)), (1, .int a1)]) (h : p_X11_setOf a1 u Qf) : W p l e (x_rm 3 63) s m args below meth c H locs 0 0 (MQ below (x_Qi g Qf) args s 0 0 (x_A g)) (F0 m 0 ls []) := by
  unfold p_X11_setOf at h
  have hx := C.1
  have hb := C.2.1
  refine lv_iconst (v := 0) hx hb dX11_setOf_0 (by decide) ?_
  refine lv_istore_n (lv' := [(2, .int 0), (0, .ref (xad g 272)), (1, .int a1)]) hx hb dX11_setOf_1 rfl hl (by decide) rfl (fun ls hl => ?_)
  refine lv_iconst (v := 0) hx hb dX11_setOf_2 (by decide) ?_
  refine lv_istore_n (lv' := [(3, .int 0), (2, .int 0), (0, .ref (xad g 272)), (1, .int a1)]) hx hb dX11_setOf_3 rfl hl (by decide) rfl (fun ls hl => ?_)
  obtain ⟨n9, h⟩ := h
  exact s_X11_setOf_L4 C hM n9 hw (lv_sub hl [2, 3, 1, 0] rfl) h
set_option maxHeartbeats 4000000 in
set_option maxRecDepth 100000 in
theorem m_X11_setOf (l : Launch) {g : xG} (hD : x_D g) (hM : xpM g) {a1 : Int32} {u : xM} {Qf : Int32 → xM → Prop} (h : p_X11_setOf a1 u Qf) : Met l yX11_setOf (Cond.code yX11_setOf cX11_setOf 4 (some .int) :: wsL_law) (x_rm 3 63) (va_Pc [.ref (xad g 272), .int a1] (x_B g u)) (x_Qi g Qf) 0 0 (x_A g) := by
  refine Met.ofW (cc := cX11_setOf) (maxL := 4) (ret := (some .int)) (by decide) rfl ?_
  intro p e s m args below meth c s₁ B hml hv
  obtain ⟨rfl, hB⟩ := hv
  obtain ⟨C, hw⟩ := x_start B hml hD hB
  have hl := lv_entry [.ref (xad g 272), .int a1] (n := 4) (Nat.le_of_ble_eq_true rfl)
  rw [lg_entry_eq]
  exact s_X11_setOf C hM hw hl h
set_option maxHeartbeats 4000000 in
set_option maxRecDepth 100000 in
theorem s_X11_told {Qf : Int32 → xM → Prop} {a1 : Int32} (C : x_C p s m args meth c g RX11 cX11_told 2 (some .int)) (hM : xpM g) {u : xM} {H : Heap} {locs : List Loc} {ls : Array Slot} (hw : x_W g s.heap H locs u) (hl : lv_has ls 2 [(0, .ref (xad g 272)), (1, .int a1)]) (h : p_X11_told a1 u Qf) : W p l e (x_rm 4 86) s m args below meth c H locs 0 0 (MQ below (x_Qi g Qf) args s 0 0 (x_A g)) (F0 m 0 ls []) := by
  unfold p_X11_told at h
  have hx := C.1
  have hb := C.2.1
  refine lv_iload_n hx hb dX11_told_0 rfl (lv_at hl 1 rfl) ?_
  refine lv_if_lt (tgt := 10) hx hb dX11_told_1 (by decide) (fun c1 => ?_) (fun c1 => ?_)
  · have h := h.1 c1
    refine lv_aload_n hx hb dX11_told_10 rfl (lv_at hl 0 rfl) ?_
    refine lv_iconst (v := 1) hx hb dX11_told_11 (by decide) ?_
    refine x_calli hw (x_runV (ci := 11) C hw (m_X11_refuse l C.2.2.2.2.2.2.2.2.1 hM h) (xoM_272 hM) rfl (x_gV xw_657 xw_658 xw_659 xw_5 xw_660) rfl rfl qX11_refuse ⟨(Nat.le_of_ble_eq_true rfl), (Nat.le_of_ble_eq_true rfl)⟩ rfl hl.1 rfl (Nat.le_of_ble_eq_true rfl) dX11_told_12) (fun r3 u2 H locs hw h => ?_)
    exact x_iret C hw h dX11_told_15
  · have h := h.2 c1
    refine lv_iload_n hx hb dX11_told_4 rfl (lv_at hl 1 rfl) ?_
    refine lv_bipush (v := 9) hx hb dX11_told_5 (by decide) ?_
    refine lv_icmp_le (tgt := 16) hx hb dX11_told_7 (by decide) (fun c4 => ?_) (fun c4 => ?_)
    · have h := h.1 c4
      refine lv_aload_n hx hb dX11_told_16 rfl (lv_at hl 0 rfl) ?_
      refine lv_iload_n hx hb dX11_told_17 rfl (lv_at hl 1 rfl) ?_
      refine lv_iconst (v := 4) hx hb dX11_told_18 (by decide) ?_
      refine lv_icmp_ge (tgt := 31) hx hb dX11_told_19 (by decide) (fun c5 => ?_) (fun c5 => ?_)
      · have h := h.1 c5
        refine lv_iload_n hx hb dX11_told_31 rfl (lv_at hl 1 rfl) ?_
        refine lv_iconst (v := 4) hx hb dX11_told_32 (by decide) ?_
        refine lv_icmp_ne (tgt := 43) hx hb dX11_told_33 (by decide) (fun c6 => ?_) (fun c6 => ?_)
        · have h := h.1 c6
          refine lv_aload_n hx hb dX11_told_43 rfl (lv_at hl 0 rfl) ?_
          refine lv_iload_n hx hb dX11_told_44 rfl (lv_at hl 1 rfl) ?_
          refine lv_iconst (v := 5) hx hb dX11_told_45 (by decide) ?_
          refine lv_isub hx hb dX11_told_46 ?_
          refine x_calli hw (x_runV (ci := 11) C hw (m_X11_setOf l C.2.2.2.2.2.2.2.2.1 hM h) (xoM_272 hM) rfl (x_gV xw_899 xw_900 xw_901 xw_5 xw_902) rfl rfl qX11_setOf ⟨(Nat.le_of_ble_eq_true rfl), (Nat.le_of_ble_eq_true rfl)⟩ rfl hl.1 rfl (Nat.le_of_ble_eq_true rfl) dX11_told_47) (fun r8 u7 H locs hw h => ?_)
          refine x_calli hw (x_runV (ci := 11) C hw (m_X11_gives l C.2.2.2.2.2.2.2.2.1 hM h) (xoM_272 hM) rfl (x_gV xw_731 xw_732 xw_733 xw_5 xw_734) rfl rfl qX11_gives ⟨(Nat.le_of_ble_eq_true rfl), (Nat.le_of_ble_eq_true rfl)⟩ rfl hl.1 rfl (Nat.le_of_ble_eq_true rfl) dX11_told_50) (fun r10 u9 H locs hw h => ?_)
          exact x_iret C hw h dX11_told_53
        · have h := h.2 c6
          refine lv_aload_n hx hb dX11_told_36 rfl (lv_at hl 0 rfl) ?_
          refine x_calli hw (x_runV (ci := 11) C hw (m_X11_allWater l C.2.2.2.2.2.2.2.2.1 hM h) (xoM_272 hM) rfl (x_gV xw_888 xw_889 xw_890 xw_5 xw_891) rfl rfl qX11_allWater ⟨(Nat.le_of_ble_eq_true rfl), (Nat.le_of_ble_eq_true rfl)⟩ rfl hl.1 rfl (Nat.le_of_ble_eq_true rfl) dX11_told_37) (fun r12 u11 H locs hw h => ?_)
          refine lv_goto (tgt := 50) hx hb dX11_told_40 (by decide) ?_
          refine x_calli hw (x_runV (ci := 11) C hw (m_X11_gives l C.2.2.2.2.2.2.2.2.1 hM h) (xoM_272 hM) rfl (x_gV xw_731 xw_732 xw_733 xw_5 xw_734) rfl rfl qX11_gives ⟨(Nat.le_of_ble_eq_true rfl), (Nat.le_of_ble_eq_true rfl)⟩ rfl hl.1 rfl (Nat.le_of_ble_eq_true rfl) dX11_told_50) (fun r14 u13 H locs hw h => ?_)
          exact x_iret C hw h dX11_told_53
      · have h := h.2 c5
        refine lv_aload_n hx hb dX11_told_22 rfl (lv_at hl 0 rfl) ?_
        refine x_getr (ci := 11) C hw 0 (xoM_272 hM) rfl inlX11 (by decide) rfl rfl xrM_272_0 xw_219 dX11_told_23 ?_
        refine lv_iload_n hx hb dX11_told_26 rfl (lv_at hl 1 rfl) ?_
        have c15 := h.1
        have h := h.2
        refine x_iald C hw (xoM_273 hM) c15 dX11_told_27 ?_
        refine lv_goto (tgt := 50) hx hb dX11_told_28 (by decide) ?_
        refine x_calli hw (x_runV (ci := 11) C hw (m_X11_gives l C.2.2.2.2.2.2.2.2.1 hM h) (xoM_272 hM) rfl (x_gV xw_731 xw_732 xw_733 xw_5 xw_734) rfl rfl qX11_gives ⟨(Nat.le_of_ble_eq_true rfl), (Nat.le_of_ble_eq_true rfl)⟩ rfl hl.1 rfl (Nat.le_of_ble_eq_true rfl) dX11_told_50) (fun r17 u16 H locs hw h => ?_)
        exact x_iret C hw h dX11_told_53
    · have h := h.2 c4
      refine lv_aload_n hx hb dX11_told_10 rfl (lv_at hl 0 rfl) ?_
      refine lv_iconst (v := 1) hx hb dX11_told_11 (by decide) ?_
      refine x_calli hw (x_runV (ci := 11) C hw (m_X11_refuse l C.2.2.2.2.2.2.2.2.1 hM h) (xoM_272 hM) rfl (x_gV xw_657 xw_658 xw_659 xw_5 xw_660) rfl rfl qX11_refuse ⟨(Nat.le_of_ble_eq_true rfl), (Nat.le_of_ble_eq_true rfl)⟩ rfl hl.1 rfl (Nat.le_of_ble_eq_true rfl) dX11_told_12) (fun r19 u18 H locs hw h => ?_)
      exact x_iret C hw h dX11_told_15
set_option maxHeartbeats 4000000 in
set_option maxRecDepth 100000 in
theorem m_X11_told (l : Launch) {g : xG} (hD : x_D g) (hM : xpM g) {a1 : Int32} {u : xM} {Qf : Int32 → xM → Prop} (h : p_X11_told a1 u Qf) : Met l yX11_told (Cond.code yX11_told cX11_told 2 (some .int) :: wsL_law) (x_rm 4 86) (va_Pc [.ref (xad g 272), .int a1] (x_B g u)) (x_Qi g Qf) 0 0 (x_A g) := by
  refine Met.ofW (cc := cX11_told) (maxL := 2) (ret := (some .int)) (by decide) rfl ?_
  intro p e s m args below meth c s₁ B hml hv
  obtain ⟨rfl, hB⟩ := hv
  obtain ⟨C, hw⟩ := x_start B hml hD hB
  have hl := lv_entry [.ref (xad g 272), .int a1] (n := 2) (Nat.le_of_ble_eq_true rfl)
  rw [lg_entry_eq]
  exact s_X11_told C hM hw hl h
set_option maxHeartbeats 4000000 in
set_option maxRecDepth 100000 in
theorem s_X11_room {Qf : Int32 → xM → Prop} {a1 : Int32} {a2 : Int32} (C : x_C p s m args meth c g RX11 cX11_room 3 (some .int)) (hM : xpM g) {u : xM} {H : Heap} {locs : List Loc} {ls : Array Slot} (hw : x_W g s.heap H locs u) (hl : lv_has ls 3 [(0, .ref (xad g 272)), (1, .int a1), (2, .int a2)]) (h : p_X11_room a1 a2 u Qf) : W p l e (x_rm 4 84) s m args below meth c H locs 0 0 (MQ below (x_Qi g Qf) args s 0 0 (x_A g)) (F0 m 0 ls []) := by
  unfold p_X11_room at h
  have hx := C.1
  have hb := C.2.1
  refine lv_aload_n hx hb dX11_room_0 rfl (lv_at hl 0 rfl) ?_
  refine lv_iload_n hx hb dX11_room_1 rfl (lv_at hl 1 rfl) ?_
  refine x_callz hw (x_runV (ci := 11) C hw (m_X11_isRoom l C.2.2.2.2.2.2.2.2.1 hM h) (xoM_272 hM) rfl (x_gV xw_945 xw_946 xw_947 xw_5 xw_948) rfl rfl qX11_isRoom ⟨(Nat.le_of_ble_eq_true rfl), (Nat.le_of_ble_eq_true rfl)⟩ rfl hl.1 rfl (Nat.le_of_ble_eq_true rfl) dX11_room_2) (fun r2 u1 H locs hw h => ?_)
  refine lv_if_eq (tgt := 18) hx hb dX11_room_5 (by decide) (fun c3 => ?_) (fun c3 => ?_)
  · have h := h.1 (xb_f c3)
    refine lv_aload_n hx hb dX11_room_18 rfl (lv_at hl 0 rfl) ?_
    refine lv_iconst (v := 1) hx hb dX11_room_19 (by decide) ?_
    refine x_calli hw (x_runV (ci := 11) C hw (m_X11_refuse l C.2.2.2.2.2.2.2.2.1 hM h) (xoM_272 hM) rfl (x_gV xw_657 xw_658 xw_659 xw_5 xw_660) rfl rfl qX11_refuse ⟨(Nat.le_of_ble_eq_true rfl), (Nat.le_of_ble_eq_true rfl)⟩ rfl hl.1 rfl (Nat.le_of_ble_eq_true rfl) dX11_room_20) (fun r5 u4 H locs hw h => ?_)
    exact x_iret C hw h dX11_room_23
  · have h := h.2 (xb_t c3)
    refine lv_iload_n hx hb dX11_room_8 rfl (lv_at hl 2 rfl) ?_
    refine lv_if_lt (tgt := 18) hx hb dX11_room_9 (by decide) (fun c6 => ?_) (fun c6 => ?_)
    · have h := h.1 c6
      refine lv_aload_n hx hb dX11_room_18 rfl (lv_at hl 0 rfl) ?_
      refine lv_iconst (v := 1) hx hb dX11_room_19 (by decide) ?_
      refine x_calli hw (x_runV (ci := 11) C hw (m_X11_refuse l C.2.2.2.2.2.2.2.2.1 hM h) (xoM_272 hM) rfl (x_gV xw_657 xw_658 xw_659 xw_5 xw_660) rfl rfl qX11_refuse ⟨(Nat.le_of_ble_eq_true rfl), (Nat.le_of_ble_eq_true rfl)⟩ rfl hl.1 rfl (Nat.le_of_ble_eq_true rfl) dX11_room_20) (fun r8 u7 H locs hw h => ?_)
      exact x_iret C hw h dX11_room_23
    · have h := h.2 c6
      refine lv_iload_n hx hb dX11_room_12 rfl (lv_at hl 2 rfl) ?_
      refine lv_bipush (v := 7) hx hb dX11_room_13 (by decide) ?_
      refine lv_icmp_le (tgt := 24) hx hb dX11_room_15 (by decide) (fun c9 => ?_) (fun c9 => ?_)
      · have h := h.1 c9
        refine lv_aload_n hx hb dX11_room_24 rfl (lv_at hl 0 rfl) ?_
        refine lv_iload_n hx hb dX11_room_25 rfl (lv_at hl 2 rfl) ?_
        refine lv_iconst (v := 5) hx hb dX11_room_26 (by decide) ?_
        refine lv_icmp_ge (tgt := 39) hx hb dX11_room_27 (by decide) (fun c10 => ?_) (fun c10 => ?_)
        · have h := h.1 c10
          refine lv_iload_n hx hb dX11_room_39 rfl (lv_at hl 2 rfl) ?_
          refine lv_iconst (v := 5) hx hb dX11_room_40 (by decide) ?_
          refine lv_icmp_ne (tgt := 52) hx hb dX11_room_41 (by decide) (fun c11 => ?_) (fun c11 => ?_)
          · have h := h.1 c11
            refine lv_iload_n hx hb dX11_room_52 rfl (lv_at hl 2 rfl) ?_
            refine lv_bipush (v := 6) hx hb dX11_room_53 (by decide) ?_
            refine lv_icmp_ne (tgt := 66) hx hb dX11_room_55 (by decide) (fun c12 => ?_) (fun c12 => ?_)
            · have h := h.1 c12
              refine lv_aload_n hx hb dX11_room_66 rfl (lv_at hl 0 rfl) ?_
              refine lv_iload_n hx hb dX11_room_67 rfl (lv_at hl 1 rfl) ?_
              refine lv_bipush (v := 6) hx hb dX11_room_68 (by decide) ?_
              refine x_calli hw (x_runV (ci := 11) C hw (m_X11_roomOf l C.2.2.2.2.2.2.2.2.1 hM h) (xoM_272 hM) rfl (x_gV xw_892 xw_893 xw_894 xw_5 xw_895) rfl rfl qX11_roomOf ⟨(Nat.le_of_ble_eq_true rfl), (Nat.le_of_ble_eq_true rfl)⟩ rfl hl.1 rfl (Nat.le_of_ble_eq_true rfl) dX11_room_70) (fun r14 u13 H locs hw h => ?_)
              refine x_calli hw (x_runV (ci := 11) C hw (m_X11_gives l C.2.2.2.2.2.2.2.2.1 hM h) (xoM_272 hM) rfl (x_gV xw_731 xw_732 xw_733 xw_5 xw_734) rfl rfl qX11_gives ⟨(Nat.le_of_ble_eq_true rfl), (Nat.le_of_ble_eq_true rfl)⟩ rfl hl.1 rfl (Nat.le_of_ble_eq_true rfl) dX11_room_73) (fun r16 u15 H locs hw h => ?_)
              exact x_iret C hw h dX11_room_76
            · have h := h.2 c12
              refine lv_aload_n hx hb dX11_room_58 rfl (lv_at hl 0 rfl) ?_
              refine lv_iload_n hx hb dX11_room_59 rfl (lv_at hl 1 rfl) ?_
              refine x_calli hw (x_runV (ci := 11) C hw (m_X11_surfaceOf l C.2.2.2.2.2.2.2.2.1 hM h) (xoM_272 hM) rfl (x_gV xw_949 xw_950 xw_951 xw_5 xw_952) rfl rfl qX11_surfaceOf ⟨(Nat.le_of_ble_eq_true rfl), (Nat.le_of_ble_eq_true rfl)⟩ rfl hl.1 rfl (Nat.le_of_ble_eq_true rfl) dX11_room_60) (fun r18 u17 H locs hw h => ?_)
              refine lv_goto (tgt := 73) hx hb dX11_room_63 (by decide) ?_
              refine x_calli hw (x_runV (ci := 11) C hw (m_X11_gives l C.2.2.2.2.2.2.2.2.1 hM h) (xoM_272 hM) rfl (x_gV xw_731 xw_732 xw_733 xw_5 xw_734) rfl rfl qX11_gives ⟨(Nat.le_of_ble_eq_true rfl), (Nat.le_of_ble_eq_true rfl)⟩ rfl hl.1 rfl (Nat.le_of_ble_eq_true rfl) dX11_room_73) (fun r20 u19 H locs hw h => ?_)
              exact x_iret C hw h dX11_room_76
          · have h := h.2 c11
            refine lv_aload_n hx hb dX11_room_44 rfl (lv_at hl 0 rfl) ?_
            refine lv_iload_n hx hb dX11_room_45 rfl (lv_at hl 1 rfl) ?_
            refine x_calli hw (x_runV (ci := 11) C hw (m_X11_depthOf l C.2.2.2.2.2.2.2.2.1 hM h) (xoM_272 hM) rfl (x_gV xw_903 xw_904 xw_905 xw_5 xw_906) rfl rfl qX11_depthOf ⟨(Nat.le_of_ble_eq_true rfl), (Nat.le_of_ble_eq_true rfl)⟩ rfl hl.1 rfl (Nat.le_of_ble_eq_true rfl) dX11_room_46) (fun r22 u21 H locs hw h => ?_)
            refine lv_goto (tgt := 73) hx hb dX11_room_49 (by decide) ?_
            refine x_calli hw (x_runV (ci := 11) C hw (m_X11_gives l C.2.2.2.2.2.2.2.2.1 hM h) (xoM_272 hM) rfl (x_gV xw_731 xw_732 xw_733 xw_5 xw_734) rfl rfl qX11_gives ⟨(Nat.le_of_ble_eq_true rfl), (Nat.le_of_ble_eq_true rfl)⟩ rfl hl.1 rfl (Nat.le_of_ble_eq_true rfl) dX11_room_73) (fun r24 u23 H locs hw h => ?_)
            exact x_iret C hw h dX11_room_76
        · have h := h.2 c10
          refine lv_aload_n hx hb dX11_room_30 rfl (lv_at hl 0 rfl) ?_
          refine lv_iload_n hx hb dX11_room_31 rfl (lv_at hl 1 rfl) ?_
          refine lv_iload_n hx hb dX11_room_32 rfl (lv_at hl 2 rfl) ?_
          refine x_calli hw (x_runV (ci := 11) C hw (m_X11_roomOf l C.2.2.2.2.2.2.2.2.1 hM h) (xoM_272 hM) rfl (x_gV xw_892 xw_893 xw_894 xw_5 xw_895) rfl rfl qX11_roomOf ⟨(Nat.le_of_ble_eq_true rfl), (Nat.le_of_ble_eq_true rfl)⟩ rfl hl.1 rfl (Nat.le_of_ble_eq_true rfl) dX11_room_33) (fun r26 u25 H locs hw h => ?_)
          refine lv_goto (tgt := 73) hx hb dX11_room_36 (by decide) ?_
          refine x_calli hw (x_runV (ci := 11) C hw (m_X11_gives l C.2.2.2.2.2.2.2.2.1 hM h) (xoM_272 hM) rfl (x_gV xw_731 xw_732 xw_733 xw_5 xw_734) rfl rfl qX11_gives ⟨(Nat.le_of_ble_eq_true rfl), (Nat.le_of_ble_eq_true rfl)⟩ rfl hl.1 rfl (Nat.le_of_ble_eq_true rfl) dX11_room_73) (fun r28 u27 H locs hw h => ?_)
          exact x_iret C hw h dX11_room_76
      · have h := h.2 c9
        refine lv_aload_n hx hb dX11_room_18 rfl (lv_at hl 0 rfl) ?_
        refine lv_iconst (v := 1) hx hb dX11_room_19 (by decide) ?_
        refine x_calli hw (x_runV (ci := 11) C hw (m_X11_refuse l C.2.2.2.2.2.2.2.2.1 hM h) (xoM_272 hM) rfl (x_gV xw_657 xw_658 xw_659 xw_5 xw_660) rfl rfl qX11_refuse ⟨(Nat.le_of_ble_eq_true rfl), (Nat.le_of_ble_eq_true rfl)⟩ rfl hl.1 rfl (Nat.le_of_ble_eq_true rfl) dX11_room_20) (fun r30 u29 H locs hw h => ?_)
        exact x_iret C hw h dX11_room_23
set_option maxHeartbeats 4000000 in
set_option maxRecDepth 100000 in
theorem m_X11_room (l : Launch) {g : xG} (hD : x_D g) (hM : xpM g) {a1 : Int32} {a2 : Int32} {u : xM} {Qf : Int32 → xM → Prop} (h : p_X11_room a1 a2 u Qf) : Met l yX11_room (Cond.code yX11_room cX11_room 3 (some .int) :: wsL_law) (x_rm 4 84) (va_Pc [.ref (xad g 272), .int a1, .int a2] (x_B g u)) (x_Qi g Qf) 0 0 (x_A g) := by
  refine Met.ofW (cc := cX11_room) (maxL := 3) (ret := (some .int)) (by decide) rfl ?_
  intro p e s m args below meth c s₁ B hml hv
  obtain ⟨rfl, hB⟩ := hv
  obtain ⟨C, hw⟩ := x_start B hml hD hB
  have hl := lv_entry [.ref (xad g 272), .int a1, .int a2] (n := 3) (Nat.le_of_ble_eq_true rfl)
  rw [lg_entry_eq]
  exact s_X11_room C hM hw hl h
set_option maxHeartbeats 4000000 in
set_option maxRecDepth 100000 in
theorem s_X11_door {Qf : Int32 → xM → Prop} {a1 : Int32} {a2 : Int32} (C : x_C p s m args meth c g RX11 cX11_door 3 (some .int)) (hM : xpM g) {u : xM} {H : Heap} {locs : List Loc} {ls : Array Slot} (hw : x_W g s.heap H locs u) (hl : lv_has ls 3 [(0, .ref (xad g 272)), (1, .int a1), (2, .int a2)]) (h : p_X11_door a1 a2 u Qf) : W p l e (x_rm 2 42) s m args below meth c H locs 0 0 (MQ below (x_Qi g Qf) args s 0 0 (x_A g)) (F0 m 0 ls []) := by
  unfold p_X11_door at h
  have hx := C.1
  have hb := C.2.1
  refine lv_aload_n hx hb dX11_door_0 rfl (lv_at hl 0 rfl) ?_
  refine lv_iload_n hx hb dX11_door_1 rfl (lv_at hl 1 rfl) ?_
  refine x_callz hw (x_runV (ci := 11) C hw (m_X11_isDoor l C.2.2.2.2.2.2.2.2.1 hM h) (xoM_272 hM) rfl (x_gV xw_977 xw_978 xw_979 xw_5 xw_980) rfl rfl qX11_isDoor ⟨(Nat.le_of_ble_eq_true rfl), (Nat.le_of_ble_eq_true rfl)⟩ rfl hl.1 rfl (Nat.le_of_ble_eq_true rfl) dX11_door_2) (fun r2 u1 H locs hw h => ?_)
  refine lv_if_eq (tgt := 30) hx hb dX11_door_5 (by decide) (fun c3 => ?_) (fun c3 => ?_)
  · have h := h.1 (xb_f c3)
    refine lv_aload_n hx hb dX11_door_30 rfl (lv_at hl 0 rfl) ?_
    refine lv_iconst (v := 1) hx hb dX11_door_31 (by decide) ?_
    refine x_calli hw (x_runV (ci := 11) C hw (m_X11_refuse l C.2.2.2.2.2.2.2.2.1 hM h) (xoM_272 hM) rfl (x_gV xw_657 xw_658 xw_659 xw_5 xw_660) rfl rfl qX11_refuse ⟨(Nat.le_of_ble_eq_true rfl), (Nat.le_of_ble_eq_true rfl)⟩ rfl hl.1 rfl (Nat.le_of_ble_eq_true rfl) dX11_door_32) (fun r5 u4 H locs hw h => ?_)
    exact x_iret C hw h dX11_door_35
  · have h := h.2 (xb_t c3)
    refine lv_iload_n hx hb dX11_door_8 rfl (lv_at hl 2 rfl) ?_
    refine lv_if_lt (tgt := 30) hx hb dX11_door_9 (by decide) (fun c6 => ?_) (fun c6 => ?_)
    · have h := h.1 c6
      refine lv_aload_n hx hb dX11_door_30 rfl (lv_at hl 0 rfl) ?_
      refine lv_iconst (v := 1) hx hb dX11_door_31 (by decide) ?_
      refine x_calli hw (x_runV (ci := 11) C hw (m_X11_refuse l C.2.2.2.2.2.2.2.2.1 hM h) (xoM_272 hM) rfl (x_gV xw_657 xw_658 xw_659 xw_5 xw_660) rfl rfl qX11_refuse ⟨(Nat.le_of_ble_eq_true rfl), (Nat.le_of_ble_eq_true rfl)⟩ rfl hl.1 rfl (Nat.le_of_ble_eq_true rfl) dX11_door_32) (fun r8 u7 H locs hw h => ?_)
      exact x_iret C hw h dX11_door_35
    · have h := h.2 c6
      refine lv_iload_n hx hb dX11_door_12 rfl (lv_at hl 2 rfl) ?_
      refine lv_iconst (v := 5) hx hb dX11_door_13 (by decide) ?_
      refine lv_icmp_gt (tgt := 30) hx hb dX11_door_14 (by decide) (fun c9 => ?_) (fun c9 => ?_)
      · have h := h.1 c9
        refine lv_aload_n hx hb dX11_door_30 rfl (lv_at hl 0 rfl) ?_
        refine lv_iconst (v := 1) hx hb dX11_door_31 (by decide) ?_
        refine x_calli hw (x_runV (ci := 11) C hw (m_X11_refuse l C.2.2.2.2.2.2.2.2.1 hM h) (xoM_272 hM) rfl (x_gV xw_657 xw_658 xw_659 xw_5 xw_660) rfl rfl qX11_refuse ⟨(Nat.le_of_ble_eq_true rfl), (Nat.le_of_ble_eq_true rfl)⟩ rfl hl.1 rfl (Nat.le_of_ble_eq_true rfl) dX11_door_32) (fun r11 u10 H locs hw h => ?_)
        exact x_iret C hw h dX11_door_35
      · have h := h.2 c9
        refine lv_aload_n hx hb dX11_door_17 rfl (lv_at hl 0 rfl) ?_
        refine lv_aload_n hx hb dX11_door_18 rfl (lv_at hl 0 rfl) ?_
        refine lv_iload_n hx hb dX11_door_19 rfl (lv_at hl 1 rfl) ?_
        refine lv_iload_n hx hb dX11_door_20 rfl (lv_at hl 2 rfl) ?_
        refine x_calli hw (x_runV (ci := 11) C hw (m_X11_doorOf l C.2.2.2.2.2.2.2.2.1 hM h) (xoM_272 hM) rfl (x_gV xw_911 xw_912 xw_913 xw_5 xw_914) rfl rfl qX11_doorOf ⟨(Nat.le_of_ble_eq_true rfl), (Nat.le_of_ble_eq_true rfl)⟩ rfl hl.1 rfl (Nat.le_of_ble_eq_true rfl) dX11_door_21) (fun r13 u12 H locs hw h => ?_)
        refine x_calli hw (x_runV (ci := 11) C hw (m_X11_gives l C.2.2.2.2.2.2.2.2.1 hM h) (xoM_272 hM) rfl (x_gV xw_731 xw_732 xw_733 xw_5 xw_734) rfl rfl qX11_gives ⟨(Nat.le_of_ble_eq_true rfl), (Nat.le_of_ble_eq_true rfl)⟩ rfl hl.1 rfl (Nat.le_of_ble_eq_true rfl) dX11_door_24) (fun r15 u14 H locs hw h => ?_)
        refine lv_goto (tgt := 35) hx hb dX11_door_27 (by decide) ?_
        exact x_iret C hw h dX11_door_35
set_option maxHeartbeats 4000000 in
set_option maxRecDepth 100000 in
theorem m_X11_door (l : Launch) {g : xG} (hD : x_D g) (hM : xpM g) {a1 : Int32} {a2 : Int32} {u : xM} {Qf : Int32 → xM → Prop} (h : p_X11_door a1 a2 u Qf) : Met l yX11_door (Cond.code yX11_door cX11_door 3 (some .int) :: wsL_law) (x_rm 2 42) (va_Pc [.ref (xad g 272), .int a1, .int a2] (x_B g u)) (x_Qi g Qf) 0 0 (x_A g) := by
  refine Met.ofW (cc := cX11_door) (maxL := 3) (ret := (some .int)) (by decide) rfl ?_
  intro p e s m args below meth c s₁ B hml hv
  obtain ⟨rfl, hB⟩ := hv
  obtain ⟨C, hw⟩ := x_start B hml hD hB
  have hl := lv_entry [.ref (xad g 272), .int a1, .int a2] (n := 3) (Nat.le_of_ble_eq_true rfl)
  rw [lg_entry_eq]
  exact s_X11_door C hM hw hl h
set_option maxHeartbeats 4000000 in
set_option maxRecDepth 100000 in
theorem s_X11_isErrand {Qf : Bool → xM → Prop} {a1 : Int32} (C : x_C p s m args meth c g RX11 cX11_isErrand 2 (some .boolean)) (hM : xpM g) {u : xM} {H : Heap} {locs : List Loc} {ls : Array Slot} (hw : x_W g s.heap H locs u) (hl : lv_has ls 2 [(0, .ref (xad g 272)), (1, .int a1)]) (h : p_X11_isErrand a1 u Qf) : W p l e (x_rm 0 0) s m args below meth c H locs 0 0 (MQ below (x_Qz g Qf) args s 0 0 (x_A g)) (F0 m 0 ls []) := by
  unfold p_X11_isErrand at h
  have hx := C.1
  have hb := C.2.1
  refine lv_iload_n hx hb dX11_isErrand_0 rfl (lv_at hl 1 rfl) ?_
  refine lv_if_lt (tgt := 18) hx hb dX11_isErrand_1 (by decide) (fun c1 => ?_) (fun c1 => ?_)
  · have h := h.1 c1
    refine lv_iconst (v := 0) hx hb dX11_isErrand_18 (by decide) ?_
    exact x_zret false C hw h rfl dX11_isErrand_19
  · have h := h.2 c1
    refine lv_iload_n hx hb dX11_isErrand_4 rfl (lv_at hl 1 rfl) ?_
    refine lv_aload_n hx hb dX11_isErrand_5 rfl (lv_at hl 0 rfl) ?_
    refine x_getr (ci := 11) C hw 0 (xoM_272 hM) rfl inlX11 (by decide) rfl rfl xrM_272_0 xw_219 dX11_isErrand_6 ?_
    refine lv_iconst (v := 2) hx hb dX11_isErrand_9 (by decide) ?_
    have c2 := h.1
    have h := h.2
    refine x_iald C hw (xoM_273 hM) c2 dX11_isErrand_10 ?_
    refine lv_icmp_ge (tgt := 18) hx hb dX11_isErrand_11 (by decide) (fun c3 => ?_) (fun c3 => ?_)
    · have h := h.1 c3
      refine lv_iconst (v := 0) hx hb dX11_isErrand_18 (by decide) ?_
      exact x_zret false C hw h rfl dX11_isErrand_19
    · have h := h.2 c3
      refine lv_iconst (v := 1) hx hb dX11_isErrand_14 (by decide) ?_
      refine lv_goto (tgt := 19) hx hb dX11_isErrand_15 (by decide) ?_
      exact x_zret true C hw h rfl dX11_isErrand_19
set_option maxHeartbeats 4000000 in
set_option maxRecDepth 100000 in
theorem m_X11_isErrand (l : Launch) {g : xG} (hD : x_D g) (hM : xpM g) {a1 : Int32} {u : xM} {Qf : Bool → xM → Prop} (h : p_X11_isErrand a1 u Qf) : Met l yX11_isErrand (Cond.code yX11_isErrand cX11_isErrand 2 (some .boolean) :: wsL_law) (x_rm 0 0) (va_Pc [.ref (xad g 272), .int a1] (x_B g u)) (x_Qz g Qf) 0 0 (x_A g) := by
  refine Met.ofW (cc := cX11_isErrand) (maxL := 2) (ret := (some .boolean)) (by decide) rfl ?_
  intro p e s m args below meth c s₁ B hml hv
  obtain ⟨rfl, hB⟩ := hv
  obtain ⟨C, hw⟩ := x_start B hml hD hB
  have hl := lv_entry [.ref (xad g 272), .int a1] (n := 2) (Nat.le_of_ble_eq_true rfl)
  rw [lg_entry_eq]
  exact s_X11_isErrand C hM hw hl h
set_option maxHeartbeats 4000000 in
set_option maxRecDepth 100000 in
theorem s_X11_errand {Qf : Int32 → xM → Prop} {a1 : Int32} {a2 : Int32} (C : x_C p s m args meth c g RX11 cX11_errand 3 (some .int)) (hM : xpM g) {u : xM} {H : Heap} {locs : List Loc} {ls : Array Slot} (hw : x_W g s.heap H locs u) (hl : lv_has ls 3 [(0, .ref (xad g 272)), (1, .int a1), (2, .int a2)]) (h : p_X11_errand a1 a2 u Qf) : W p l e (x_rm 1 21) s m args below meth c H locs 0 0 (MQ below (x_Qi g Qf) args s 0 0 (x_A g)) (F0 m 0 ls []) := by
  unfold p_X11_errand at h
  have hx := C.1
  have hb := C.2.1
  refine lv_aload_n hx hb dX11_errand_0 rfl (lv_at hl 0 rfl) ?_
  refine lv_iload_n hx hb dX11_errand_1 rfl (lv_at hl 1 rfl) ?_
  refine x_callz hw (x_runV (ci := 11) C hw (m_X11_isErrand l C.2.2.2.2.2.2.2.2.1 hM h) (xoM_272 hM) rfl (x_gV xw_992 xw_993 xw_994 xw_5 xw_995) rfl rfl qX11_isErrand ⟨(Nat.le_of_ble_eq_true rfl), (Nat.le_of_ble_eq_true rfl)⟩ rfl hl.1 rfl (Nat.le_of_ble_eq_true rfl) dX11_errand_2) (fun r2 u1 H locs hw h => ?_)
  refine lv_if_eq (tgt := 38) hx hb dX11_errand_5 (by decide) (fun c3 => ?_) (fun c3 => ?_)
  · have h := h.1 (xb_f c3)
    refine lv_aload_n hx hb dX11_errand_38 rfl (lv_at hl 0 rfl) ?_
    refine lv_iconst (v := 1) hx hb dX11_errand_39 (by decide) ?_
    refine x_calli hw (x_runV (ci := 11) C hw (m_X11_refuse l C.2.2.2.2.2.2.2.2.1 hM h) (xoM_272 hM) rfl (x_gV xw_657 xw_658 xw_659 xw_5 xw_660) rfl rfl qX11_refuse ⟨(Nat.le_of_ble_eq_true rfl), (Nat.le_of_ble_eq_true rfl)⟩ rfl hl.1 rfl (Nat.le_of_ble_eq_true rfl) dX11_errand_40) (fun r5 u4 H locs hw h => ?_)
    exact x_iret C hw h dX11_errand_43
  · have h := h.2 (xb_t c3)
    refine lv_iload_n hx hb dX11_errand_8 rfl (lv_at hl 2 rfl) ?_
    refine lv_if_lt (tgt := 38) hx hb dX11_errand_9 (by decide) (fun c6 => ?_) (fun c6 => ?_)
    · have h := h.1 c6
      refine lv_aload_n hx hb dX11_errand_38 rfl (lv_at hl 0 rfl) ?_
      refine lv_iconst (v := 1) hx hb dX11_errand_39 (by decide) ?_
      refine x_calli hw (x_runV (ci := 11) C hw (m_X11_refuse l C.2.2.2.2.2.2.2.2.1 hM h) (xoM_272 hM) rfl (x_gV xw_657 xw_658 xw_659 xw_5 xw_660) rfl rfl qX11_refuse ⟨(Nat.le_of_ble_eq_true rfl), (Nat.le_of_ble_eq_true rfl)⟩ rfl hl.1 rfl (Nat.le_of_ble_eq_true rfl) dX11_errand_40) (fun r8 u7 H locs hw h => ?_)
      exact x_iret C hw h dX11_errand_43
    · have h := h.2 c6
      refine lv_iload_n hx hb dX11_errand_12 rfl (lv_at hl 2 rfl) ?_
      refine lv_iconst (v := 2) hx hb dX11_errand_13 (by decide) ?_
      refine lv_icmp_gt (tgt := 38) hx hb dX11_errand_14 (by decide) (fun c9 => ?_) (fun c9 => ?_)
      · have h := h.1 c9
        refine lv_aload_n hx hb dX11_errand_38 rfl (lv_at hl 0 rfl) ?_
        refine lv_iconst (v := 1) hx hb dX11_errand_39 (by decide) ?_
        refine x_calli hw (x_runV (ci := 11) C hw (m_X11_refuse l C.2.2.2.2.2.2.2.2.1 hM h) (xoM_272 hM) rfl (x_gV xw_657 xw_658 xw_659 xw_5 xw_660) rfl rfl qX11_refuse ⟨(Nat.le_of_ble_eq_true rfl), (Nat.le_of_ble_eq_true rfl)⟩ rfl hl.1 rfl (Nat.le_of_ble_eq_true rfl) dX11_errand_40) (fun r11 u10 H locs hw h => ?_)
        exact x_iret C hw h dX11_errand_43
      · have h := h.2 c9
        refine lv_aload_n hx hb dX11_errand_17 rfl (lv_at hl 0 rfl) ?_
        refine lv_aload_n hx hb dX11_errand_18 rfl (lv_at hl 0 rfl) ?_
        refine x_getr (ci := 11) C hw 0 (xoM_272 hM) rfl inlX11 (by decide) rfl rfl xrM_272_0 xw_219 dX11_errand_19 ?_
        refine lv_sipush (v := 147) hx hb dX11_errand_22 (by decide) ?_
        refine lv_iconst (v := 3) hx hb dX11_errand_25 (by decide) ?_
        refine lv_iload_n hx hb dX11_errand_26 rfl (lv_at hl 1 rfl) ?_
        refine lv_imul hx hb dX11_errand_27 ?_
        refine lv_iadd hx hb dX11_errand_28 ?_
        refine lv_iload_n hx hb dX11_errand_29 rfl (lv_at hl 2 rfl) ?_
        refine lv_iadd hx hb dX11_errand_30 ?_
        have c12 := h.1
        have h := h.2
        refine x_iald C hw (xoM_273 hM) c12 dX11_errand_31 ?_
        refine x_calli hw (x_runV (ci := 11) C hw (m_X11_gives l C.2.2.2.2.2.2.2.2.1 hM h) (xoM_272 hM) rfl (x_gV xw_731 xw_732 xw_733 xw_5 xw_734) rfl rfl qX11_gives ⟨(Nat.le_of_ble_eq_true rfl), (Nat.le_of_ble_eq_true rfl)⟩ rfl hl.1 rfl (Nat.le_of_ble_eq_true rfl) dX11_errand_32) (fun r14 u13 H locs hw h => ?_)
        refine lv_goto (tgt := 43) hx hb dX11_errand_35 (by decide) ?_
        exact x_iret C hw h dX11_errand_43
set_option maxHeartbeats 4000000 in
set_option maxRecDepth 100000 in
theorem m_X11_errand (l : Launch) {g : xG} (hD : x_D g) (hM : xpM g) {a1 : Int32} {a2 : Int32} {u : xM} {Qf : Int32 → xM → Prop} (h : p_X11_errand a1 a2 u Qf) : Met l yX11_errand (Cond.code yX11_errand cX11_errand 3 (some .int) :: wsL_law) (x_rm 1 21) (va_Pc [.ref (xad g 272), .int a1, .int a2] (x_B g u)) (x_Qi g Qf) 0 0 (x_A g) := by
  refine Met.ofW (cc := cX11_errand) (maxL := 3) (ret := (some .int)) (by decide) rfl ?_
  intro p e s m args below meth c s₁ B hml hv
  obtain ⟨rfl, hB⟩ := hv
  obtain ⟨C, hw⟩ := x_start B hml hD hB
  have hl := lv_entry [.ref (xad g 272), .int a1, .int a2] (n := 3) (Nat.le_of_ble_eq_true rfl)
  rw [lg_entry_eq]
  exact s_X11_errand C hM hw hl h
set_option maxHeartbeats 4000000 in
set_option maxRecDepth 100000 in
theorem s_X11_tide {Qf : Int32 → xM → Prop} {a1 : Int32} (C : x_C p s m args meth c g RX11 cX11_tide 2 (some .int)) (hM : xpM g) {u : xM} {H : Heap} {locs : List Loc} {ls : Array Slot} (hw : x_W g s.heap H locs u) (hl : lv_has ls 2 [(0, .ref (xad g 272)), (1, .int a1)]) (h : p_X11_tide a1 u Qf) : W p l e (x_rm 1 21) s m args below meth c H locs 0 0 (MQ below (x_Qi g Qf) args s 0 0 (x_A g)) (F0 m 0 ls []) := by
  unfold p_X11_tide at h
  have hx := C.1
  have hb := C.2.1
  refine lv_iload_n hx hb dX11_tide_0 rfl (lv_at hl 1 rfl) ?_
  refine x_callz hw (x_runS C hw (m_X11_isHour l C.2.2.2.2.2.2.2.2.1  h) (x_gS xw_1008 xw_1009 xw_5 xw_1010) rfl rfl qX11_isHour ⟨(Nat.le_of_ble_eq_true rfl), (Nat.le_of_ble_eq_true rfl)⟩ rfl hl.1 rfl (Nat.le_of_ble_eq_true rfl) dX11_tide_1) (fun r2 u1 H locs hw h => ?_)
  refine lv_if_eq (tgt := 24) hx hb dX11_tide_4 (by decide) (fun c3 => ?_) (fun c3 => ?_)
  · have h := h.1 (xb_f c3)
    refine lv_aload_n hx hb dX11_tide_24 rfl (lv_at hl 0 rfl) ?_
    refine lv_iconst (v := 1) hx hb dX11_tide_25 (by decide) ?_
    refine x_calli hw (x_runV (ci := 11) C hw (m_X11_refuse l C.2.2.2.2.2.2.2.2.1 hM h) (xoM_272 hM) rfl (x_gV xw_657 xw_658 xw_659 xw_5 xw_660) rfl rfl qX11_refuse ⟨(Nat.le_of_ble_eq_true rfl), (Nat.le_of_ble_eq_true rfl)⟩ rfl hl.1 rfl (Nat.le_of_ble_eq_true rfl) dX11_tide_26) (fun r5 u4 H locs hw h => ?_)
    exact x_iret C hw h dX11_tide_29
  · have h := h.2 (xb_t c3)
    refine lv_aload_n hx hb dX11_tide_7 rfl (lv_at hl 0 rfl) ?_
    refine lv_aload_n hx hb dX11_tide_8 rfl (lv_at hl 0 rfl) ?_
    refine x_getr (ci := 11) C hw 0 (xoM_272 hM) rfl inlX11 (by decide) rfl rfl xrM_272_0 xw_219 dX11_tide_9 ?_
    refine lv_sipush (v := 135) hx hb dX11_tide_12 (by decide) ?_
    refine lv_iload_n hx hb dX11_tide_15 rfl (lv_at hl 1 rfl) ?_
    refine lv_iadd hx hb dX11_tide_16 ?_
    have c6 := h.1
    have h := h.2
    refine x_iald C hw (xoM_273 hM) c6 dX11_tide_17 ?_
    refine x_calli hw (x_runV (ci := 11) C hw (m_X11_gives l C.2.2.2.2.2.2.2.2.1 hM h) (xoM_272 hM) rfl (x_gV xw_731 xw_732 xw_733 xw_5 xw_734) rfl rfl qX11_gives ⟨(Nat.le_of_ble_eq_true rfl), (Nat.le_of_ble_eq_true rfl)⟩ rfl hl.1 rfl (Nat.le_of_ble_eq_true rfl) dX11_tide_18) (fun r8 u7 H locs hw h => ?_)
    refine lv_goto (tgt := 29) hx hb dX11_tide_21 (by decide) ?_
    exact x_iret C hw h dX11_tide_29
set_option maxHeartbeats 4000000 in
set_option maxRecDepth 100000 in
theorem m_X11_tide (l : Launch) {g : xG} (hD : x_D g) (hM : xpM g) {a1 : Int32} {u : xM} {Qf : Int32 → xM → Prop} (h : p_X11_tide a1 u Qf) : Met l yX11_tide (Cond.code yX11_tide cX11_tide 2 (some .int) :: wsL_law) (x_rm 1 21) (va_Pc [.ref (xad g 272), .int a1] (x_B g u)) (x_Qi g Qf) 0 0 (x_A g) := by
  refine Met.ofW (cc := cX11_tide) (maxL := 2) (ret := (some .int)) (by decide) rfl ?_
  intro p e s m args below meth c s₁ B hml hv
  obtain ⟨rfl, hB⟩ := hv
  obtain ⟨C, hw⟩ := x_start B hml hD hB
  have hl := lv_entry [.ref (xad g 272), .int a1] (n := 2) (Nat.le_of_ble_eq_true rfl)
  rw [lg_entry_eq]
  exact s_X11_tide C hM hw hl h
set_option maxHeartbeats 4000000 in
set_option maxRecDepth 100000 in
theorem s_X11_drive {Qf : Int32 → xM → Prop} {a1 : Int32} (C : x_C p s m args meth c g RX11 cX11_drive 2 (some .int)) (hM : xpM g) {u : xM} {H : Heap} {locs : List Loc} {ls : Array Slot} (hw : x_W g s.heap H locs u) (hl : lv_has ls 2 [(0, .ref (xad g 272)), (1, .int a1)]) (h : p_X11_drive a1 u Qf) : W p l e (x_rm 5 107) s m args below meth c H locs 0 0 (MQ below (x_Qi g Qf) args s 0 0 (x_A g)) (F0 m 0 ls []) := by
  unfold p_X11_drive at h
  have hx := C.1
  have hb := C.2.1
  refine lv_aload_n hx hb dX11_drive_0 rfl (lv_at hl 0 rfl) ?_
  refine lv_iload_n hx hb dX11_drive_1 rfl (lv_at hl 1 rfl) ?_
  refine x_callz hw (x_runV (ci := 11) C hw (m_X11_isDoor l C.2.2.2.2.2.2.2.2.1 hM h) (xoM_272 hM) rfl (x_gV xw_977 xw_978 xw_979 xw_5 xw_980) rfl rfl qX11_isDoor ⟨(Nat.le_of_ble_eq_true rfl), (Nat.le_of_ble_eq_true rfl)⟩ rfl hl.1 rfl (Nat.le_of_ble_eq_true rfl) dX11_drive_2) (fun r2 u1 H locs hw h => ?_)
  refine lv_if_eq (tgt := 20) hx hb dX11_drive_5 (by decide) (fun c3 => ?_) (fun c3 => ?_)
  · have h := h.1 (xb_f c3)
    refine lv_aload_n hx hb dX11_drive_20 rfl (lv_at hl 0 rfl) ?_
    refine lv_iconst (v := 1) hx hb dX11_drive_21 (by decide) ?_
    refine x_calli hw (x_runV (ci := 11) C hw (m_X11_refuse l C.2.2.2.2.2.2.2.2.1 hM h) (xoM_272 hM) rfl (x_gV xw_657 xw_658 xw_659 xw_5 xw_660) rfl rfl qX11_refuse ⟨(Nat.le_of_ble_eq_true rfl), (Nat.le_of_ble_eq_true rfl)⟩ rfl hl.1 rfl (Nat.le_of_ble_eq_true rfl) dX11_drive_22) (fun r5 u4 H locs hw h => ?_)
    exact x_iret C hw h dX11_drive_25
  · have h := h.2 (xb_t c3)
    refine lv_aload_n hx hb dX11_drive_8 rfl (lv_at hl 0 rfl) ?_
    refine lv_aload_n hx hb dX11_drive_9 rfl (lv_at hl 0 rfl) ?_
    refine lv_iload_n hx hb dX11_drive_10 rfl (lv_at hl 1 rfl) ?_
    refine x_calli hw (x_runV (ci := 11) C hw (m_X11_driveOf l C.2.2.2.2.2.2.2.2.1 hM h) (xoM_272 hM) rfl (x_gV xw_1052 xw_1053 xw_1054 xw_5 xw_1055) rfl rfl qX11_driveOf ⟨(Nat.le_of_ble_eq_true rfl), (Nat.le_of_ble_eq_true rfl)⟩ rfl hl.1 rfl (Nat.le_of_ble_eq_true rfl) dX11_drive_11) (fun r7 u6 H locs hw h => ?_)
    refine x_calli hw (x_runV (ci := 11) C hw (m_X11_gives l C.2.2.2.2.2.2.2.2.1 hM h) (xoM_272 hM) rfl (x_gV xw_731 xw_732 xw_733 xw_5 xw_734) rfl rfl qX11_gives ⟨(Nat.le_of_ble_eq_true rfl), (Nat.le_of_ble_eq_true rfl)⟩ rfl hl.1 rfl (Nat.le_of_ble_eq_true rfl) dX11_drive_14) (fun r9 u8 H locs hw h => ?_)
    refine lv_goto (tgt := 25) hx hb dX11_drive_17 (by decide) ?_
    exact x_iret C hw h dX11_drive_25
set_option maxHeartbeats 4000000 in
set_option maxRecDepth 100000 in
theorem m_X11_drive (l : Launch) {g : xG} (hD : x_D g) (hM : xpM g) {a1 : Int32} {u : xM} {Qf : Int32 → xM → Prop} (h : p_X11_drive a1 u Qf) : Met l yX11_drive (Cond.code yX11_drive cX11_drive 2 (some .int) :: wsL_law) (x_rm 5 107) (va_Pc [.ref (xad g 272), .int a1] (x_B g u)) (x_Qi g Qf) 0 0 (x_A g) := by
  refine Met.ofW (cc := cX11_drive) (maxL := 2) (ret := (some .int)) (by decide) rfl ?_
  intro p e s m args below meth c s₁ B hml hv
  obtain ⟨rfl, hB⟩ := hv
  obtain ⟨C, hw⟩ := x_start B hml hD hB
  have hl := lv_entry [.ref (xad g 272), .int a1] (n := 2) (Nat.le_of_ble_eq_true rfl)
  rw [lg_entry_eq]
  exact s_X11_drive C hM hw hl h
set_option maxHeartbeats 4000000 in
set_option maxRecDepth 100000 in
theorem s_X11_flow {Qf : Int32 → xM → Prop} {a1 : Int32} (C : x_C p s m args meth c g RX11 cX11_flow 2 (some .int)) (hM : xpM g) {u : xM} {H : Heap} {locs : List Loc} {ls : Array Slot} (hw : x_W g s.heap H locs u) (hl : lv_has ls 2 [(0, .ref (xad g 272)), (1, .int a1)]) (h : p_X11_flow a1 u Qf) : W p l e (x_rm 7 151) s m args below meth c H locs 0 0 (MQ below (x_Qi g Qf) args s 0 0 (x_A g)) (F0 m 0 ls []) := by
  unfold p_X11_flow at h
  have hx := C.1
  have hb := C.2.1
  refine lv_aload_n hx hb dX11_flow_0 rfl (lv_at hl 0 rfl) ?_
  refine lv_iload_n hx hb dX11_flow_1 rfl (lv_at hl 1 rfl) ?_
  refine x_callz hw (x_runV (ci := 11) C hw (m_X11_isDoor l C.2.2.2.2.2.2.2.2.1 hM h) (xoM_272 hM) rfl (x_gV xw_977 xw_978 xw_979 xw_5 xw_980) rfl rfl qX11_isDoor ⟨(Nat.le_of_ble_eq_true rfl), (Nat.le_of_ble_eq_true rfl)⟩ rfl hl.1 rfl (Nat.le_of_ble_eq_true rfl) dX11_flow_2) (fun r2 u1 H locs hw h => ?_)
  refine lv_if_eq (tgt := 20) hx hb dX11_flow_5 (by decide) (fun c3 => ?_) (fun c3 => ?_)
  · have h := h.1 (xb_f c3)
    refine lv_aload_n hx hb dX11_flow_20 rfl (lv_at hl 0 rfl) ?_
    refine lv_iconst (v := 1) hx hb dX11_flow_21 (by decide) ?_
    refine x_calli hw (x_runV (ci := 11) C hw (m_X11_refuse l C.2.2.2.2.2.2.2.2.1 hM h) (xoM_272 hM) rfl (x_gV xw_657 xw_658 xw_659 xw_5 xw_660) rfl rfl qX11_refuse ⟨(Nat.le_of_ble_eq_true rfl), (Nat.le_of_ble_eq_true rfl)⟩ rfl hl.1 rfl (Nat.le_of_ble_eq_true rfl) dX11_flow_22) (fun r5 u4 H locs hw h => ?_)
    exact x_iret C hw h dX11_flow_25
  · have h := h.2 (xb_t c3)
    refine lv_aload_n hx hb dX11_flow_8 rfl (lv_at hl 0 rfl) ?_
    refine lv_aload_n hx hb dX11_flow_9 rfl (lv_at hl 0 rfl) ?_
    refine lv_iload_n hx hb dX11_flow_10 rfl (lv_at hl 1 rfl) ?_
    refine x_calli hw (x_runV (ci := 11) C hw (m_X11_flowOf l C.2.2.2.2.2.2.2.2.1 hM h) (xoM_272 hM) rfl (x_gV xw_1069 xw_1070 xw_1071 xw_5 xw_1072) rfl rfl qX11_flowOf ⟨(Nat.le_of_ble_eq_true rfl), (Nat.le_of_ble_eq_true rfl)⟩ rfl hl.1 rfl (Nat.le_of_ble_eq_true rfl) dX11_flow_11) (fun r7 u6 H locs hw h => ?_)
    refine x_calli hw (x_runV (ci := 11) C hw (m_X11_gives l C.2.2.2.2.2.2.2.2.1 hM h) (xoM_272 hM) rfl (x_gV xw_731 xw_732 xw_733 xw_5 xw_734) rfl rfl qX11_gives ⟨(Nat.le_of_ble_eq_true rfl), (Nat.le_of_ble_eq_true rfl)⟩ rfl hl.1 rfl (Nat.le_of_ble_eq_true rfl) dX11_flow_14) (fun r9 u8 H locs hw h => ?_)
    refine lv_goto (tgt := 25) hx hb dX11_flow_17 (by decide) ?_
    exact x_iret C hw h dX11_flow_25
set_option maxHeartbeats 4000000 in
set_option maxRecDepth 100000 in
theorem m_X11_flow (l : Launch) {g : xG} (hD : x_D g) (hM : xpM g) {a1 : Int32} {u : xM} {Qf : Int32 → xM → Prop} (h : p_X11_flow a1 u Qf) : Met l yX11_flow (Cond.code yX11_flow cX11_flow 2 (some .int) :: wsL_law) (x_rm 7 151) (va_Pc [.ref (xad g 272), .int a1] (x_B g u)) (x_Qi g Qf) 0 0 (x_A g) := by
  refine Met.ofW (cc := cX11_flow) (maxL := 2) (ret := (some .int)) (by decide) rfl ?_
  intro p e s m args below meth c s₁ B hml hv
  obtain ⟨rfl, hB⟩ := hv
  obtain ⟨C, hw⟩ := x_start B hml hD hB
  have hl := lv_entry [.ref (xad g 272), .int a1] (n := 2) (Nat.le_of_ble_eq_true rfl)
  rw [lg_entry_eq]
  exact s_X11_flow C hM hw hl h
set_option maxHeartbeats 4000000 in
set_option maxRecDepth 100000 in
theorem s_X11_flowOpen {Qf : Int32 → xM → Prop} {a1 : Int32} (C : x_C p s m args meth c g RX11 cX11_flowOpen 2 (some .int)) (hM : xpM g) {u : xM} {H : Heap} {locs : List Loc} {ls : Array Slot} (hw : x_W g s.heap H locs u) (hl : lv_has ls 2 [(0, .ref (xad g 272)), (1, .int a1)]) (h : p_X11_flowOpen a1 u Qf) : W p l e (x_rm 6 130) s m args below meth c H locs 0 0 (MQ below (x_Qi g Qf) args s 0 0 (x_A g)) (F0 m 0 ls []) := by
  unfold p_X11_flowOpen at h
  have hx := C.1
  have hb := C.2.1
  refine lv_aload_n hx hb dX11_flowOpen_0 rfl (lv_at hl 0 rfl) ?_
  refine lv_iload_n hx hb dX11_flowOpen_1 rfl (lv_at hl 1 rfl) ?_
  refine x_callz hw (x_runV (ci := 11) C hw (m_X11_isDoor l C.2.2.2.2.2.2.2.2.1 hM h) (xoM_272 hM) rfl (x_gV xw_977 xw_978 xw_979 xw_5 xw_980) rfl rfl qX11_isDoor ⟨(Nat.le_of_ble_eq_true rfl), (Nat.le_of_ble_eq_true rfl)⟩ rfl hl.1 rfl (Nat.le_of_ble_eq_true rfl) dX11_flowOpen_2) (fun r2 u1 H locs hw h => ?_)
  refine lv_if_eq (tgt := 21) hx hb dX11_flowOpen_5 (by decide) (fun c3 => ?_) (fun c3 => ?_)
  · have h := h.1 (xb_f c3)
    refine lv_aload_n hx hb dX11_flowOpen_21 rfl (lv_at hl 0 rfl) ?_
    refine lv_iconst (v := 1) hx hb dX11_flowOpen_22 (by decide) ?_
    refine x_calli hw (x_runV (ci := 11) C hw (m_X11_refuse l C.2.2.2.2.2.2.2.2.1 hM h) (xoM_272 hM) rfl (x_gV xw_657 xw_658 xw_659 xw_5 xw_660) rfl rfl qX11_refuse ⟨(Nat.le_of_ble_eq_true rfl), (Nat.le_of_ble_eq_true rfl)⟩ rfl hl.1 rfl (Nat.le_of_ble_eq_true rfl) dX11_flowOpen_23) (fun r5 u4 H locs hw h => ?_)
    exact x_iret C hw h dX11_flowOpen_26
  · have h := h.2 (xb_t c3)
    refine lv_aload_n hx hb dX11_flowOpen_8 rfl (lv_at hl 0 rfl) ?_
    refine lv_aload_n hx hb dX11_flowOpen_9 rfl (lv_at hl 0 rfl) ?_
    refine lv_iload_n hx hb dX11_flowOpen_10 rfl (lv_at hl 1 rfl) ?_
    refine lv_iconst (v := 1) hx hb dX11_flowOpen_11 (by decide) ?_
    refine x_calli hw (x_runV (ci := 11) C hw (m_X11_flowBy l C.2.2.2.2.2.2.2.2.1 hM h) (xoM_272 hM) rfl (x_gV xw_1073 xw_1074 xw_1075 xw_5 xw_1076) rfl rfl qX11_flowBy ⟨(Nat.le_of_ble_eq_true rfl), (Nat.le_of_ble_eq_true rfl)⟩ rfl hl.1 rfl (Nat.le_of_ble_eq_true rfl) dX11_flowOpen_12) (fun r7 u6 H locs hw h => ?_)
    refine x_calli hw (x_runV (ci := 11) C hw (m_X11_gives l C.2.2.2.2.2.2.2.2.1 hM h) (xoM_272 hM) rfl (x_gV xw_731 xw_732 xw_733 xw_5 xw_734) rfl rfl qX11_gives ⟨(Nat.le_of_ble_eq_true rfl), (Nat.le_of_ble_eq_true rfl)⟩ rfl hl.1 rfl (Nat.le_of_ble_eq_true rfl) dX11_flowOpen_15) (fun r9 u8 H locs hw h => ?_)
    refine lv_goto (tgt := 26) hx hb dX11_flowOpen_18 (by decide) ?_
    exact x_iret C hw h dX11_flowOpen_26
set_option maxHeartbeats 4000000 in
set_option maxRecDepth 100000 in
theorem m_X11_flowOpen (l : Launch) {g : xG} (hD : x_D g) (hM : xpM g) {a1 : Int32} {u : xM} {Qf : Int32 → xM → Prop} (h : p_X11_flowOpen a1 u Qf) : Met l yX11_flowOpen (Cond.code yX11_flowOpen cX11_flowOpen 2 (some .int) :: wsL_law) (x_rm 6 130) (va_Pc [.ref (xad g 272), .int a1] (x_B g u)) (x_Qi g Qf) 0 0 (x_A g) := by
  refine Met.ofW (cc := cX11_flowOpen) (maxL := 2) (ret := (some .int)) (by decide) rfl ?_
  intro p e s m args below meth c s₁ B hml hv
  obtain ⟨rfl, hB⟩ := hv
  obtain ⟨C, hw⟩ := x_start B hml hD hB
  have hl := lv_entry [.ref (xad g 272), .int a1] (n := 2) (Nat.le_of_ble_eq_true rfl)
  rw [lg_entry_eq]
  exact s_X11_flowOpen C hM hw hl h
set_option maxHeartbeats 4000000 in
set_option maxRecDepth 100000 in
theorem s_X11_deepest_L33 {Qf : Int32 → xM → Prop} {K4 : Int32 → Int32 → xM → Prop} (C : x_C p s m args meth c g RX11 cX11_deepest 3 (some .int)) (hM : xpM g) (hK4 : ∀ {v1 : Int32} {v2 : Int32} {u : xM} {H : Heap} {locs : List Loc} {ls : Array Slot}, x_W g s.heap H locs u → lv_has ls 3 [(0, .ref (xad g 272)), (1, .int v1), (2, .int v2)] → K4 v1 v2 u → W p l e (x_rm 3 63) s m args below meth c H locs 0 0 (MQ below (x_Qi g Qf) args s 0 0 (x_A g)) (F0 m 4 ls [])) {v1 : Int32} {v2 : Int32} {w0 : Int32} {w1 : Int32} {u : xM} {H : Heap} {locs : List Loc} {ls : Array Slot} (hw : x_W g s.heap H locs u) (hl : lv_has ls 3 [(0, .ref (xad g 272)), (1, .int v1), (2, .int v2)]) (h : p_X11_deepest_L33 Qf K4 v1 v2 w0 w1 u) : W p l e (x_rm 3 63) s m args below meth c H locs 0 0 (MQ below (x_Qi g Qf) args s 0 0 (x_A g)) (F0 m 33 ls [.int w1, .int w0]) := by
  unfold p_X11_deepest_L33 at h
  have hx := C.1
  have hb := C.2.1
  refine lv_icmp_le (tgt := 38) hx hb dX11_deepest_33 (by decide) (fun c1 => ?_) (fun c1 => ?_)
  · have h := h.1 c1
    obtain ⟨x2, ex2⟩ : ∃ y : Int32, y = v2 + 1 := ⟨_, rfl⟩
    have h := h x2 ex2
    refine lv_iinc (v := x2) (lv' := [(2, .int x2), (0, .ref (xad g 272)), (1, .int v1)]) hx hb dX11_deepest_38 hl (k := 2) rfl (by rw [ex2]; rfl) (by decide) rfl (fun ls hl => ?_)
    refine lv_goto (tgt := 4) hx hb dX11_deepest_41 (by decide) ?_
    exact hK4 hw (lv_sub hl [1, 2, 0] rfl) h
  · have h := h.2 c1
    refine lv_iload_n hx hb dX11_deepest_36 rfl (lv_at hl 2 rfl) ?_
    refine lv_istore_n (lv' := [(1, .int v2), (0, .ref (xad g 272)), (2, .int v2)]) hx hb dX11_deepest_37 rfl hl (by decide) rfl (fun ls hl => ?_)
    obtain ⟨x3, ex3⟩ : ∃ y : Int32, y = v2 + 1 := ⟨_, rfl⟩
    have h := h x3 ex3
    refine lv_iinc (v := x3) (lv' := [(2, .int x3), (1, .int v2), (0, .ref (xad g 272))]) hx hb dX11_deepest_38 hl (k := 2) rfl (by rw [ex3]; rfl) (by decide) rfl (fun ls hl => ?_)
    refine lv_goto (tgt := 4) hx hb dX11_deepest_41 (by decide) ?_
    exact hK4 hw (lv_sub hl [2, 1, 0] rfl) h
set_option maxHeartbeats 4000000 in
set_option maxRecDepth 100000 in
theorem s_X11_deepest_L4 {Qf : Int32 → xM → Prop} (C : x_C p s m args meth c g RX11 cX11_deepest 3 (some .int)) (hM : xpM g) : ∀ (nn : Nat) {v1 : Int32} {v2 : Int32} {u : xM} {H : Heap} {locs : List Loc} {ls : Array Slot} (hw : x_W g s.heap H locs u) (hl : lv_has ls 3 [(0, .ref (xad g 272)), (1, .int v1), (2, .int v2)]) (h : p_X11_deepest_L4 Qf nn v1 v2 u), W p l e (x_rm 3 63) s m args below meth c H locs 0 0 (MQ below (x_Qi g Qf) args s 0 0 (x_A g)) (F0 m 4 ls []) := by
  intro nn
  induction nn with
  | zero => intro v1 v2 u H locs ls hw hl h; exact h.elim
  | succ nn ih =>
    intro v1 v2 u H locs ls hw hl h
    unfold p_X11_deepest_L4 at h
    have hx := C.1
    have hb := C.2.1
    refine lv_iload_n hx hb dX11_deepest_4 rfl (lv_at hl 2 rfl) ?_
    refine lv_aload_n hx hb dX11_deepest_5 rfl (lv_at hl 0 rfl) ?_
    refine x_getr (ci := 11) C hw 0 (xoM_272 hM) rfl inlX11 (by decide) rfl rfl xrM_272_0 xw_219 dX11_deepest_6 ?_
    refine lv_iconst (v := 0) hx hb dX11_deepest_9 (by decide) ?_
    have c1 := h.1
    have h := h.2
    refine x_iald C hw (xoM_273 hM) c1 dX11_deepest_10 ?_
    refine lv_icmp_ge (tgt := 44) hx hb dX11_deepest_11 (by decide) (fun c2 => ?_) (fun c2 => ?_)
    · have h := h.1 c2
      refine lv_aload_n hx hb dX11_deepest_44 rfl (lv_at hl 0 rfl) ?_
      refine lv_iload_n hx hb dX11_deepest_45 rfl (lv_at hl 1 rfl) ?_
      refine x_calli hw (x_runV (ci := 11) C hw (m_X11_orNone l C.2.2.2.2.2.2.2.2.1 hM h) (xoM_272 hM) rfl (x_gV xw_1094 xw_1095 xw_1096 xw_5 xw_1097) rfl rfl qX11_orNone ⟨(Nat.le_of_ble_eq_true rfl), (Nat.le_of_ble_eq_true rfl)⟩ rfl hl.1 rfl (Nat.le_of_ble_eq_true rfl) dX11_deepest_46) (fun r4 u3 H locs hw h => ?_)
      exact x_iret C hw h dX11_deepest_49
    · have h := h.2 c2
      refine lv_aload_n hx hb dX11_deepest_14 rfl (lv_at hl 0 rfl) ?_
      refine lv_iload_n hx hb dX11_deepest_15 rfl (lv_at hl 2 rfl) ?_
      refine x_calli hw (x_runV (ci := 11) C hw (m_X11_depthOf l C.2.2.2.2.2.2.2.2.1 hM h) (xoM_272 hM) rfl (x_gV xw_903 xw_904 xw_905 xw_5 xw_906) rfl rfl qX11_depthOf ⟨(Nat.le_of_ble_eq_true rfl), (Nat.le_of_ble_eq_true rfl)⟩ rfl hl.1 rfl (Nat.le_of_ble_eq_true rfl) dX11_deepest_16) (fun r6 u5 H locs hw h => ?_)
      refine lv_iload_n hx hb dX11_deepest_19 rfl (lv_at hl 1 rfl) ?_
      refine lv_iconst (v := -1) hx hb dX11_deepest_20 (by decide) ?_
      refine lv_icmp_ne (tgt := 28) hx hb dX11_deepest_21 (by decide) (fun c7 => ?_) (fun c7 => ?_)
      · have h := h.1 c7
        refine lv_aload_n hx hb dX11_deepest_28 rfl (lv_at hl 0 rfl) ?_
        refine lv_iload_n hx hb dX11_deepest_29 rfl (lv_at hl 1 rfl) ?_
        refine x_calli hw (x_runV (ci := 11) C hw (m_X11_depthOf l C.2.2.2.2.2.2.2.2.1 hM h) (xoM_272 hM) rfl (x_gV xw_903 xw_904 xw_905 xw_5 xw_906) rfl rfl qX11_depthOf ⟨(Nat.le_of_ble_eq_true rfl), (Nat.le_of_ble_eq_true rfl)⟩ rfl hl.1 rfl (Nat.le_of_ble_eq_true rfl) dX11_deepest_30) (fun r9 u8 H locs hw h => ?_)
        exact s_X11_deepest_L33 C hM (fun hw hl h => ih hw hl h) hw (lv_sub hl [0, 1, 2] rfl) h
      · have h := h.2 c7
        refine lv_iconst (v := 0) hx hb dX11_deepest_24 (by decide) ?_
        refine lv_goto (tgt := 33) hx hb dX11_deepest_25 (by decide) ?_
        exact s_X11_deepest_L33 C hM (fun hw hl h => ih hw hl h) hw (lv_sub hl [0, 1, 2] rfl) h
set_option maxHeartbeats 4000000 in
set_option maxRecDepth 100000 in
theorem s_X11_deepest {Qf : Int32 → xM → Prop} (C : x_C p s m args meth c g RX11 cX11_deepest 3 (some .int)) (hM : xpM g) {u : xM} {H : Heap} {locs : List Loc} {ls : Array Slot} (hw : x_W g s.heap H locs u) (hl : lv_has ls 3 [(0, .ref (xad g 272))]) (h : p_X11_deepest  u Qf) : W p l e (x_rm 3 63) s m args below meth c H locs 0 0 (MQ below (x_Qi g Qf) args s 0 0 (x_A g)) (F0 m 0 ls []) := by
  unfold p_X11_deepest at h
  have hx := C.1
  have hb := C.2.1
  refine lv_iconst (v := -1) hx hb dX11_deepest_0 (by decide) ?_
  refine lv_istore_n (lv' := [(1, .int (-1)), (0, .ref (xad g 272))]) hx hb dX11_deepest_1 rfl hl (by decide) rfl (fun ls hl => ?_)
  refine lv_iconst (v := 0) hx hb dX11_deepest_2 (by decide) ?_
  refine lv_istore_n (lv' := [(2, .int 0), (1, .int (-1)), (0, .ref (xad g 272))]) hx hb dX11_deepest_3 rfl hl (by decide) rfl (fun ls hl => ?_)
  obtain ⟨n9, h⟩ := h
  exact s_X11_deepest_L4 C hM n9 hw (lv_sub hl [2, 1, 0] rfl) h
set_option maxHeartbeats 4000000 in
set_option maxRecDepth 100000 in
theorem m_X11_deepest (l : Launch) {g : xG} (hD : x_D g) (hM : xpM g) {u : xM} {Qf : Int32 → xM → Prop} (h : p_X11_deepest  u Qf) : Met l yX11_deepest (Cond.code yX11_deepest cX11_deepest 3 (some .int) :: wsL_law) (x_rm 3 63) (va_Pc [.ref (xad g 272)] (x_B g u)) (x_Qi g Qf) 0 0 (x_A g) := by
  refine Met.ofW (cc := cX11_deepest) (maxL := 3) (ret := (some .int)) (by decide) rfl ?_
  intro p e s m args below meth c s₁ B hml hv
  obtain ⟨rfl, hB⟩ := hv
  obtain ⟨C, hw⟩ := x_start B hml hD hB
  have hl := lv_entry [.ref (xad g 272)] (n := 3) (Nat.le_of_ble_eq_true rfl)
  rw [lg_entry_eq]
  exact s_X11_deepest C hM hw hl h
set_option maxHeartbeats 4000000 in
set_option maxRecDepth 100000 in
theorem s_X11_busiest_L39 {Qf : Int32 → xM → Prop} {K4 : Int32 → Int32 → xM → Prop} (C : x_C p s m args meth c g RX11 cX11_busiest 3 (some .int)) (hM : xpM g) (hK4 : ∀ {v1 : Int32} {v2 : Int32} {u : xM} {H : Heap} {locs : List Loc} {ls : Array Slot}, x_W g s.heap H locs u → lv_has ls 3 [(0, .ref (xad g 272)), (1, .int v1), (2, .int v2)] → K4 v1 v2 u → W p l e (x_rm 7 151) s m args below meth c H locs 0 0 (MQ below (x_Qi g Qf) args s 0 0 (x_A g)) (F0 m 4 ls [])) {v1 : Int32} {v2 : Int32} {w0 : Int32} {w1 : Int32} {u : xM} {H : Heap} {locs : List Loc} {ls : Array Slot} (hw : x_W g s.heap H locs u) (hl : lv_has ls 3 [(0, .ref (xad g 272)), (1, .int v1), (2, .int v2)]) (h : p_X11_busiest_L39 Qf K4 v1 v2 w0 w1 u) : W p l e (x_rm 7 151) s m args below meth c H locs 0 0 (MQ below (x_Qi g Qf) args s 0 0 (x_A g)) (F0 m 39 ls [.int w1, .int w0]) := by
  unfold p_X11_busiest_L39 at h
  have hx := C.1
  have hb := C.2.1
  refine lv_icmp_le (tgt := 44) hx hb dX11_busiest_39 (by decide) (fun c1 => ?_) (fun c1 => ?_)
  · have h := h.1 c1
    obtain ⟨x2, ex2⟩ : ∃ y : Int32, y = v2 + 1 := ⟨_, rfl⟩
    have h := h x2 ex2
    refine lv_iinc (v := x2) (lv' := [(2, .int x2), (0, .ref (xad g 272)), (1, .int v1)]) hx hb dX11_busiest_44 hl (k := 2) rfl (by rw [ex2]; rfl) (by decide) rfl (fun ls hl => ?_)
    refine lv_goto (tgt := 4) hx hb dX11_busiest_47 (by decide) ?_
    exact hK4 hw (lv_sub hl [1, 2, 0] rfl) h
  · have h := h.2 c1
    refine lv_iload_n hx hb dX11_busiest_42 rfl (lv_at hl 2 rfl) ?_
    refine lv_istore_n (lv' := [(1, .int v2), (0, .ref (xad g 272)), (2, .int v2)]) hx hb dX11_busiest_43 rfl hl (by decide) rfl (fun ls hl => ?_)
    obtain ⟨x3, ex3⟩ : ∃ y : Int32, y = v2 + 1 := ⟨_, rfl⟩
    have h := h x3 ex3
    refine lv_iinc (v := x3) (lv' := [(2, .int x3), (1, .int v2), (0, .ref (xad g 272))]) hx hb dX11_busiest_44 hl (k := 2) rfl (by rw [ex3]; rfl) (by decide) rfl (fun ls hl => ?_)
    refine lv_goto (tgt := 4) hx hb dX11_busiest_47 (by decide) ?_
    exact hK4 hw (lv_sub hl [2, 1, 0] rfl) h
set_option maxHeartbeats 4000000 in
set_option maxRecDepth 100000 in
theorem s_X11_busiest_L4 {Qf : Int32 → xM → Prop} (C : x_C p s m args meth c g RX11 cX11_busiest 3 (some .int)) (hM : xpM g) : ∀ (nn : Nat) {v1 : Int32} {v2 : Int32} {u : xM} {H : Heap} {locs : List Loc} {ls : Array Slot} (hw : x_W g s.heap H locs u) (hl : lv_has ls 3 [(0, .ref (xad g 272)), (1, .int v1), (2, .int v2)]) (h : p_X11_busiest_L4 Qf nn v1 v2 u), W p l e (x_rm 7 151) s m args below meth c H locs 0 0 (MQ below (x_Qi g Qf) args s 0 0 (x_A g)) (F0 m 4 ls []) := by
  intro nn
  induction nn with
  | zero => intro v1 v2 u H locs ls hw hl h; exact h.elim
  | succ nn ih =>
    intro v1 v2 u H locs ls hw hl h
    unfold p_X11_busiest_L4 at h
    have hx := C.1
    have hb := C.2.1
    refine lv_iload_n hx hb dX11_busiest_4 rfl (lv_at hl 2 rfl) ?_
    refine lv_aload_n hx hb dX11_busiest_5 rfl (lv_at hl 0 rfl) ?_
    refine x_getr (ci := 11) C hw 0 (xoM_272 hM) rfl inlX11 (by decide) rfl rfl xrM_272_0 xw_219 dX11_busiest_6 ?_
    refine lv_iconst (v := 1) hx hb dX11_busiest_9 (by decide) ?_
    have c1 := h.1
    have h := h.2
    refine x_iald C hw (xoM_273 hM) c1 dX11_busiest_10 ?_
    refine lv_icmp_ge (tgt := 50) hx hb dX11_busiest_11 (by decide) (fun c2 => ?_) (fun c2 => ?_)
    · have h := h.1 c2
      refine lv_aload_n hx hb dX11_busiest_50 rfl (lv_at hl 0 rfl) ?_
      refine lv_iload_n hx hb dX11_busiest_51 rfl (lv_at hl 1 rfl) ?_
      refine x_calli hw (x_runV (ci := 11) C hw (m_X11_orNone l C.2.2.2.2.2.2.2.2.1 hM h) (xoM_272 hM) rfl (x_gV xw_1094 xw_1095 xw_1096 xw_5 xw_1097) rfl rfl qX11_orNone ⟨(Nat.le_of_ble_eq_true rfl), (Nat.le_of_ble_eq_true rfl)⟩ rfl hl.1 rfl (Nat.le_of_ble_eq_true rfl) dX11_busiest_52) (fun r4 u3 H locs hw h => ?_)
      exact x_iret C hw h dX11_busiest_55
    · have h := h.2 c2
      refine lv_aload_n hx hb dX11_busiest_14 rfl (lv_at hl 0 rfl) ?_
      refine lv_iload_n hx hb dX11_busiest_15 rfl (lv_at hl 2 rfl) ?_
      refine x_calli hw (x_runV (ci := 11) C hw (m_X11_flowOf l C.2.2.2.2.2.2.2.2.1 hM h) (xoM_272 hM) rfl (x_gV xw_1069 xw_1070 xw_1071 xw_5 xw_1072) rfl rfl qX11_flowOf ⟨(Nat.le_of_ble_eq_true rfl), (Nat.le_of_ble_eq_true rfl)⟩ rfl hl.1 rfl (Nat.le_of_ble_eq_true rfl) dX11_busiest_16) (fun r6 u5 H locs hw h => ?_)
      refine x_mabs C hl.1 xw_1057 (Nat.le_of_ble_eq_true rfl) (Nat.le_of_ble_eq_true rfl) dX11_busiest_19 ?_
      refine lv_topi (fun x7 ex7 => ?_)
      have h := h x7 ex7
      refine lv_iload_n hx hb dX11_busiest_22 rfl (lv_at hl 1 rfl) ?_
      refine lv_iconst (v := -1) hx hb dX11_busiest_23 (by decide) ?_
      refine lv_icmp_ne (tgt := 31) hx hb dX11_busiest_24 (by decide) (fun c8 => ?_) (fun c8 => ?_)
      · have h := h.1 c8
        refine lv_aload_n hx hb dX11_busiest_31 rfl (lv_at hl 0 rfl) ?_
        refine lv_iload_n hx hb dX11_busiest_32 rfl (lv_at hl 1 rfl) ?_
        refine x_calli hw (x_runV (ci := 11) C hw (m_X11_flowOf l C.2.2.2.2.2.2.2.2.1 hM h) (xoM_272 hM) rfl (x_gV xw_1069 xw_1070 xw_1071 xw_5 xw_1072) rfl rfl qX11_flowOf ⟨(Nat.le_of_ble_eq_true rfl), (Nat.le_of_ble_eq_true rfl)⟩ rfl hl.1 rfl (Nat.le_of_ble_eq_true rfl) dX11_busiest_33) (fun r10 u9 H locs hw h => ?_)
        refine x_mabs C hl.1 xw_1057 (Nat.le_of_ble_eq_true rfl) (Nat.le_of_ble_eq_true rfl) dX11_busiest_36 ?_
        refine lv_topi (fun x11 ex11 => ?_)
        have h := h x11 ex11
        exact s_X11_busiest_L39 C hM (fun hw hl h => ih hw hl h) hw (lv_sub hl [0, 1, 2] rfl) h
      · have h := h.2 c8
        refine lv_iconst (v := 0) hx hb dX11_busiest_27 (by decide) ?_
        refine lv_goto (tgt := 39) hx hb dX11_busiest_28 (by decide) ?_
        exact s_X11_busiest_L39 C hM (fun hw hl h => ih hw hl h) hw (lv_sub hl [0, 1, 2] rfl) h
set_option maxHeartbeats 4000000 in
set_option maxRecDepth 100000 in
theorem s_X11_busiest {Qf : Int32 → xM → Prop} (C : x_C p s m args meth c g RX11 cX11_busiest 3 (some .int)) (hM : xpM g) {u : xM} {H : Heap} {locs : List Loc} {ls : Array Slot} (hw : x_W g s.heap H locs u) (hl : lv_has ls 3 [(0, .ref (xad g 272))]) (h : p_X11_busiest  u Qf) : W p l e (x_rm 7 151) s m args below meth c H locs 0 0 (MQ below (x_Qi g Qf) args s 0 0 (x_A g)) (F0 m 0 ls []) := by
  unfold p_X11_busiest at h
  have hx := C.1
  have hb := C.2.1
  refine lv_iconst (v := -1) hx hb dX11_busiest_0 (by decide) ?_
  refine lv_istore_n (lv' := [(1, .int (-1)), (0, .ref (xad g 272))]) hx hb dX11_busiest_1 rfl hl (by decide) rfl (fun ls hl => ?_)
  refine lv_iconst (v := 0) hx hb dX11_busiest_2 (by decide) ?_
  refine lv_istore_n (lv' := [(2, .int 0), (1, .int (-1)), (0, .ref (xad g 272))]) hx hb dX11_busiest_3 rfl hl (by decide) rfl (fun ls hl => ?_)
  obtain ⟨n9, h⟩ := h
  exact s_X11_busiest_L4 C hM n9 hw (lv_sub hl [2, 1, 0] rfl) h
set_option maxHeartbeats 4000000 in
set_option maxRecDepth 100000 in
theorem m_X11_busiest (l : Launch) {g : xG} (hD : x_D g) (hM : xpM g) {u : xM} {Qf : Int32 → xM → Prop} (h : p_X11_busiest  u Qf) : Met l yX11_busiest (Cond.code yX11_busiest cX11_busiest 3 (some .int) :: wsL_law) (x_rm 7 151) (va_Pc [.ref (xad g 272)] (x_B g u)) (x_Qi g Qf) 0 0 (x_A g) := by
  refine Met.ofW (cc := cX11_busiest) (maxL := 3) (ret := (some .int)) (by decide) rfl ?_
  intro p e s m args below meth c s₁ B hml hv
  obtain ⟨rfl, hB⟩ := hv
  obtain ⟨C, hw⟩ := x_start B hml hD hB
  have hl := lv_entry [.ref (xad g 272)] (n := 3) (Nat.le_of_ble_eq_true rfl)
  rw [lg_entry_eq]
  exact s_X11_busiest C hM hw hl h
set_option maxHeartbeats 4000000 in
set_option maxRecDepth 100000 in
theorem s_X11_spare {Qf : Int32 → xM → Prop} {a1 : Int32} (C : x_C p s m args meth c g RX11 cX11_spare 2 (some .int)) (hM : xpM g) {u : xM} {H : Heap} {locs : List Loc} {ls : Array Slot} (hw : x_W g s.heap H locs u) (hl : lv_has ls 2 [(0, .ref (xad g 272)), (1, .int a1)]) (h : p_X11_spare a1 u Qf) : W p l e (x_rm 2 80) s m args below meth c H locs 0 0 (MQ below (x_Qi g Qf) args s 0 0 (x_A g)) (F0 m 0 ls []) := by
  unfold p_X11_spare at h
  have hx := C.1
  have hb := C.2.1
  refine lv_aload_n hx hb dX11_spare_0 rfl (lv_at hl 0 rfl) ?_
  refine lv_iload_n hx hb dX11_spare_1 rfl (lv_at hl 1 rfl) ?_
  refine x_callz hw (x_runV (ci := 11) C hw (m_X11_isRoom l C.2.2.2.2.2.2.2.2.1 hM h) (xoM_272 hM) rfl (x_gV xw_945 xw_946 xw_947 xw_5 xw_948) rfl rfl qX11_isRoom ⟨(Nat.le_of_ble_eq_true rfl), (Nat.le_of_ble_eq_true rfl)⟩ rfl hl.1 rfl (Nat.le_of_ble_eq_true rfl) dX11_spare_2) (fun r2 u1 H locs hw h => ?_)
  refine lv_if_eq (tgt := 43) hx hb dX11_spare_5 (by decide) (fun c3 => ?_) (fun c3 => ?_)
  · have h := h.1 (xb_f c3)
    refine lv_aload_n hx hb dX11_spare_43 rfl (lv_at hl 0 rfl) ?_
    refine lv_iconst (v := 1) hx hb dX11_spare_44 (by decide) ?_
    refine x_calli hw (x_runV (ci := 11) C hw (m_X11_refuse l C.2.2.2.2.2.2.2.2.1 hM h) (xoM_272 hM) rfl (x_gV xw_657 xw_658 xw_659 xw_5 xw_660) rfl rfl qX11_refuse ⟨(Nat.le_of_ble_eq_true rfl), (Nat.le_of_ble_eq_true rfl)⟩ rfl hl.1 rfl (Nat.le_of_ble_eq_true rfl) dX11_spare_45) (fun r5 u4 H locs hw h => ?_)
    exact x_iret C hw h dX11_spare_48
  · have h := h.2 (xb_t c3)
    refine lv_aload_n hx hb dX11_spare_8 rfl (lv_at hl 0 rfl) ?_
    refine lv_iconst (v := 0) hx hb dX11_spare_9 (by decide) ?_
    refine lv_aload_n hx hb dX11_spare_10 rfl (lv_at hl 0 rfl) ?_
    refine lv_iload_n hx hb dX11_spare_11 rfl (lv_at hl 1 rfl) ?_
    refine lv_iconst (v := 2) hx hb dX11_spare_12 (by decide) ?_
    refine x_calli hw (x_runV (ci := 11) C hw (m_X11_roomOf l C.2.2.2.2.2.2.2.2.1 hM h) (xoM_272 hM) rfl (x_gV xw_892 xw_893 xw_894 xw_5 xw_895) rfl rfl qX11_roomOf ⟨(Nat.le_of_ble_eq_true rfl), (Nat.le_of_ble_eq_true rfl)⟩ rfl hl.1 rfl (Nat.le_of_ble_eq_true rfl) dX11_spare_13) (fun r7 u6 H locs hw h => ?_)
    refine lv_iconst (v := 1) hx hb dX11_spare_16 (by decide) ?_
    refine lv_iadd hx hb dX11_spare_17 ?_
    refine lv_aload_n hx hb dX11_spare_18 rfl (lv_at hl 0 rfl) ?_
    refine lv_iload_n hx hb dX11_spare_19 rfl (lv_at hl 1 rfl) ?_
    refine lv_iconst (v := 1) hx hb dX11_spare_20 (by decide) ?_
    refine x_calli hw (x_runV (ci := 11) C hw (m_X11_roomOf l C.2.2.2.2.2.2.2.2.1 hM h) (xoM_272 hM) rfl (x_gV xw_892 xw_893 xw_894 xw_5 xw_895) rfl rfl qX11_roomOf ⟨(Nat.le_of_ble_eq_true rfl), (Nat.le_of_ble_eq_true rfl)⟩ rfl hl.1 rfl (Nat.le_of_ble_eq_true rfl) dX11_spare_21) (fun r9 u8 H locs hw h => ?_)
    refine lv_imul hx hb dX11_spare_24 ?_
    refine lv_iconst (v := 1) hx hb dX11_spare_25 (by decide) ?_
    refine lv_isub hx hb dX11_spare_26 ?_
    refine lv_aload_n hx hb dX11_spare_27 rfl (lv_at hl 0 rfl) ?_
    refine lv_iload_n hx hb dX11_spare_28 rfl (lv_at hl 1 rfl) ?_
    refine lv_iconst (v := 4) hx hb dX11_spare_29 (by decide) ?_
    refine x_calli hw (x_runV (ci := 11) C hw (m_X11_roomOf l C.2.2.2.2.2.2.2.2.1 hM h) (xoM_272 hM) rfl (x_gV xw_892 xw_893 xw_894 xw_5 xw_895) rfl rfl qX11_roomOf ⟨(Nat.le_of_ble_eq_true rfl), (Nat.le_of_ble_eq_true rfl)⟩ rfl hl.1 rfl (Nat.le_of_ble_eq_true rfl) dX11_spare_30) (fun r11 u10 H locs hw h => ?_)
    refine lv_isub hx hb dX11_spare_33 ?_
    refine x_mmax C hl.1 xw_1056 (Nat.le_of_ble_eq_true rfl) (Nat.le_of_ble_eq_true rfl) dX11_spare_34 ?_
    refine lv_topi (fun x12 ex12 => ?_)
    have h := h x12 ex12
    refine x_calli hw (x_runV (ci := 11) C hw (m_X11_gives l C.2.2.2.2.2.2.2.2.1 hM h) (xoM_272 hM) rfl (x_gV xw_731 xw_732 xw_733 xw_5 xw_734) rfl rfl qX11_gives ⟨(Nat.le_of_ble_eq_true rfl), (Nat.le_of_ble_eq_true rfl)⟩ rfl hl.1 rfl (Nat.le_of_ble_eq_true rfl) dX11_spare_37) (fun r14 u13 H locs hw h => ?_)
    refine lv_goto (tgt := 48) hx hb dX11_spare_40 (by decide) ?_
    exact x_iret C hw h dX11_spare_48
set_option maxHeartbeats 4000000 in
set_option maxRecDepth 100000 in
theorem m_X11_spare (l : Launch) {g : xG} (hD : x_D g) (hM : xpM g) {a1 : Int32} {u : xM} {Qf : Int32 → xM → Prop} (h : p_X11_spare a1 u Qf) : Met l yX11_spare (Cond.code yX11_spare cX11_spare 2 (some .int) :: wsL_law) (x_rm 2 80) (va_Pc [.ref (xad g 272), .int a1] (x_B g u)) (x_Qi g Qf) 0 0 (x_A g) := by
  refine Met.ofW (cc := cX11_spare) (maxL := 2) (ret := (some .int)) (by decide) rfl ?_
  intro p e s m args below meth c s₁ B hml hv
  obtain ⟨rfl, hB⟩ := hv
  obtain ⟨C, hw⟩ := x_start B hml hD hB
  have hl := lv_entry [.ref (xad g 272), .int a1] (n := 2) (Nat.le_of_ble_eq_true rfl)
  rw [lg_entry_eq]
  exact s_X11_spare C hM hw hl h
set_option maxHeartbeats 4000000 in
set_option maxRecDepth 100000 in
theorem s_X11_low_L4 {Qf : Int32 → xM → Prop} (C : x_C p s m args meth c g RX11 cX11_low 3 (some .int)) (hM : xpM g) : ∀ (nn : Nat) {v1 : Int32} {v2 : Int32} {u : xM} {H : Heap} {locs : List Loc} {ls : Array Slot} (hw : x_W g s.heap H locs u) (hl : lv_has ls 3 [(0, .ref (xad g 272)), (1, .int v1), (2, .int v2)]) (h : p_X11_low_L4 Qf nn v1 v2 u), W p l e (x_rm 1 21) s m args below meth c H locs 0 0 (MQ below (x_Qi g Qf) args s 0 0 (x_A g)) (F0 m 4 ls []) := by
  intro nn
  induction nn with
  | zero => intro v1 v2 u H locs ls hw hl h; exact h.elim
  | succ nn ih =>
    intro v1 v2 u H locs ls hw hl h
    unfold p_X11_low_L4 at h
    have hx := C.1
    have hb := C.2.1
    refine lv_iload_n hx hb dX11_low_4 rfl (lv_at hl 2 rfl) ?_
    refine lv_bipush (v := 12) hx hb dX11_low_5 (by decide) ?_
    refine lv_icmp_ge (tgt := 41) hx hb dX11_low_7 (by decide) (fun c1 => ?_) (fun c1 => ?_)
    · have h := h.1 c1
      refine lv_aload_n hx hb dX11_low_41 rfl (lv_at hl 0 rfl) ?_
      refine lv_iload_n hx hb dX11_low_42 rfl (lv_at hl 1 rfl) ?_
      refine x_calli hw (x_runV (ci := 11) C hw (m_X11_gives l C.2.2.2.2.2.2.2.2.1 hM h) (xoM_272 hM) rfl (x_gV xw_731 xw_732 xw_733 xw_5 xw_734) rfl rfl qX11_gives ⟨(Nat.le_of_ble_eq_true rfl), (Nat.le_of_ble_eq_true rfl)⟩ rfl hl.1 rfl (Nat.le_of_ble_eq_true rfl) dX11_low_43) (fun r3 u2 H locs hw h => ?_)
      exact x_iret C hw h dX11_low_46
    · have h := h.2 c1
      refine lv_aload_n hx hb dX11_low_10 rfl (lv_at hl 0 rfl) ?_
      refine x_getr (ci := 11) C hw 0 (xoM_272 hM) rfl inlX11 (by decide) rfl rfl xrM_272_0 xw_219 dX11_low_11 ?_
      refine lv_sipush (v := 135) hx hb dX11_low_14 (by decide) ?_
      refine lv_iload_n hx hb dX11_low_17 rfl (lv_at hl 2 rfl) ?_
      refine lv_iadd hx hb dX11_low_18 ?_
      have c4 := h.1
      have h := h.2
      refine x_iald C hw (xoM_273 hM) c4 dX11_low_19 ?_
      refine lv_aload_n hx hb dX11_low_20 rfl (lv_at hl 0 rfl) ?_
      refine x_getr (ci := 11) C hw 0 (xoM_272 hM) rfl inlX11 (by decide) rfl rfl xrM_272_0 xw_219 dX11_low_21 ?_
      refine lv_sipush (v := 135) hx hb dX11_low_24 (by decide) ?_
      refine lv_iload_n hx hb dX11_low_27 rfl (lv_at hl 1 rfl) ?_
      refine lv_iadd hx hb dX11_low_28 ?_
      have c5 := h.1
      have h := h.2
      refine x_iald C hw (xoM_273 hM) c5 dX11_low_29 ?_
      refine lv_icmp_ge (tgt := 35) hx hb dX11_low_30 (by decide) (fun c6 => ?_) (fun c6 => ?_)
      · have h := h.1 c6
        obtain ⟨x7, ex7⟩ : ∃ y : Int32, y = v2 + 1 := ⟨_, rfl⟩
        have h := h x7 ex7
        refine lv_iinc (v := x7) (lv' := [(2, .int x7), (0, .ref (xad g 272)), (1, .int v1)]) hx hb dX11_low_35 hl (k := 2) rfl (by rw [ex7]; rfl) (by decide) rfl (fun ls hl => ?_)
        refine lv_goto (tgt := 4) hx hb dX11_low_38 (by decide) ?_
        exact ih hw (lv_sub hl [1, 2, 0] rfl) h
      · have h := h.2 c6
        refine lv_iload_n hx hb dX11_low_33 rfl (lv_at hl 2 rfl) ?_
        refine lv_istore_n (lv' := [(1, .int v2), (0, .ref (xad g 272)), (2, .int v2)]) hx hb dX11_low_34 rfl hl (by decide) rfl (fun ls hl => ?_)
        obtain ⟨x8, ex8⟩ : ∃ y : Int32, y = v2 + 1 := ⟨_, rfl⟩
        have h := h x8 ex8
        refine lv_iinc (v := x8) (lv' := [(2, .int x8), (1, .int v2), (0, .ref (xad g 272))]) hx hb dX11_low_35 hl (k := 2) rfl (by rw [ex8]; rfl) (by decide) rfl (fun ls hl => ?_)
        refine lv_goto (tgt := 4) hx hb dX11_low_38 (by decide) ?_
        exact ih hw (lv_sub hl [2, 1, 0] rfl) h
set_option maxHeartbeats 4000000 in
set_option maxRecDepth 100000 in
theorem s_X11_low {Qf : Int32 → xM → Prop} (C : x_C p s m args meth c g RX11 cX11_low 3 (some .int)) (hM : xpM g) {u : xM} {H : Heap} {locs : List Loc} {ls : Array Slot} (hw : x_W g s.heap H locs u) (hl : lv_has ls 3 [(0, .ref (xad g 272))]) (h : p_X11_low  u Qf) : W p l e (x_rm 1 21) s m args below meth c H locs 0 0 (MQ below (x_Qi g Qf) args s 0 0 (x_A g)) (F0 m 0 ls []) := by
  unfold p_X11_low at h
  have hx := C.1
  have hb := C.2.1
  refine lv_iconst (v := 0) hx hb dX11_low_0 (by decide) ?_
  refine lv_istore_n (lv' := [(1, .int 0), (0, .ref (xad g 272))]) hx hb dX11_low_1 rfl hl (by decide) rfl (fun ls hl => ?_)
  refine lv_iconst (v := 1) hx hb dX11_low_2 (by decide) ?_
  refine lv_istore_n (lv' := [(2, .int 1), (1, .int 0), (0, .ref (xad g 272))]) hx hb dX11_low_3 rfl hl (by decide) rfl (fun ls hl => ?_)
  obtain ⟨n9, h⟩ := h
  exact s_X11_low_L4 C hM n9 hw (lv_sub hl [2, 1, 0] rfl) h
set_option maxHeartbeats 4000000 in
set_option maxRecDepth 100000 in
theorem m_X11_low (l : Launch) {g : xG} (hD : x_D g) (hM : xpM g) {u : xM} {Qf : Int32 → xM → Prop} (h : p_X11_low  u Qf) : Met l yX11_low (Cond.code yX11_low cX11_low 3 (some .int) :: wsL_law) (x_rm 1 21) (va_Pc [.ref (xad g 272)] (x_B g u)) (x_Qi g Qf) 0 0 (x_A g) := by
  refine Met.ofW (cc := cX11_low) (maxL := 3) (ret := (some .int)) (by decide) rfl ?_
  intro p e s m args below meth c s₁ B hml hv
  obtain ⟨rfl, hB⟩ := hv
  obtain ⟨C, hw⟩ := x_start B hml hD hB
  have hl := lv_entry [.ref (xad g 272)] (n := 3) (Nat.le_of_ble_eq_true rfl)
  rw [lg_entry_eq]
  exact s_X11_low C hM hw hl h
set_option maxHeartbeats 4000000 in
set_option maxRecDepth 100000 in
theorem s_X11_high_L18 {Qf : Int32 → xM → Prop} (C : x_C p s m args meth c g RX11 cX11_high 4 (some .int)) (hM : xpM g) : ∀ (nn : Nat) {v1 : Int32} {v2 : Int32} {v3 : Int32} {u : xM} {H : Heap} {locs : List Loc} {ls : Array Slot} (hw : x_W g s.heap H locs u) (hl : lv_has ls 4 [(0, .ref (xad g 272)), (1, .int v1), (2, .int v2), (3, .int v3)]) (h : p_X11_high_L18 Qf nn v1 v2 v3 u), W p l e (x_rm 2 42) s m args below meth c H locs 0 0 (MQ below (x_Qi g Qf) args s 0 0 (x_A g)) (F0 m 18 ls []) := by
  intro nn
  induction nn with
  | zero => intro v1 v2 v3 u H locs ls hw hl h; exact h.elim
  | succ nn ih =>
    intro v1 v2 v3 u H locs ls hw hl h
    unfold p_X11_high_L18 at h
    have hx := C.1
    have hb := C.2.1
    refine lv_iload_n hx hb dX11_high_18 rfl (lv_at hl 3 rfl) ?_
    refine lv_bipush (v := 12) hx hb dX11_high_19 (by decide) ?_
    refine lv_icmp_ge (tgt := 59) hx hb dX11_high_21 (by decide) (fun c1 => ?_) (fun c1 => ?_)
    · have h := h.1 c1
      refine lv_aload_n hx hb dX11_high_59 rfl (lv_at hl 0 rfl) ?_
      refine lv_iload_n hx hb dX11_high_60 rfl (lv_at hl 2 rfl) ?_
      refine x_calli hw (x_runV (ci := 11) C hw (m_X11_gives l C.2.2.2.2.2.2.2.2.1 hM h) (xoM_272 hM) rfl (x_gV xw_731 xw_732 xw_733 xw_5 xw_734) rfl rfl qX11_gives ⟨(Nat.le_of_ble_eq_true rfl), (Nat.le_of_ble_eq_true rfl)⟩ rfl hl.1 rfl (Nat.le_of_ble_eq_true rfl) dX11_high_61) (fun r3 u2 H locs hw h => ?_)
      exact x_iret C hw h dX11_high_64
    · have h := h.2 c1
      refine lv_iload_n hx hb dX11_high_24 rfl (lv_at hl 2 rfl) ?_
      refine lv_aload_n hx hb dX11_high_25 rfl (lv_at hl 0 rfl) ?_
      refine x_getr (ci := 11) C hw 0 (xoM_272 hM) rfl inlX11 (by decide) rfl rfl xrM_272_0 xw_219 dX11_high_26 ?_
      refine lv_sipush (v := 135) hx hb dX11_high_29 (by decide) ?_
      refine lv_iload_n hx hb dX11_high_32 rfl (lv_at hl 3 rfl) ?_
      refine lv_iadd hx hb dX11_high_33 ?_
      have c4 := h.1
      have h := h.2
      refine x_iald C hw (xoM_273 hM) c4 dX11_high_34 ?_
      refine lv_aload_n hx hb dX11_high_35 rfl (lv_at hl 0 rfl) ?_
      refine lv_iload_n hx hb dX11_high_36 rfl (lv_at hl 1 rfl) ?_
      refine lv_iconst (v := 2) hx hb dX11_high_37 (by decide) ?_
      refine x_calli hw (x_runV (ci := 11) C hw (m_X11_doorOf l C.2.2.2.2.2.2.2.2.1 hM h) (xoM_272 hM) rfl (x_gV xw_911 xw_912 xw_913 xw_5 xw_914) rfl rfl qX11_doorOf ⟨(Nat.le_of_ble_eq_true rfl), (Nat.le_of_ble_eq_true rfl)⟩ rfl hl.1 rfl (Nat.le_of_ble_eq_true rfl) dX11_high_38) (fun r6 u5 H locs hw h => ?_)
      refine lv_icmp_le (tgt := 50) hx hb dX11_high_41 (by decide) (fun c7 => ?_) (fun c7 => ?_)
      · have h := h.1 c7
        refine lv_iconst (v := 0) hx hb dX11_high_50 (by decide) ?_
        refine lv_ior hx hb dX11_high_51 ?_
        refine lv_topi (fun x8 ex8 => ?_)
        have h := h x8 ex8
        refine lv_istore_n (lv' := [(2, .int x8), (0, .ref (xad g 272)), (1, .int v1), (3, .int v3)]) hx hb dX11_high_52 rfl hl (by decide) rfl (fun ls hl => ?_)
        obtain ⟨x9, ex9⟩ : ∃ y : Int32, y = v3 + 1 := ⟨_, rfl⟩
        have h := h x9 ex9
        refine lv_iinc (v := x9) (lv' := [(3, .int x9), (2, .int x8), (0, .ref (xad g 272)), (1, .int v1)]) hx hb dX11_high_53 hl (k := 3) rfl (by rw [ex9]; rfl) (by decide) rfl (fun ls hl => ?_)
        refine lv_goto (tgt := 18) hx hb dX11_high_56 (by decide) ?_
        exact ih hw (lv_sub hl [2, 3, 1, 0] rfl) h
      · have h := h.2 c7
        refine lv_iconst (v := 1) hx hb dX11_high_44 (by decide) ?_
        refine lv_iload_n hx hb dX11_high_45 rfl (lv_at hl 3 rfl) ?_
        refine lv_ishl hx hb dX11_high_46 ?_
        refine lv_goto (tgt := 51) hx hb dX11_high_47 (by decide) ?_
        refine lv_ior hx hb dX11_high_51 ?_
        refine lv_topi (fun x10 ex10 => ?_)
        have h := h x10 ex10
        refine lv_istore_n (lv' := [(2, .int x10), (0, .ref (xad g 272)), (1, .int v1), (3, .int v3)]) hx hb dX11_high_52 rfl hl (by decide) rfl (fun ls hl => ?_)
        obtain ⟨x11, ex11⟩ : ∃ y : Int32, y = v3 + 1 := ⟨_, rfl⟩
        have h := h x11 ex11
        refine lv_iinc (v := x11) (lv' := [(3, .int x11), (2, .int x10), (0, .ref (xad g 272)), (1, .int v1)]) hx hb dX11_high_53 hl (k := 3) rfl (by rw [ex11]; rfl) (by decide) rfl (fun ls hl => ?_)
        refine lv_goto (tgt := 18) hx hb dX11_high_56 (by decide) ?_
        exact ih hw (lv_sub hl [2, 3, 1, 0] rfl) h
set_option maxHeartbeats 4000000 in
set_option maxRecDepth 100000 in
theorem s_X11_high {Qf : Int32 → xM → Prop} {a1 : Int32} (C : x_C p s m args meth c g RX11 cX11_high 4 (some .int)) (hM : xpM g) {u : xM} {H : Heap} {locs : List Loc} {ls : Array Slot} (hw : x_W g s.heap H locs u) (hl : lv_has ls 4 [(0, .ref (xad g 272)), (1, .int a1)]) (h : p_X11_high a1 u Qf) : W p l e (x_rm 2 42) s m args below meth c H locs 0 0 (MQ below (x_Qi g Qf) args s 0 0 (x_A g)) (F0 m 0 ls []) := by
  unfold p_X11_high at h
  have hx := C.1
  have hb := C.2.1
  refine lv_aload_n hx hb dX11_high_0 rfl (lv_at hl 0 rfl) ?_
  refine lv_iload_n hx hb dX11_high_1 rfl (lv_at hl 1 rfl) ?_
  refine x_callz hw (x_runV (ci := 11) C hw (m_X11_isDoor l C.2.2.2.2.2.2.2.2.1 hM h) (xoM_272 hM) rfl (x_gV xw_977 xw_978 xw_979 xw_5 xw_980) rfl rfl qX11_isDoor ⟨(Nat.le_of_ble_eq_true rfl), (Nat.le_of_ble_eq_true rfl)⟩ rfl hl.1 rfl (Nat.le_of_ble_eq_true rfl) dX11_high_2) (fun r2 u1 H locs hw h => ?_)
  refine lv_if_ne (tgt := 14) hx hb dX11_high_5 (by decide) (fun c3 => ?_) (fun c3 => ?_)
  · have h := h.1 (xb_t c3)
    refine lv_iconst (v := 0) hx hb dX11_high_14 (by decide) ?_
    refine lv_istore_n (lv' := [(2, .int 0), (0, .ref (xad g 272)), (1, .int a1)]) hx hb dX11_high_15 rfl hl (by decide) rfl (fun ls hl => ?_)
    refine lv_iconst (v := 0) hx hb dX11_high_16 (by decide) ?_
    refine lv_istore_n (lv' := [(3, .int 0), (2, .int 0), (0, .ref (xad g 272)), (1, .int a1)]) hx hb dX11_high_17 rfl hl (by decide) rfl (fun ls hl => ?_)
    obtain ⟨n9, h⟩ := h
    exact s_X11_high_L18 C hM n9 hw (lv_sub hl [2, 3, 1, 0] rfl) h
  · have h := h.2 (xb_f c3)
    refine lv_aload_n hx hb dX11_high_8 rfl (lv_at hl 0 rfl) ?_
    refine lv_iconst (v := 1) hx hb dX11_high_9 (by decide) ?_
    refine x_calli hw (x_runV (ci := 11) C hw (m_X11_refuse l C.2.2.2.2.2.2.2.2.1 hM h) (xoM_272 hM) rfl (x_gV xw_657 xw_658 xw_659 xw_5 xw_660) rfl rfl qX11_refuse ⟨(Nat.le_of_ble_eq_true rfl), (Nat.le_of_ble_eq_true rfl)⟩ rfl hl.1 rfl (Nat.le_of_ble_eq_true rfl) dX11_high_10) (fun r5 u4 H locs hw h => ?_)
    exact x_iret C hw h dX11_high_13
set_option maxHeartbeats 4000000 in
set_option maxRecDepth 100000 in
theorem m_X11_high (l : Launch) {g : xG} (hD : x_D g) (hM : xpM g) {a1 : Int32} {u : xM} {Qf : Int32 → xM → Prop} (h : p_X11_high a1 u Qf) : Met l yX11_high (Cond.code yX11_high cX11_high 4 (some .int) :: wsL_law) (x_rm 2 42) (va_Pc [.ref (xad g 272), .int a1] (x_B g u)) (x_Qi g Qf) 0 0 (x_A g) := by
  refine Met.ofW (cc := cX11_high) (maxL := 4) (ret := (some .int)) (by decide) rfl ?_
  intro p e s m args below meth c s₁ B hml hv
  obtain ⟨rfl, hB⟩ := hv
  obtain ⟨C, hw⟩ := x_start B hml hD hB
  have hl := lv_entry [.ref (xad g 272), .int a1] (n := 4) (Nat.le_of_ble_eq_true rfl)
  rw [lg_entry_eq]
  exact s_X11_high C hM hw hl h
set_option maxHeartbeats 4000000 in
set_option maxRecDepth 100000 in
theorem s_X11_linkedFrom_L130 {Qf : Int32 → xM → Prop} {K6 : Int32 → Bool → Int32 → Int32 → xM → Prop} {K16 : Int32 → Bool → Int32 → Int32 → Int32 → xM → Prop} (C : x_C p s m args meth c g RX11 cX11_linkedFrom 9 (some .int)) (hM : xpM g) (hK6 : ∀ {v2 : Int32} {v3 : Bool} {v4 : Int32} {v5 : Int32} {u : xM} {H : Heap} {locs : List Loc} {ls : Array Slot}, x_W g s.heap H locs u → lv_has ls 9 [(0, .ref (xad g 272)), (2, .int v2), (3, .int (xb v3)), (4, .int v4), (5, .int v5)] → K6 v2 v3 v4 v5 u → W p l e (x_rm 2 42) s m args below meth c H locs 0 0 (MQ below (x_Qi g Qf) args s 0 0 (x_A g)) (F0 m 6 ls [])) (hK16 : ∀ {v2 : Int32} {v3 : Bool} {v4 : Int32} {v5 : Int32} {v6 : Int32} {u : xM} {H : Heap} {locs : List Loc} {ls : Array Slot}, x_W g s.heap H locs u → lv_has ls 9 [(0, .ref (xad g 272)), (2, .int v2), (3, .int (xb v3)), (4, .int v4), (5, .int v5), (6, .int v6)] → K16 v2 v3 v4 v5 v6 u → W p l e (x_rm 2 42) s m args below meth c H locs 0 0 (MQ below (x_Qi g Qf) args s 0 0 (x_A g)) (F0 m 16 ls [])) {v2 : Int32} {v3 : Bool} {v4 : Int32} {v5 : Int32} {v6 : Int32} {v7 : Int32} {v8 : Int32} {u : xM} {H : Heap} {locs : List Loc} {ls : Array Slot} (hw : x_W g s.heap H locs u) (hl : lv_has ls 9 [(0, .ref (xad g 272)), (2, .int v2), (3, .int (xb v3)), (4, .int v4), (5, .int v5), (6, .int v6), (7, .int v7), (8, .int v8)]) (h : p_X11_linkedFrom_L130 Qf K6 K16 v2 v3 v4 v5 v6 v7 v8 u) : W p l e (x_rm 2 42) s m args below meth c H locs 0 0 (MQ below (x_Qi g Qf) args s 0 0 (x_A g)) (F0 m 130 ls []) := by
  unfold p_X11_linkedFrom_L130 at h
  have hx := C.1
  have hb := C.2.1
  refine lv_iload hx hb dX11_linkedFrom_130 (lv_at hl 3 rfl) ?_
  refine lv_iconst (v := 1) hx hb dX11_linkedFrom_132 (by decide) ?_
  refine lv_iload hx hb dX11_linkedFrom_133 (lv_at hl 6 rfl) ?_
  refine lv_ishl hx hb dX11_linkedFrom_135 ?_
  refine lv_iconst (v := 1) hx hb dX11_linkedFrom_136 (by decide) ?_
  refine lv_iload hx hb dX11_linkedFrom_137 (lv_at hl 7 rfl) ?_
  refine lv_ishl hx hb dX11_linkedFrom_139 ?_
  refine lv_ior hx hb dX11_linkedFrom_140 ?_
  refine lv_ior hx hb dX11_linkedFrom_141 ?_
  refine lv_topi (fun x1 ex1 => ?_)
  have h := h x1 ex1
  refine lv_istore (lv' := [(4, .int x1), (0, .ref (xad g 272)), (2, .int v2), (3, .int (xb v3)), (5, .int v5), (6, .int v6), (7, .int v7), (8, .int v8)]) hx hb dX11_linkedFrom_142 hl (by decide) rfl (fun ls hl => ?_)
  obtain ⟨x2, ex2⟩ : ∃ y : Int32, y = v6 + 1 := ⟨_, rfl⟩
  have h := h x2 ex2
  refine lv_iinc (v := x2) (lv' := [(6, .int x2), (4, .int x1), (0, .ref (xad g 272)), (2, .int v2), (3, .int (xb v3)), (5, .int v5), (7, .int v7), (8, .int v8)]) hx hb dX11_linkedFrom_144 hl (k := 5) rfl (by rw [ex2]; rfl) (by decide) rfl (fun ls hl => ?_)
  refine lv_goto (tgt := 16) hx hb dX11_linkedFrom_147 (by decide) ?_
  exact hK16 hw (lv_sub hl [2, 3, 4, 1, 5, 0] rfl) h
set_option maxHeartbeats 4000000 in
set_option maxRecDepth 100000 in
theorem s_X11_linkedFrom_L108 {Qf : Int32 → xM → Prop} {K6 : Int32 → Bool → Int32 → Int32 → xM → Prop} {K16 : Int32 → Bool → Int32 → Int32 → Int32 → xM → Prop} (C : x_C p s m args meth c g RX11 cX11_linkedFrom 9 (some .int)) (hM : xpM g) (hK6 : ∀ {v2 : Int32} {v3 : Bool} {v4 : Int32} {v5 : Int32} {u : xM} {H : Heap} {locs : List Loc} {ls : Array Slot}, x_W g s.heap H locs u → lv_has ls 9 [(0, .ref (xad g 272)), (2, .int v2), (3, .int (xb v3)), (4, .int v4), (5, .int v5)] → K6 v2 v3 v4 v5 u → W p l e (x_rm 2 42) s m args below meth c H locs 0 0 (MQ below (x_Qi g Qf) args s 0 0 (x_A g)) (F0 m 6 ls [])) (hK16 : ∀ {v2 : Int32} {v3 : Bool} {v4 : Int32} {v5 : Int32} {v6 : Int32} {u : xM} {H : Heap} {locs : List Loc} {ls : Array Slot}, x_W g s.heap H locs u → lv_has ls 9 [(0, .ref (xad g 272)), (2, .int v2), (3, .int (xb v3)), (4, .int v4), (5, .int v5), (6, .int v6)] → K16 v2 v3 v4 v5 v6 u → W p l e (x_rm 2 42) s m args below meth c H locs 0 0 (MQ below (x_Qi g Qf) args s 0 0 (x_A g)) (F0 m 16 ls [])) {v2 : Int32} {v3 : Bool} {v4 : Int32} {v5 : Int32} {v6 : Int32} {v7 : Int32} {v8 : Int32} {u : xM} {H : Heap} {locs : List Loc} {ls : Array Slot} (hw : x_W g s.heap H locs u) (hl : lv_has ls 9 [(0, .ref (xad g 272)), (2, .int v2), (3, .int (xb v3)), (4, .int v4), (5, .int v5), (6, .int v6), (7, .int v7), (8, .int v8)]) (h : p_X11_linkedFrom_L108 Qf K6 K16 v2 v3 v4 v5 v6 v7 v8 u) : W p l e (x_rm 2 42) s m args below meth c H locs 0 0 (MQ below (x_Qi g Qf) args s 0 0 (x_A g)) (F0 m 108 ls []) := by
  unfold p_X11_linkedFrom_L108 at h
  have hx := C.1
  have hb := C.2.1
  refine lv_aload_n hx hb dX11_linkedFrom_108 rfl (lv_at hl 0 rfl) ?_
  refine lv_iload hx hb dX11_linkedFrom_109 (lv_at hl 3 rfl) ?_
  refine lv_iload hx hb dX11_linkedFrom_111 (lv_at hl 6 rfl) ?_
  refine x_callz hw (x_runV (ci := 11) C hw (m_X11_isIn l C.2.2.2.2.2.2.2.2.1 hM h) (xoM_272 hM) rfl (x_gV xw_918 xw_919 xw_920 xw_5 xw_921) rfl rfl qX11_isIn ⟨(Nat.le_of_ble_eq_true rfl), (Nat.le_of_ble_eq_true rfl)⟩ rfl hl.1 rfl (Nat.le_of_ble_eq_true rfl) dX11_linkedFrom_113) (fun r2 u1 H locs hw h => ?_)
  refine lv_if_ne (tgt := 130) hx hb dX11_linkedFrom_116 (by decide) (fun c3 => ?_) (fun c3 => ?_)
  · have h := h.1 (xb_t c3)
    exact s_X11_linkedFrom_L130 C hM hK6 hK16 hw (lv_sub hl [0, 1, 2, 3, 4, 5, 6, 7] rfl) h
  · have h := h.2 (xb_f c3)
    refine lv_aload_n hx hb dX11_linkedFrom_119 rfl (lv_at hl 0 rfl) ?_
    refine lv_iload hx hb dX11_linkedFrom_120 (lv_at hl 3 rfl) ?_
    refine lv_iload hx hb dX11_linkedFrom_122 (lv_at hl 7 rfl) ?_
    refine x_callz hw (x_runV (ci := 11) C hw (m_X11_isIn l C.2.2.2.2.2.2.2.2.1 hM h) (xoM_272 hM) rfl (x_gV xw_918 xw_919 xw_920 xw_5 xw_921) rfl rfl qX11_isIn ⟨(Nat.le_of_ble_eq_true rfl), (Nat.le_of_ble_eq_true rfl)⟩ rfl hl.1 rfl (Nat.le_of_ble_eq_true rfl) dX11_linkedFrom_124) (fun r5 u4 H locs hw h => ?_)
    refine lv_if_eq (tgt := 144) hx hb dX11_linkedFrom_127 (by decide) (fun c6 => ?_) (fun c6 => ?_)
    · have h := h.1 (xb_f c6)
      obtain ⟨x7, ex7⟩ : ∃ y : Int32, y = v6 + 1 := ⟨_, rfl⟩
      have h := h x7 ex7
      refine lv_iinc (v := x7) (lv' := [(6, .int x7), (0, .ref (xad g 272)), (2, .int v2), (3, .int (xb v3)), (4, .int v4), (5, .int v5), (7, .int v7), (8, .int v8)]) hx hb dX11_linkedFrom_144 hl (k := 5) rfl (by rw [ex7]; rfl) (by decide) rfl (fun ls hl => ?_)
      refine lv_goto (tgt := 16) hx hb dX11_linkedFrom_147 (by decide) ?_
      exact hK16 hw (lv_sub hl [1, 2, 3, 4, 5, 0] rfl) h
    · have h := h.2 (xb_t c6)
      exact s_X11_linkedFrom_L130 C hM hK6 hK16 hw (lv_sub hl [0, 1, 2, 3, 4, 5, 6, 7] rfl) h
set_option maxHeartbeats 4000000 in
set_option maxRecDepth 100000 in
theorem s_X11_linkedFrom_L75 {Qf : Int32 → xM → Prop} {K6 : Int32 → Bool → Int32 → Int32 → xM → Prop} {K16 : Int32 → Bool → Int32 → Int32 → Int32 → xM → Prop} (C : x_C p s m args meth c g RX11 cX11_linkedFrom 9 (some .int)) (hM : xpM g) (hK6 : ∀ {v2 : Int32} {v3 : Bool} {v4 : Int32} {v5 : Int32} {u : xM} {H : Heap} {locs : List Loc} {ls : Array Slot}, x_W g s.heap H locs u → lv_has ls 9 [(0, .ref (xad g 272)), (2, .int v2), (3, .int (xb v3)), (4, .int v4), (5, .int v5)] → K6 v2 v3 v4 v5 u → W p l e (x_rm 2 42) s m args below meth c H locs 0 0 (MQ below (x_Qi g Qf) args s 0 0 (x_A g)) (F0 m 6 ls [])) (hK16 : ∀ {v2 : Int32} {v3 : Bool} {v4 : Int32} {v5 : Int32} {v6 : Int32} {u : xM} {H : Heap} {locs : List Loc} {ls : Array Slot}, x_W g s.heap H locs u → lv_has ls 9 [(0, .ref (xad g 272)), (2, .int v2), (3, .int (xb v3)), (4, .int v4), (5, .int v5), (6, .int v6)] → K16 v2 v3 v4 v5 v6 u → W p l e (x_rm 2 42) s m args below meth c H locs 0 0 (MQ below (x_Qi g Qf) args s 0 0 (x_A g)) (F0 m 16 ls [])) {v2 : Int32} {v3 : Bool} {v4 : Int32} {v5 : Int32} {v6 : Int32} {v7 : Int32} {w0 : Int32} {u : xM} {H : Heap} {locs : List Loc} {ls : Array Slot} (hw : x_W g s.heap H locs u) (hl : lv_has ls 9 [(0, .ref (xad g 272)), (2, .int v2), (3, .int (xb v3)), (4, .int v4), (5, .int v5), (6, .int v6), (7, .int v7)]) (h : p_X11_linkedFrom_L75 Qf K6 K16 v2 v3 v4 v5 v6 v7 w0 u) : W p l e (x_rm 2 42) s m args below meth c H locs 0 0 (MQ below (x_Qi g Qf) args s 0 0 (x_A g)) (F0 m 75 ls [.int w0]) := by
  unfold p_X11_linkedFrom_L75 at h
  have hx := C.1
  have hb := C.2.1
  refine lv_istore (lv' := [(8, .int w0), (0, .ref (xad g 272)), (2, .int v2), (3, .int (xb v3)), (4, .int v4), (5, .int v5), (6, .int v6), (7, .int v7)]) hx hb dX11_linkedFrom_75 hl (by decide) rfl (fun ls hl => ?_)
  refine lv_aload_n hx hb dX11_linkedFrom_77 rfl (lv_at hl 1 rfl) ?_
  refine lv_iload_n hx hb dX11_linkedFrom_78 rfl (lv_at hl 2 rfl) ?_
  refine lv_iload hx hb dX11_linkedFrom_79 (lv_at hl 6 rfl) ?_
  refine x_callz hw (x_runV (ci := 11) C hw (m_X11_isIn l C.2.2.2.2.2.2.2.2.1 hM h) (xoM_272 hM) rfl (x_gV xw_918 xw_919 xw_920 xw_5 xw_921) rfl rfl qX11_isIn ⟨(Nat.le_of_ble_eq_true rfl), (Nat.le_of_ble_eq_true rfl)⟩ rfl hl.1 rfl (Nat.le_of_ble_eq_true rfl) dX11_linkedFrom_81) (fun r2 u1 H locs hw h => ?_)
  refine lv_if_ne (tgt := 144) hx hb dX11_linkedFrom_84 (by decide) (fun c3 => ?_) (fun c3 => ?_)
  · have h := h.1 (xb_t c3)
    obtain ⟨x4, ex4⟩ : ∃ y : Int32, y = v6 + 1 := ⟨_, rfl⟩
    have h := h x4 ex4
    refine lv_iinc (v := x4) (lv' := [(6, .int x4), (8, .int w0), (0, .ref (xad g 272)), (2, .int v2), (3, .int (xb v3)), (4, .int v4), (5, .int v5), (7, .int v7)]) hx hb dX11_linkedFrom_144 hl (k := 6) rfl (by rw [ex4]; rfl) (by decide) rfl (fun ls hl => ?_)
    refine lv_goto (tgt := 16) hx hb dX11_linkedFrom_147 (by decide) ?_
    exact hK16 hw (lv_sub hl [2, 3, 4, 5, 6, 0] rfl) h
  · have h := h.2 (xb_f c3)
    refine lv_iload_n hx hb dX11_linkedFrom_87 rfl (lv_at hl 3 rfl) ?_
    refine lv_if_ne (tgt := 108) hx hb dX11_linkedFrom_88 (by decide) (fun c5 => ?_) (fun c5 => ?_)
    · have h := h.1 (xb_t c5)
      exact s_X11_linkedFrom_L108 C hM hK6 hK16 hw (lv_sub hl [1, 2, 3, 4, 5, 6, 7, 0] rfl) h
    · have h := h.2 (xb_f c5)
      refine lv_iload hx hb dX11_linkedFrom_91 (lv_at hl 7 rfl) ?_
      refine lv_bipush (v := 7) hx hb dX11_linkedFrom_93 (by decide) ?_
      refine lv_icmp_eq (tgt := 144) hx hb dX11_linkedFrom_95 (by decide) (fun c6 => ?_) (fun c6 => ?_)
      · have h := h.1 c6
        obtain ⟨x7, ex7⟩ : ∃ y : Int32, y = v6 + 1 := ⟨_, rfl⟩
        have h := h x7 ex7
        refine lv_iinc (v := x7) (lv' := [(6, .int x7), (8, .int w0), (0, .ref (xad g 272)), (2, .int v2), (3, .int (xb v3)), (4, .int v4), (5, .int v5), (7, .int v7)]) hx hb dX11_linkedFrom_144 hl (k := 6) rfl (by rw [ex7]; rfl) (by decide) rfl (fun ls hl => ?_)
        refine lv_goto (tgt := 16) hx hb dX11_linkedFrom_147 (by decide) ?_
        exact hK16 hw (lv_sub hl [2, 3, 4, 5, 6, 0] rfl) h
      · have h := h.2 c6
        refine lv_iload hx hb dX11_linkedFrom_98 (lv_at hl 0 rfl) ?_
        refine lv_bipush (v := 7) hx hb dX11_linkedFrom_100 (by decide) ?_
        refine lv_icmp_ne (tgt := 108) hx hb dX11_linkedFrom_102 (by decide) (fun c8 => ?_) (fun c8 => ?_)
        · have h := h.1 c8
          exact s_X11_linkedFrom_L108 C hM hK6 hK16 hw (lv_sub hl [1, 2, 3, 4, 5, 6, 7, 0] rfl) h
        · have h := h.2 c8
          refine lv_goto (tgt := 144) hx hb dX11_linkedFrom_105 (by decide) ?_
          obtain ⟨x9, ex9⟩ : ∃ y : Int32, y = v6 + 1 := ⟨_, rfl⟩
          have h := h x9 ex9
          refine lv_iinc (v := x9) (lv' := [(6, .int x9), (8, .int w0), (0, .ref (xad g 272)), (2, .int v2), (3, .int (xb v3)), (4, .int v4), (5, .int v5), (7, .int v7)]) hx hb dX11_linkedFrom_144 hl (k := 6) rfl (by rw [ex9]; rfl) (by decide) rfl (fun ls hl => ?_)
          refine lv_goto (tgt := 16) hx hb dX11_linkedFrom_147 (by decide) ?_
          exact hK16 hw (lv_sub hl [2, 3, 4, 5, 6, 0] rfl) h
set_option maxHeartbeats 4000000 in
set_option maxRecDepth 100000 in
theorem s_X11_linkedFrom_L50 {Qf : Int32 → xM → Prop} {K6 : Int32 → Bool → Int32 → Int32 → xM → Prop} {K16 : Int32 → Bool → Int32 → Int32 → Int32 → xM → Prop} (C : x_C p s m args meth c g RX11 cX11_linkedFrom 9 (some .int)) (hM : xpM g) (hK6 : ∀ {v2 : Int32} {v3 : Bool} {v4 : Int32} {v5 : Int32} {u : xM} {H : Heap} {locs : List Loc} {ls : Array Slot}, x_W g s.heap H locs u → lv_has ls 9 [(0, .ref (xad g 272)), (2, .int v2), (3, .int (xb v3)), (4, .int v4), (5, .int v5)] → K6 v2 v3 v4 v5 u → W p l e (x_rm 2 42) s m args below meth c H locs 0 0 (MQ below (x_Qi g Qf) args s 0 0 (x_A g)) (F0 m 6 ls [])) (hK16 : ∀ {v2 : Int32} {v3 : Bool} {v4 : Int32} {v5 : Int32} {v6 : Int32} {u : xM} {H : Heap} {locs : List Loc} {ls : Array Slot}, x_W g s.heap H locs u → lv_has ls 9 [(0, .ref (xad g 272)), (2, .int v2), (3, .int (xb v3)), (4, .int v4), (5, .int v5), (6, .int v6)] → K16 v2 v3 v4 v5 v6 u → W p l e (x_rm 2 42) s m args below meth c H locs 0 0 (MQ below (x_Qi g Qf) args s 0 0 (x_A g)) (F0 m 16 ls [])) {v2 : Int32} {v3 : Bool} {v4 : Int32} {v5 : Int32} {v6 : Int32} {w0 : Int32} {u : xM} {H : Heap} {locs : List Loc} {ls : Array Slot} (hw : x_W g s.heap H locs u) (hl : lv_has ls 9 [(0, .ref (xad g 272)), (2, .int v2), (3, .int (xb v3)), (4, .int v4), (5, .int v5), (6, .int v6)]) (h : p_X11_linkedFrom_L50 Qf K6 K16 v2 v3 v4 v5 v6 w0 u) : W p l e (x_rm 2 42) s m args below meth c H locs 0 0 (MQ below (x_Qi g Qf) args s 0 0 (x_A g)) (F0 m 50 ls [.int w0]) := by
  unfold p_X11_linkedFrom_L50 at h
  have hx := C.1
  have hb := C.2.1
  refine lv_istore (lv' := [(7, .int w0), (0, .ref (xad g 272)), (2, .int v2), (3, .int (xb v3)), (4, .int v4), (5, .int v5), (6, .int v6)]) hx hb dX11_linkedFrom_50 hl (by decide) rfl (fun ls hl => ?_)
  refine lv_aload_n hx hb dX11_linkedFrom_52 rfl (lv_at hl 1 rfl) ?_
  refine lv_iload hx hb dX11_linkedFrom_53 (lv_at hl 6 rfl) ?_
  refine lv_iconst (v := 1) hx hb dX11_linkedFrom_55 (by decide) ?_
  refine x_calli hw (x_runV (ci := 11) C hw (m_X11_doorOf l C.2.2.2.2.2.2.2.2.1 hM h) (xoM_272 hM) rfl (x_gV xw_911 xw_912 xw_913 xw_5 xw_914) rfl rfl qX11_doorOf ⟨(Nat.le_of_ble_eq_true rfl), (Nat.le_of_ble_eq_true rfl)⟩ rfl hl.1 rfl (Nat.le_of_ble_eq_true rfl) dX11_linkedFrom_56) (fun r2 u1 H locs hw h => ?_)
  refine lv_iconst (v := -1) hx hb dX11_linkedFrom_59 (by decide) ?_
  refine lv_icmp_ne (tgt := 68) hx hb dX11_linkedFrom_60 (by decide) (fun c3 => ?_) (fun c3 => ?_)
  · have h := h.1 c3
    refine lv_aload_n hx hb dX11_linkedFrom_68 rfl (lv_at hl 1 rfl) ?_
    refine lv_iload hx hb dX11_linkedFrom_69 (lv_at hl 6 rfl) ?_
    refine lv_iconst (v := 1) hx hb dX11_linkedFrom_71 (by decide) ?_
    refine x_calli hw (x_runV (ci := 11) C hw (m_X11_doorOf l C.2.2.2.2.2.2.2.2.1 hM h) (xoM_272 hM) rfl (x_gV xw_911 xw_912 xw_913 xw_5 xw_914) rfl rfl qX11_doorOf ⟨(Nat.le_of_ble_eq_true rfl), (Nat.le_of_ble_eq_true rfl)⟩ rfl hl.1 rfl (Nat.le_of_ble_eq_true rfl) dX11_linkedFrom_72) (fun r5 u4 H locs hw h => ?_)
    exact s_X11_linkedFrom_L75 C hM hK6 hK16 hw (lv_sub hl [1, 2, 3, 4, 5, 6, 0] rfl) h
  · have h := h.2 c3
    refine lv_bipush (v := 7) hx hb dX11_linkedFrom_63 (by decide) ?_
    refine lv_goto (tgt := 75) hx hb dX11_linkedFrom_65 (by decide) ?_
    exact s_X11_linkedFrom_L75 C hM hK6 hK16 hw (lv_sub hl [1, 2, 3, 4, 5, 6, 0] rfl) h
set_option maxHeartbeats 4000000 in
set_option maxRecDepth 100000 in
theorem s_X11_linkedFrom_L16 {Qf : Int32 → xM → Prop} {K6 : Int32 → Bool → Int32 → Int32 → xM → Prop} (C : x_C p s m args meth c g RX11 cX11_linkedFrom 9 (some .int)) (hM : xpM g) (hK6 : ∀ {v2 : Int32} {v3 : Bool} {v4 : Int32} {v5 : Int32} {u : xM} {H : Heap} {locs : List Loc} {ls : Array Slot}, x_W g s.heap H locs u → lv_has ls 9 [(0, .ref (xad g 272)), (2, .int v2), (3, .int (xb v3)), (4, .int v4), (5, .int v5)] → K6 v2 v3 v4 v5 u → W p l e (x_rm 2 42) s m args below meth c H locs 0 0 (MQ below (x_Qi g Qf) args s 0 0 (x_A g)) (F0 m 6 ls [])) : ∀ (nn : Nat) {v2 : Int32} {v3 : Bool} {v4 : Int32} {v5 : Int32} {v6 : Int32} {u : xM} {H : Heap} {locs : List Loc} {ls : Array Slot} (hw : x_W g s.heap H locs u) (hl : lv_has ls 9 [(0, .ref (xad g 272)), (2, .int v2), (3, .int (xb v3)), (4, .int v4), (5, .int v5), (6, .int v6)]) (h : p_X11_linkedFrom_L16 Qf K6 nn v2 v3 v4 v5 v6 u), W p l e (x_rm 2 42) s m args below meth c H locs 0 0 (MQ below (x_Qi g Qf) args s 0 0 (x_A g)) (F0 m 16 ls []) := by
  intro nn
  induction nn with
  | zero => intro v2 v3 v4 v5 v6 u H locs ls hw hl h; exact h.elim
  | succ nn ih =>
    intro v2 v3 v4 v5 v6 u H locs ls hw hl h
    unfold p_X11_linkedFrom_L16 at h
    have hx := C.1
    have hb := C.2.1
    refine lv_iload hx hb dX11_linkedFrom_16 (lv_at hl 5 rfl) ?_
    refine lv_aload_n hx hb dX11_linkedFrom_18 rfl (lv_at hl 0 rfl) ?_
    refine x_getr (ci := 11) C hw 0 (xoM_272 hM) rfl inlX11 (by decide) rfl rfl xrM_272_0 xw_219 dX11_linkedFrom_19 ?_
    refine lv_iconst (v := 1) hx hb dX11_linkedFrom_22 (by decide) ?_
    have c1 := h.1
    have h := h.2
    refine x_iald C hw (xoM_273 hM) c1 dX11_linkedFrom_23 ?_
    refine lv_icmp_ge (tgt := 150) hx hb dX11_linkedFrom_24 (by decide) (fun c2 => ?_) (fun c2 => ?_)
    · have h := h.1 c2
      obtain ⟨x3, ex3⟩ : ∃ y : Int32, y = v5 + 1 := ⟨_, rfl⟩
      have h := h x3 ex3
      refine lv_iinc (v := x3) (lv' := [(5, .int x3), (0, .ref (xad g 272)), (2, .int v2), (3, .int (xb v3)), (4, .int v4), (6, .int v6)]) hx hb dX11_linkedFrom_150 hl (k := 4) rfl (by rw [ex3]; rfl) (by decide) rfl (fun ls hl => ?_)
      refine lv_goto (tgt := 6) hx hb dX11_linkedFrom_153 (by decide) ?_
      exact hK6 hw (lv_sub hl [1, 2, 3, 4, 0] rfl) h
    · have h := h.2 c2
      refine lv_aload_n hx hb dX11_linkedFrom_27 rfl (lv_at hl 0 rfl) ?_
      refine lv_iload hx hb dX11_linkedFrom_28 (lv_at hl 5 rfl) ?_
      refine lv_iconst (v := 0) hx hb dX11_linkedFrom_30 (by decide) ?_
      refine x_calli hw (x_runV (ci := 11) C hw (m_X11_doorOf l C.2.2.2.2.2.2.2.2.1 hM h) (xoM_272 hM) rfl (x_gV xw_911 xw_912 xw_913 xw_5 xw_914) rfl rfl qX11_doorOf ⟨(Nat.le_of_ble_eq_true rfl), (Nat.le_of_ble_eq_true rfl)⟩ rfl hl.1 rfl (Nat.le_of_ble_eq_true rfl) dX11_linkedFrom_31) (fun r5 u4 H locs hw h => ?_)
      refine lv_iconst (v := -1) hx hb dX11_linkedFrom_34 (by decide) ?_
      refine lv_icmp_ne (tgt := 43) hx hb dX11_linkedFrom_35 (by decide) (fun c6 => ?_) (fun c6 => ?_)
      · have h := h.1 c6
        refine lv_aload_n hx hb dX11_linkedFrom_43 rfl (lv_at hl 0 rfl) ?_
        refine lv_iload hx hb dX11_linkedFrom_44 (lv_at hl 5 rfl) ?_
        refine lv_iconst (v := 0) hx hb dX11_linkedFrom_46 (by decide) ?_
        refine x_calli hw (x_runV (ci := 11) C hw (m_X11_doorOf l C.2.2.2.2.2.2.2.2.1 hM h) (xoM_272 hM) rfl (x_gV xw_911 xw_912 xw_913 xw_5 xw_914) rfl rfl qX11_doorOf ⟨(Nat.le_of_ble_eq_true rfl), (Nat.le_of_ble_eq_true rfl)⟩ rfl hl.1 rfl (Nat.le_of_ble_eq_true rfl) dX11_linkedFrom_47) (fun r8 u7 H locs hw h => ?_)
        exact s_X11_linkedFrom_L50 C hM hK6 (fun hw hl h => ih hw hl h) hw (lv_sub hl [0, 1, 2, 3, 4, 5] rfl) h
      · have h := h.2 c6
        refine lv_bipush (v := 7) hx hb dX11_linkedFrom_38 (by decide) ?_
        refine lv_goto (tgt := 50) hx hb dX11_linkedFrom_40 (by decide) ?_
        exact s_X11_linkedFrom_L50 C hM hK6 (fun hw hl h => ih hw hl h) hw (lv_sub hl [0, 1, 2, 3, 4, 5] rfl) h
set_option maxHeartbeats 4000000 in
set_option maxRecDepth 100000 in
theorem s_X11_linkedFrom_L6 {Qf : Int32 → xM → Prop} (C : x_C p s m args meth c g RX11 cX11_linkedFrom 9 (some .int)) (hM : xpM g) : ∀ (nn : Nat) {v2 : Int32} {v3 : Bool} {v4 : Int32} {v5 : Int32} {u : xM} {H : Heap} {locs : List Loc} {ls : Array Slot} (hw : x_W g s.heap H locs u) (hl : lv_has ls 9 [(0, .ref (xad g 272)), (2, .int v2), (3, .int (xb v3)), (4, .int v4), (5, .int v5)]) (h : p_X11_linkedFrom_L6 Qf nn v2 v3 v4 v5 u), W p l e (x_rm 2 42) s m args below meth c H locs 0 0 (MQ below (x_Qi g Qf) args s 0 0 (x_A g)) (F0 m 6 ls []) := by
  intro nn
  induction nn with
  | zero => intro v2 v3 v4 v5 u H locs ls hw hl h; exact h.elim
  | succ nn ih =>
    intro v2 v3 v4 v5 u H locs ls hw hl h
    unfold p_X11_linkedFrom_L6 at h
    have hx := C.1
    have hb := C.2.1
    refine lv_iload hx hb dX11_linkedFrom_6 (lv_at hl 4 rfl) ?_
    refine lv_bipush (v := 7) hx hb dX11_linkedFrom_8 (by decide) ?_
    refine lv_icmp_gt (tgt := 156) hx hb dX11_linkedFrom_10 (by decide) (fun c1 => ?_) (fun c1 => ?_)
    · have h := h.1 c1
      refine lv_iload hx hb dX11_linkedFrom_156 (lv_at hl 3 rfl) ?_
      exact x_iret C hw h dX11_linkedFrom_158
    · have h := h.2 c1
      refine lv_iconst (v := 0) hx hb dX11_linkedFrom_13 (by decide) ?_
      refine lv_istore (lv' := [(6, .int 0), (0, .ref (xad g 272)), (2, .int v2), (3, .int (xb v3)), (4, .int v4), (5, .int v5)]) hx hb dX11_linkedFrom_14 hl (by decide) rfl (fun ls hl => ?_)
      obtain ⟨n9, h⟩ := h
      exact s_X11_linkedFrom_L16 C hM (fun hw hl h => ih hw hl h) n9 hw (lv_sub hl [1, 2, 3, 4, 5, 0] rfl) h
set_option maxHeartbeats 4000000 in
set_option maxRecDepth 100000 in
theorem s_X11_linkedFrom {Qf : Int32 → xM → Prop} {a1 : Int32} {a2 : Int32} {a3 : Bool} (C : x_C p s m args meth c g RX11 cX11_linkedFrom 9 (some .int)) (hM : xpM g) {u : xM} {H : Heap} {locs : List Loc} {ls : Array Slot} (hw : x_W g s.heap H locs u) (hl : lv_has ls 9 [(0, .ref (xad g 272)), (1, .int a1), (2, .int a2), (3, .int (xb a3))]) (h : p_X11_linkedFrom a1 a2 a3 u Qf) : W p l e (x_rm 2 42) s m args below meth c H locs 0 0 (MQ below (x_Qi g Qf) args s 0 0 (x_A g)) (F0 m 0 ls []) := by
  unfold p_X11_linkedFrom at h
  have hx := C.1
  have hb := C.2.1
  refine lv_iload_n hx hb dX11_linkedFrom_0 rfl (lv_at hl 1 rfl) ?_
  refine lv_istore (lv' := [(4, .int a1), (0, .ref (xad g 272)), (1, .int a1), (2, .int a2), (3, .int (xb a3))]) hx hb dX11_linkedFrom_1 hl (by decide) rfl (fun ls hl => ?_)
  refine lv_iconst (v := 0) hx hb dX11_linkedFrom_3 (by decide) ?_
  refine lv_istore (lv' := [(5, .int 0), (4, .int a1), (0, .ref (xad g 272)), (1, .int a1), (2, .int a2), (3, .int (xb a3))]) hx hb dX11_linkedFrom_4 hl (by decide) rfl (fun ls hl => ?_)
  obtain ⟨n9, h⟩ := h
  exact s_X11_linkedFrom_L6 C hM n9 hw (lv_sub hl [2, 4, 5, 1, 0] rfl) h
set_option maxHeartbeats 4000000 in
set_option maxRecDepth 100000 in
theorem m_X11_linkedFrom (l : Launch) {g : xG} (hD : x_D g) (hM : xpM g) {a1 : Int32} {a2 : Int32} {a3 : Bool} {u : xM} {Qf : Int32 → xM → Prop} (h : p_X11_linkedFrom a1 a2 a3 u Qf) : Met l yX11_linkedFrom (Cond.code yX11_linkedFrom cX11_linkedFrom 9 (some .int) :: wsL_law) (x_rm 2 42) (va_Pc [.ref (xad g 272), .int a1, .int a2, .int (xb a3)] (x_B g u)) (x_Qi g Qf) 0 0 (x_A g) := by
  refine Met.ofW (cc := cX11_linkedFrom) (maxL := 9) (ret := (some .int)) (by decide) rfl ?_
  intro p e s m args below meth c s₁ B hml hv
  obtain ⟨rfl, hB⟩ := hv
  obtain ⟨C, hw⟩ := x_start B hml hD hB
  have hl := lv_entry [.ref (xad g 272), .int a1, .int a2, .int (xb a3)] (n := 9) (Nat.le_of_ble_eq_true rfl)
  rw [lg_entry_eq]
  exact s_X11_linkedFrom C hM hw hl h
set_option maxHeartbeats 4000000 in
set_option maxRecDepth 100000 in
theorem s_X11_linked {Qf : Int32 → xM → Prop} {a1 : Int32} (C : x_C p s m args meth c g RX11 cX11_linked 2 (some .int)) (hM : xpM g) {u : xM} {H : Heap} {locs : List Loc} {ls : Array Slot} (hw : x_W g s.heap H locs u) (hl : lv_has ls 2 [(0, .ref (xad g 272)), (1, .int a1)]) (h : p_X11_linked a1 u Qf) : W p l e (x_rm 4 86) s m args below meth c H locs 0 0 (MQ below (x_Qi g Qf) args s 0 0 (x_A g)) (F0 m 0 ls []) := by
  unfold p_X11_linked at h
  have hx := C.1
  have hb := C.2.1
  refine lv_aload_n hx hb dX11_linked_0 rfl (lv_at hl 0 rfl) ?_
  refine lv_iload_n hx hb dX11_linked_1 rfl (lv_at hl 1 rfl) ?_
  refine x_callz hw (x_runV (ci := 11) C hw (m_X11_isRoom l C.2.2.2.2.2.2.2.2.1 hM h) (xoM_272 hM) rfl (x_gV xw_945 xw_946 xw_947 xw_5 xw_948) rfl rfl qX11_isRoom ⟨(Nat.le_of_ble_eq_true rfl), (Nat.le_of_ble_eq_true rfl)⟩ rfl hl.1 rfl (Nat.le_of_ble_eq_true rfl) dX11_linked_2) (fun r2 u1 H locs hw h => ?_)
  refine lv_if_eq (tgt := 28) hx hb dX11_linked_5 (by decide) (fun c3 => ?_) (fun c3 => ?_)
  · have h := h.1 (xb_f c3)
    refine lv_aload_n hx hb dX11_linked_28 rfl (lv_at hl 0 rfl) ?_
    refine lv_iconst (v := 1) hx hb dX11_linked_29 (by decide) ?_
    refine x_calli hw (x_runV (ci := 11) C hw (m_X11_refuse l C.2.2.2.2.2.2.2.2.1 hM h) (xoM_272 hM) rfl (x_gV xw_657 xw_658 xw_659 xw_5 xw_660) rfl rfl qX11_refuse ⟨(Nat.le_of_ble_eq_true rfl), (Nat.le_of_ble_eq_true rfl)⟩ rfl hl.1 rfl (Nat.le_of_ble_eq_true rfl) dX11_linked_30) (fun r5 u4 H locs hw h => ?_)
    exact x_iret C hw h dX11_linked_33
  · have h := h.2 (xb_t c3)
    refine lv_aload_n hx hb dX11_linked_8 rfl (lv_at hl 0 rfl) ?_
    refine lv_aload_n hx hb dX11_linked_9 rfl (lv_at hl 0 rfl) ?_
    refine lv_iconst (v := 1) hx hb dX11_linked_10 (by decide) ?_
    refine lv_iload_n hx hb dX11_linked_11 rfl (lv_at hl 1 rfl) ?_
    refine lv_ishl hx hb dX11_linked_12 ?_
    refine lv_aload_n hx hb dX11_linked_13 rfl (lv_at hl 0 rfl) ?_
    refine lv_iconst (v := 4) hx hb dX11_linked_14 (by decide) ?_
    refine x_calli hw (x_runV (ci := 11) C hw (m_X11_setOf l C.2.2.2.2.2.2.2.2.1 hM h) (xoM_272 hM) rfl (x_gV xw_899 xw_900 xw_901 xw_5 xw_902) rfl rfl qX11_setOf ⟨(Nat.le_of_ble_eq_true rfl), (Nat.le_of_ble_eq_true rfl)⟩ rfl hl.1 rfl (Nat.le_of_ble_eq_true rfl) dX11_linked_15) (fun r7 u6 H locs hw h => ?_)
    refine lv_iconst (v := 0) hx hb dX11_linked_18 (by decide) ?_
    refine x_calli hw (x_runV (ci := 11) C hw (m_X11_linkedFrom l C.2.2.2.2.2.2.2.2.1 hM h) (xoM_272 hM) rfl (x_gV xw_1152 xw_1153 xw_1154 xw_5 xw_1155) rfl rfl qX11_linkedFrom ⟨(Nat.le_of_ble_eq_true rfl), (Nat.le_of_ble_eq_true rfl)⟩ rfl hl.1 rfl (Nat.le_of_ble_eq_true rfl) dX11_linked_19) (fun r9 u8 H locs hw h => ?_)
    refine x_calli hw (x_runV (ci := 11) C hw (m_X11_gives l C.2.2.2.2.2.2.2.2.1 hM h) (xoM_272 hM) rfl (x_gV xw_731 xw_732 xw_733 xw_5 xw_734) rfl rfl qX11_gives ⟨(Nat.le_of_ble_eq_true rfl), (Nat.le_of_ble_eq_true rfl)⟩ rfl hl.1 rfl (Nat.le_of_ble_eq_true rfl) dX11_linked_22) (fun r11 u10 H locs hw h => ?_)
    refine lv_goto (tgt := 33) hx hb dX11_linked_25 (by decide) ?_
    exact x_iret C hw h dX11_linked_33
set_option maxHeartbeats 4000000 in
set_option maxRecDepth 100000 in
theorem m_X11_linked (l : Launch) {g : xG} (hD : x_D g) (hM : xpM g) {a1 : Int32} {u : xM} {Qf : Int32 → xM → Prop} (h : p_X11_linked a1 u Qf) : Met l yX11_linked (Cond.code yX11_linked cX11_linked 2 (some .int) :: wsL_law) (x_rm 4 86) (va_Pc [.ref (xad g 272), .int a1] (x_B g u)) (x_Qi g Qf) 0 0 (x_A g) := by
  refine Met.ofW (cc := cX11_linked) (maxL := 2) (ret := (some .int)) (by decide) rfl ?_
  intro p e s m args below meth c s₁ B hml hv
  obtain ⟨rfl, hB⟩ := hv
  obtain ⟨C, hw⟩ := x_start B hml hD hB
  have hl := lv_entry [.ref (xad g 272), .int a1] (n := 2) (Nat.le_of_ble_eq_true rfl)
  rw [lg_entry_eq]
  exact s_X11_linked C hM hw hl h
set_option maxHeartbeats 4000000 in
set_option maxRecDepth 100000 in
theorem s_X11_pours {Qf : xM → Prop} {a1 : Int32} {a2 : Int32} (C : x_C p s m args meth c g RX11 cX11_pours 3 none) (hM : xpM g) {u : xM} {H : Heap} {locs : List Loc} {ls : Array Slot} (hw : x_W g s.heap H locs u) (hl : lv_has ls 3 [(0, .ref (xad g 272)), (1, .int a1), (2, .int a2)]) (h : p_X11_pours a1 a2 u Qf) : W p l e (x_rm 2 80) s m args below meth c H locs 0 0 (MQ below (x_Qv g Qf) args s 0 0 (x_A g)) (F0 m 0 ls []) := by
  unfold p_X11_pours at h
  have hx := C.1
  have hb := C.2.1
  refine lv_iload_n hx hb dX11_pours_0 rfl (lv_at hl 1 rfl) ?_
  refine lv_iconst (v := -1) hx hb dX11_pours_1 (by decide) ?_
  refine lv_icmp_eq (tgt := 30) hx hb dX11_pours_2 (by decide) (fun c1 => ?_) (fun c1 => ?_)
  · have h := h.1 c1
    exact x_vret C hw h dX11_pours_30
  · have h := h.2 c1
    refine lv_aload_n hx hb dX11_pours_5 rfl (lv_at hl 0 rfl) ?_
    refine x_getr (ci := 11) C hw 0 (xoM_272 hM) rfl inlX11 (by decide) rfl rfl xrM_272_0 xw_219 dX11_pours_6 ?_
    refine lv_iload_n hx hb dX11_pours_9 rfl (lv_at hl 1 rfl) ?_
    refine x_calli hw (x_runS C hw (m_X11_roomRow l C.2.2.2.2.2.2.2.2.1  h) (x_gS xw_896 xw_897 xw_5 xw_898) rfl rfl qX11_roomRow ⟨(Nat.le_of_ble_eq_true rfl), (Nat.le_of_ble_eq_true rfl)⟩ rfl hl.1 rfl (Nat.le_of_ble_eq_true rfl) dX11_pours_10) (fun r3 u2 H locs hw h => ?_)
    refine lv_iconst (v := 4) hx hb dX11_pours_13 (by decide) ?_
    refine lv_iadd hx hb dX11_pours_14 ?_
    refine lv_sipush (v := 9999) hx hb dX11_pours_15 (by decide) ?_
    refine lv_aload_n hx hb dX11_pours_18 rfl (lv_at hl 0 rfl) ?_
    refine lv_iload_n hx hb dX11_pours_19 rfl (lv_at hl 1 rfl) ?_
    refine lv_iconst (v := 4) hx hb dX11_pours_20 (by decide) ?_
    refine x_calli hw (x_runV (ci := 11) C hw (m_X11_roomOf l C.2.2.2.2.2.2.2.2.1 hM h) (xoM_272 hM) rfl (x_gV xw_892 xw_893 xw_894 xw_5 xw_895) rfl rfl qX11_roomOf ⟨(Nat.le_of_ble_eq_true rfl), (Nat.le_of_ble_eq_true rfl)⟩ rfl hl.1 rfl (Nat.le_of_ble_eq_true rfl) dX11_pours_21) (fun r5 u4 H locs hw h => ?_)
    refine lv_iload_n hx hb dX11_pours_24 rfl (lv_at hl 2 rfl) ?_
    refine lv_iadd hx hb dX11_pours_25 ?_
    refine x_mmin C hl.1 xw_646 (Nat.le_of_ble_eq_true rfl) (Nat.le_of_ble_eq_true rfl) dX11_pours_26 ?_
    refine lv_topi (fun x6 ex6 => ?_)
    have h := h x6 ex6
    have c7 := h.1
    have h := h.2
    obtain ⟨u8, eu8⟩ : ∃ q : xM, q = si u4 273 (r3 + (4 : Int32)).toNatClampNeg x6 := ⟨_, rfl⟩
    have h := h u8 eu8
    refine x_iast C hw (xoM_273 hM) c7 dX11_pours_29 eu8 (fun H locs hw => ?_)
    exact x_vret C hw h dX11_pours_30
set_option maxHeartbeats 4000000 in
set_option maxRecDepth 100000 in
theorem m_X11_pours (l : Launch) {g : xG} (hD : x_D g) (hM : xpM g) {a1 : Int32} {a2 : Int32} {u : xM} {Qf : xM → Prop} (h : p_X11_pours a1 a2 u Qf) : Met l yX11_pours (Cond.code yX11_pours cX11_pours 3 none :: wsL_law) (x_rm 2 80) (va_Pc [.ref (xad g 272), .int a1, .int a2] (x_B g u)) (x_Qv g Qf) 0 0 (x_A g) := by
  refine Met.ofW (cc := cX11_pours) (maxL := 3) (ret := none) (by decide) rfl ?_
  intro p e s m args below meth c s₁ B hml hv
  obtain ⟨rfl, hB⟩ := hv
  obtain ⟨C, hw⟩ := x_start B hml hD hB
  have hl := lv_entry [.ref (xad g 272), .int a1, .int a2] (n := 3) (Nat.le_of_ble_eq_true rfl)
  rw [lg_entry_eq]
  exact s_X11_pours C hM hw hl h
set_option maxHeartbeats 4000000 in
set_option maxRecDepth 100000 in
theorem s_X11_goesBy_L229 {Qf : Int32 → xM → Prop} {K152 : Int32 → Int32 → xM → Prop} (C : x_C p s m args meth c g RX11 cX11_goesBy 6 (some .int)) (hM : xpM g) (hK152 : ∀ {v1 : Int32} {v2 : Int32} {u : xM} {H : Heap} {locs : List Loc} {ls : Array Slot}, x_W g s.heap H locs u → lv_has ls 6 [(0, .ref (xad g 272)), (1, .int v1), (2, .int v2)] → K152 v1 v2 u → W p l e (x_rm 7 151) s m args below meth c H locs 0 0 (MQ below (x_Qi g Qf) args s 0 0 (x_A g)) (F0 m 152 ls [])) {v1 : Int32} {v2 : Int32} {v3 : Int32} {u : xM} {H : Heap} {locs : List Loc} {ls : Array Slot} (hw : x_W g s.heap H locs u) (hl : lv_has ls 6 [(0, .ref (xad g 272)), (1, .int v1), (2, .int v2), (3, .int v3)]) (h : p_X11_goesBy_L229 Qf K152 v1 v2 v3 u) : W p l e (x_rm 7 151) s m args below meth c H locs 0 0 (MQ below (x_Qi g Qf) args s 0 0 (x_A g)) (F0 m 229 ls []) := by
  unfold p_X11_goesBy_L229 at h
  have hx := C.1
  have hb := C.2.1
  refine lv_aload_n hx hb dX11_goesBy_229 rfl (lv_at hl 0 rfl) ?_
  refine x_getr (ci := 11) C hw 0 (xoM_272 hM) rfl inlX11 (by decide) rfl rfl xrM_272_0 xw_219 dX11_goesBy_230 ?_
  refine lv_iload_n hx hb dX11_goesBy_233 rfl (lv_at hl 3 rfl) ?_
  refine lv_bipush (v := 6) hx hb dX11_goesBy_234 (by decide) ?_
  refine lv_iadd hx hb dX11_goesBy_236 ?_
  refine lv_aload_n hx hb dX11_goesBy_237 rfl (lv_at hl 0 rfl) ?_
  refine x_getr (ci := 11) C hw 0 (xoM_272 hM) rfl inlX11 (by decide) rfl rfl xrM_272_0 xw_219 dX11_goesBy_238 ?_
  refine lv_iload_n hx hb dX11_goesBy_241 rfl (lv_at hl 3 rfl) ?_
  refine lv_bipush (v := 6) hx hb dX11_goesBy_242 (by decide) ?_
  refine lv_iadd hx hb dX11_goesBy_244 ?_
  have c1 := h.1
  have h := h.2
  refine x_iald C hw (xoM_273 hM) c1 dX11_goesBy_245 ?_
  refine lv_aload_n hx hb dX11_goesBy_246 rfl (lv_at hl 0 rfl) ?_
  refine lv_iload_n hx hb dX11_goesBy_247 rfl (lv_at hl 2 rfl) ?_
  refine x_calli hw (x_runV (ci := 11) C hw (m_X11_depthOf l C.2.2.2.2.2.2.2.2.1 hM h) (xoM_272 hM) rfl (x_gV xw_903 xw_904 xw_905 xw_5 xw_906) rfl rfl qX11_depthOf ⟨(Nat.le_of_ble_eq_true rfl), (Nat.le_of_ble_eq_true rfl)⟩ rfl hl.1 rfl (Nat.le_of_ble_eq_true rfl) dX11_goesBy_248) (fun r3 u2 H locs hw h => ?_)
  refine x_mmax C hl.1 xw_1056 (Nat.le_of_ble_eq_true rfl) (Nat.le_of_ble_eq_true rfl) dX11_goesBy_251 ?_
  refine lv_topi (fun x4 ex4 => ?_)
  have h := h x4 ex4
  have c5 := h.1
  have h := h.2
  obtain ⟨u6, eu6⟩ : ∃ q : xM, q = si u2 273 (v3 + (6 : Int32)).toNatClampNeg x4 := ⟨_, rfl⟩
  have h := h u6 eu6
  refine x_iast C hw (xoM_273 hM) c5 dX11_goesBy_254 eu6 (fun H locs hw => ?_)
  obtain ⟨x7, ex7⟩ : ∃ y : Int32, y = v2 + 1 := ⟨_, rfl⟩
  have h := h x7 ex7
  refine lv_iinc (v := x7) (lv' := [(2, .int x7), (0, .ref (xad g 272)), (1, .int v1), (3, .int v3)]) hx hb dX11_goesBy_255 hl (k := 2) rfl (by rw [ex7]; rfl) (by decide) rfl (fun ls hl => ?_)
  refine lv_goto (tgt := 152) hx hb dX11_goesBy_258 (by decide) ?_
  exact hK152 hw (lv_sub hl [1, 2, 0] rfl) h
set_option maxHeartbeats 4000000 in
set_option maxRecDepth 100000 in
theorem s_X11_goesBy_L204 {Qf : Int32 → xM → Prop} {K152 : Int32 → Int32 → xM → Prop} (C : x_C p s m args meth c g RX11 cX11_goesBy 6 (some .int)) (hM : xpM g) (hK152 : ∀ {v1 : Int32} {v2 : Int32} {u : xM} {H : Heap} {locs : List Loc} {ls : Array Slot}, x_W g s.heap H locs u → lv_has ls 6 [(0, .ref (xad g 272)), (1, .int v1), (2, .int v2)] → K152 v1 v2 u → W p l e (x_rm 7 151) s m args below meth c H locs 0 0 (MQ below (x_Qi g Qf) args s 0 0 (x_A g)) (F0 m 152 ls [])) {v1 : Int32} {v2 : Int32} {v3 : Int32} {u : xM} {H : Heap} {locs : List Loc} {ls : Array Slot} (hw : x_W g s.heap H locs u) (hl : lv_has ls 6 [(0, .ref (xad g 272)), (1, .int v1), (2, .int v2), (3, .int v3)]) (h : p_X11_goesBy_L204 Qf K152 v1 v2 v3 u) : W p l e (x_rm 7 151) s m args below meth c H locs 0 0 (MQ below (x_Qi g Qf) args s 0 0 (x_A g)) (F0 m 204 ls []) := by
  unfold p_X11_goesBy_L204 at h
  have hx := C.1
  have hb := C.2.1
  refine lv_aload_n hx hb dX11_goesBy_204 rfl (lv_at hl 0 rfl) ?_
  refine lv_iload_n hx hb dX11_goesBy_205 rfl (lv_at hl 2 rfl) ?_
  refine x_calli hw (x_runV (ci := 11) C hw (m_X11_depthOf l C.2.2.2.2.2.2.2.2.1 hM h) (xoM_272 hM) rfl (x_gV xw_903 xw_904 xw_905 xw_5 xw_906) rfl rfl qX11_depthOf ⟨(Nat.le_of_ble_eq_true rfl), (Nat.le_of_ble_eq_true rfl)⟩ rfl hl.1 rfl (Nat.le_of_ble_eq_true rfl) dX11_goesBy_206) (fun r2 u1 H locs hw h => ?_)
  refine lv_aload_n hx hb dX11_goesBy_209 rfl (lv_at hl 0 rfl) ?_
  refine x_getr (ci := 11) C hw 0 (xoM_272 hM) rfl inlX11 (by decide) rfl rfl xrM_272_0 xw_219 dX11_goesBy_210 ?_
  refine lv_iload_n hx hb dX11_goesBy_213 rfl (lv_at hl 3 rfl) ?_
  refine lv_iconst (v := 2) hx hb dX11_goesBy_214 (by decide) ?_
  refine lv_iadd hx hb dX11_goesBy_215 ?_
  have c3 := h.1
  have h := h.2
  refine x_iald C hw (xoM_273 hM) c3 dX11_goesBy_216 ?_
  refine lv_icmp_le (tgt := 229) hx hb dX11_goesBy_217 (by decide) (fun c4 => ?_) (fun c4 => ?_)
  · have h := h.1 c4
    exact s_X11_goesBy_L229 C hM hK152 hw (lv_sub hl [0, 1, 2, 3] rfl) h
  · have h := h.2 c4
    refine lv_aload_n hx hb dX11_goesBy_220 rfl (lv_at hl 0 rfl) ?_
    refine x_getr (ci := 11) C hw 0 (xoM_272 hM) rfl inlX11 (by decide) rfl rfl xrM_272_0 xw_219 dX11_goesBy_221 ?_
    refine lv_iload_n hx hb dX11_goesBy_224 rfl (lv_at hl 3 rfl) ?_
    refine lv_iconst (v := 5) hx hb dX11_goesBy_225 (by decide) ?_
    refine lv_iadd hx hb dX11_goesBy_226 ?_
    refine lv_iconst (v := 1) hx hb dX11_goesBy_227 (by decide) ?_
    have c5 := h.1
    have h := h.2
    obtain ⟨u6, eu6⟩ : ∃ q : xM, q = si u1 273 (v3 + (5 : Int32)).toNatClampNeg (1 : Int32) := ⟨_, rfl⟩
    have h := h u6 eu6
    refine x_iast C hw (xoM_273 hM) c5 dX11_goesBy_228 eu6 (fun H locs hw => ?_)
    exact s_X11_goesBy_L229 C hM hK152 hw (lv_sub hl [0, 1, 2, 3] rfl) h
set_option maxHeartbeats 4000000 in
set_option maxRecDepth 100000 in
theorem s_X11_goesBy_L152 {Qf : Int32 → xM → Prop} (C : x_C p s m args meth c g RX11 cX11_goesBy 6 (some .int)) (hM : xpM g) : ∀ (nn : Nat) {v1 : Int32} {v2 : Int32} {u : xM} {H : Heap} {locs : List Loc} {ls : Array Slot} (hw : x_W g s.heap H locs u) (hl : lv_has ls 6 [(0, .ref (xad g 272)), (1, .int v1), (2, .int v2)]) (h : p_X11_goesBy_L152 Qf nn v1 v2 u), W p l e (x_rm 7 151) s m args below meth c H locs 0 0 (MQ below (x_Qi g Qf) args s 0 0 (x_A g)) (F0 m 152 ls []) := by
  intro nn
  induction nn with
  | zero => intro v1 v2 u H locs ls hw hl h; exact h.elim
  | succ nn ih =>
    intro v1 v2 u H locs ls hw hl h
    unfold p_X11_goesBy_L152 at h
    have hx := C.1
    have hb := C.2.1
    refine lv_iload_n hx hb dX11_goesBy_152 rfl (lv_at hl 2 rfl) ?_
    refine lv_aload_n hx hb dX11_goesBy_153 rfl (lv_at hl 0 rfl) ?_
    refine x_getr (ci := 11) C hw 0 (xoM_272 hM) rfl inlX11 (by decide) rfl rfl xrM_272_0 xw_219 dX11_goesBy_154 ?_
    refine lv_iconst (v := 0) hx hb dX11_goesBy_157 (by decide) ?_
    have c1 := h.1
    have h := h.2
    refine x_iald C hw (xoM_273 hM) c1 dX11_goesBy_158 ?_
    refine lv_icmp_ge (tgt := 261) hx hb dX11_goesBy_159 (by decide) (fun c2 => ?_) (fun c2 => ?_)
    · have h := h.1 c2
      refine lv_aload_n hx hb dX11_goesBy_261 rfl (lv_at hl 0 rfl) ?_
      refine x_getr (ci := 11) C hw 0 (xoM_272 hM) rfl inlX11 (by decide) rfl rfl xrM_272_0 xw_219 dX11_goesBy_262 ?_
      refine lv_iconst (v := 3) hx hb dX11_goesBy_265 (by decide) ?_
      refine lv_dup2_11 hx hb dX11_goesBy_266 rfl rfl ?_
      have c3 := h.1
      have h := h.2
      refine x_iald C hw (xoM_273 hM) c3 dX11_goesBy_267 ?_
      refine lv_iconst (v := 1) hx hb dX11_goesBy_268 (by decide) ?_
      refine lv_iadd hx hb dX11_goesBy_269 ?_
      have c4 := h.1
      have h := h.2
      obtain ⟨u5, eu5⟩ : ∃ q : xM, q = si u 273 (3 : Int32).toNatClampNeg ((gi u 273 (3 : Int32).toNatClampNeg) + (1 : Int32)) := ⟨_, rfl⟩
      have h := h u5 eu5
      refine x_iast C hw (xoM_273 hM) c4 dX11_goesBy_270 eu5 (fun H locs hw => ?_)
      refine lv_aload_n hx hb dX11_goesBy_271 rfl (lv_at hl 0 rfl) ?_
      refine lv_iconst (v := 1) hx hb dX11_goesBy_272 (by decide) ?_
      refine x_calli hw (x_runV (ci := 11) C hw (m_X11_setOf l C.2.2.2.2.2.2.2.2.1 hM h) (xoM_272 hM) rfl (x_gV xw_899 xw_900 xw_901 xw_5 xw_902) rfl rfl qX11_setOf ⟨(Nat.le_of_ble_eq_true rfl), (Nat.le_of_ble_eq_true rfl)⟩ rfl hl.1 rfl (Nat.le_of_ble_eq_true rfl) dX11_goesBy_273) (fun r7 u6 H locs hw h => ?_)
      refine lv_iload_n hx hb dX11_goesBy_276 rfl (lv_at hl 1 rfl) ?_
      refine lv_iconst (v := -1) hx hb dX11_goesBy_277 (by decide) ?_
      refine lv_ixor hx hb dX11_goesBy_278 ?_
      refine lv_iand hx hb dX11_goesBy_279 ?_
      exact x_iret C hw h dX11_goesBy_280
    · have h := h.2 c2
      refine lv_iload_n hx hb dX11_goesBy_162 rfl (lv_at hl 2 rfl) ?_
      refine x_calli hw (x_runS C hw (m_X11_roomRow l C.2.2.2.2.2.2.2.2.1  h) (x_gS xw_896 xw_897 xw_5 xw_898) rfl rfl qX11_roomRow ⟨(Nat.le_of_ble_eq_true rfl), (Nat.le_of_ble_eq_true rfl)⟩ rfl hl.1 rfl (Nat.le_of_ble_eq_true rfl) dX11_goesBy_163) (fun r9 u8 H locs hw h => ?_)
      refine lv_istore_n (lv' := [(3, .int r9), (0, .ref (xad g 272)), (1, .int v1), (2, .int v2)]) hx hb dX11_goesBy_166 rfl hl (by decide) rfl (fun ls hl => ?_)
      refine lv_aload_n hx hb dX11_goesBy_167 rfl (lv_at hl 1 rfl) ?_
      refine x_geti (ci := 11) C hw 25 (xoM_272 hM) rfl inlX11 (by decide) rfl rfl xw_1208 dX11_goesBy_168 ?_
      refine lv_if_ne (tgt := 204) hx hb dX11_goesBy_171 (by decide) (fun c10 => ?_) (fun c10 => ?_)
      · have h := h.1 c10
        exact s_X11_goesBy_L204 C hM (fun hw hl h => ih hw hl h) hw (lv_sub hl [1, 2, 3, 0] rfl) h
      · have h := h.2 c10
        refine lv_aload_n hx hb dX11_goesBy_174 rfl (lv_at hl 1 rfl) ?_
        refine x_getr (ci := 11) C hw 0 (xoM_272 hM) rfl inlX11 (by decide) rfl rfl xrM_272_0 xw_219 dX11_goesBy_175 ?_
        refine lv_iload_n hx hb dX11_goesBy_178 rfl (lv_at hl 0 rfl) ?_
        refine lv_iconst (v := 4) hx hb dX11_goesBy_179 (by decide) ?_
        refine lv_iadd hx hb dX11_goesBy_180 ?_
        refine lv_dup2_11 hx hb dX11_goesBy_181 rfl rfl ?_
        have c11 := h.1
        have h := h.2
        refine x_iald C hw (xoM_273 hM) c11 dX11_goesBy_182 ?_
        refine lv_aload_n hx hb dX11_goesBy_183 rfl (lv_at hl 1 rfl) ?_
        refine x_getr (ci := 11) C hw 0 (xoM_272 hM) rfl inlX11 (by decide) rfl rfl xrM_272_0 xw_219 dX11_goesBy_184 ?_
        refine lv_iload_n hx hb dX11_goesBy_187 rfl (lv_at hl 0 rfl) ?_
        refine lv_iconst (v := 4) hx hb dX11_goesBy_188 (by decide) ?_
        refine lv_iadd hx hb dX11_goesBy_189 ?_
        have c12 := h.1
        have h := h.2
        refine x_iald C hw (xoM_273 hM) c12 dX11_goesBy_190 ?_
        refine lv_aload_n hx hb dX11_goesBy_191 rfl (lv_at hl 1 rfl) ?_
        refine x_getr (ci := 11) C hw 0 (xoM_272 hM) rfl inlX11 (by decide) rfl rfl xrM_272_0 xw_219 dX11_goesBy_192 ?_
        refine lv_iload_n hx hb dX11_goesBy_195 rfl (lv_at hl 0 rfl) ?_
        refine lv_iconst (v := 3) hx hb dX11_goesBy_196 (by decide) ?_
        refine lv_iadd hx hb dX11_goesBy_197 ?_
        have c13 := h.1
        have h := h.2
        refine x_iald C hw (xoM_273 hM) c13 dX11_goesBy_198 ?_
        refine x_mmin C hl.1 xw_646 (Nat.le_of_ble_eq_true rfl) (Nat.le_of_ble_eq_true rfl) dX11_goesBy_199 ?_
        refine lv_topi (fun x14 ex14 => ?_)
        have h := h x14 ex14
        refine lv_isub hx hb dX11_goesBy_202 ?_
        have c15 := h.1
        have h := h.2
        obtain ⟨u16, eu16⟩ : ∃ q : xM, q = si u8 273 (r9 + (4 : Int32)).toNatClampNeg ((gi u8 273 (r9 + (4 : Int32)).toNatClampNeg) - x14) := ⟨_, rfl⟩
        have h := h u16 eu16
        refine x_iast C hw (xoM_273 hM) c15 dX11_goesBy_203 eu16 (fun H locs hw => ?_)
        exact s_X11_goesBy_L204 C hM (fun hw hl h => ih hw hl h) hw (lv_sub hl [1, 2, 3, 0] rfl) h
set_option maxHeartbeats 4000000 in
set_option maxRecDepth 100000 in
theorem s_X11_goesBy_L117 {Qf : Int32 → xM → Prop} {K37 : Int32 → Int32 → xM → Prop} (C : x_C p s m args meth c g RX11 cX11_goesBy 6 (some .int)) (hM : xpM g) (hK37 : ∀ {v1 : Int32} {v2 : Int32} {u : xM} {H : Heap} {locs : List Loc} {ls : Array Slot}, x_W g s.heap H locs u → lv_has ls 6 [(0, .ref (xad g 272)), (1, .int v1), (2, .int v2)] → K37 v1 v2 u → W p l e (x_rm 7 151) s m args below meth c H locs 0 0 (MQ below (x_Qi g Qf) args s 0 0 (x_A g)) (F0 m 37 ls [])) {v1 : Int32} {v2 : Int32} {v3 : Int32} {v4 : Int32} {v5 : Int32} {u : xM} {H : Heap} {locs : List Loc} {ls : Array Slot} (hw : x_W g s.heap H locs u) (hl : lv_has ls 6 [(0, .ref (xad g 272)), (1, .int v1), (2, .int v2), (3, .int v3), (4, .int v4), (5, .int v5)]) (h : p_X11_goesBy_L117 Qf K37 v1 v2 v3 v4 v5 u) : W p l e (x_rm 7 151) s m args below meth c H locs 0 0 (MQ below (x_Qi g Qf) args s 0 0 (x_A g)) (F0 m 117 ls []) := by
  unfold p_X11_goesBy_L117 at h
  have hx := C.1
  have hb := C.2.1
  refine lv_aload_n hx hb dX11_goesBy_117 rfl (lv_at hl 0 rfl) ?_
  refine lv_iload_n hx hb dX11_goesBy_118 rfl (lv_at hl 3 rfl) ?_
  refine lv_iload hx hb dX11_goesBy_119 (lv_at hl 5 rfl) ?_
  refine lv_ineg hx hb dX11_goesBy_121 ?_
  refine x_callv hw (x_runV (ci := 11) C hw (m_X11_pours l C.2.2.2.2.2.2.2.2.1 hM h) (xoM_272 hM) rfl (x_gV xw_1209 xw_1210 xw_1211 xw_5 xw_1212) rfl rfl qX11_pours ⟨(Nat.le_of_ble_eq_true rfl), (Nat.le_of_ble_eq_true rfl)⟩ rfl hl.1 rfl (Nat.le_of_ble_eq_true rfl) dX11_goesBy_122) (fun u1 H locs hw h => ?_)
  refine lv_aload_n hx hb dX11_goesBy_125 rfl (lv_at hl 0 rfl) ?_
  refine lv_iload hx hb dX11_goesBy_126 (lv_at hl 4 rfl) ?_
  refine lv_iload hx hb dX11_goesBy_128 (lv_at hl 5 rfl) ?_
  refine x_callv hw (x_runV (ci := 11) C hw (m_X11_pours l C.2.2.2.2.2.2.2.2.1 hM h) (xoM_272 hM) rfl (x_gV xw_1209 xw_1210 xw_1211 xw_5 xw_1212) rfl rfl qX11_pours ⟨(Nat.le_of_ble_eq_true rfl), (Nat.le_of_ble_eq_true rfl)⟩ rfl hl.1 rfl (Nat.le_of_ble_eq_true rfl) dX11_goesBy_130) (fun u2 H locs hw h => ?_)
  refine lv_aload_n hx hb dX11_goesBy_133 rfl (lv_at hl 0 rfl) ?_
  refine x_getr (ci := 11) C hw 27 (xoM_272 hM) rfl inlX11 (by decide) rfl rfl xrM_272_27 xw_233 dX11_goesBy_134 ?_
  refine lv_iload_n hx hb dX11_goesBy_137 rfl (lv_at hl 2 rfl) ?_
  refine lv_dup2_11 hx hb dX11_goesBy_138 rfl rfl ?_
  have c3 := h.1
  have h := h.2
  refine x_iald C hw (xoM_282 hM) c3 dX11_goesBy_139 ?_
  refine lv_iload hx hb dX11_goesBy_140 (lv_at hl 5 rfl) ?_
  refine lv_iadd hx hb dX11_goesBy_142 ?_
  have c4 := h.1
  have h := h.2
  obtain ⟨u5, eu5⟩ : ∃ q : xM, q = si u2 282 v2.toNatClampNeg ((gi u2 282 v2.toNatClampNeg) + v5) := ⟨_, rfl⟩
  have h := h u5 eu5
  refine x_iast C hw (xoM_282 hM) c4 dX11_goesBy_143 eu5 (fun H locs hw => ?_)
  obtain ⟨x6, ex6⟩ : ∃ y : Int32, y = v2 + 1 := ⟨_, rfl⟩
  have h := h x6 ex6
  refine lv_iinc (v := x6) (lv' := [(2, .int x6), (0, .ref (xad g 272)), (1, .int v1), (3, .int v3), (4, .int v4), (5, .int v5)]) hx hb dX11_goesBy_144 hl (k := 2) rfl (by rw [ex6]; rfl) (by decide) rfl (fun ls hl => ?_)
  refine lv_goto (tgt := 37) hx hb dX11_goesBy_147 (by decide) ?_
  exact hK37 hw (lv_sub hl [1, 2, 0] rfl) h
set_option maxHeartbeats 4000000 in
set_option maxRecDepth 100000 in
theorem s_X11_goesBy_L83 {Qf : Int32 → xM → Prop} {K37 : Int32 → Int32 → xM → Prop} (C : x_C p s m args meth c g RX11 cX11_goesBy 6 (some .int)) (hM : xpM g) (hK37 : ∀ {v1 : Int32} {v2 : Int32} {u : xM} {H : Heap} {locs : List Loc} {ls : Array Slot}, x_W g s.heap H locs u → lv_has ls 6 [(0, .ref (xad g 272)), (1, .int v1), (2, .int v2)] → K37 v1 v2 u → W p l e (x_rm 7 151) s m args below meth c H locs 0 0 (MQ below (x_Qi g Qf) args s 0 0 (x_A g)) (F0 m 37 ls [])) {v1 : Int32} {v2 : Int32} {v3 : Int32} {w1 : Int32} {w2 : Bool} {u : xM} {H : Heap} {locs : List Loc} {ls : Array Slot} (hw : x_W g s.heap H locs u) (hl : lv_has ls 6 [(0, .ref (xad g 272)), (1, .int v1), (2, .int v2), (3, .int v3)]) (h : p_X11_goesBy_L83 Qf K37 v1 v2 v3 w1 w2 u) : W p l e (x_rm 7 151) s m args below meth c H locs 0 0 (MQ below (x_Qi g Qf) args s 0 0 (x_A g)) (F0 m 83 ls [.int (xb w2), .int w1, .ref (xad g 272)]) := by
  unfold p_X11_goesBy_L83 at h
  have hx := C.1
  have hb := C.2.1
  refine x_calli hw (x_runV (ci := 11) C hw (m_X11_doorOf l C.2.2.2.2.2.2.2.2.1 hM h) (xoM_272 hM) rfl (x_gV xw_911 xw_912 xw_913 xw_5 xw_914) rfl rfl qX11_doorOf ⟨(Nat.le_of_ble_eq_true rfl), (Nat.le_of_ble_eq_true rfl)⟩ rfl hl.1 rfl (Nat.le_of_ble_eq_true rfl) dX11_goesBy_83) (fun r2 u1 H locs hw h => ?_)
  refine lv_istore (lv' := [(4, .int r2), (0, .ref (xad g 272)), (1, .int v1), (2, .int v2), (3, .int v3)]) hx hb dX11_goesBy_86 hl (by decide) rfl (fun ls hl => ?_)
  refine lv_aload_n hx hb dX11_goesBy_88 rfl (lv_at hl 1 rfl) ?_
  refine x_getr (ci := 11) C hw 26 (xoM_272 hM) rfl inlX11 (by decide) rfl rfl xrM_272_26 xw_232 dX11_goesBy_89 ?_
  refine lv_iload_n hx hb dX11_goesBy_92 rfl (lv_at hl 3 rfl) ?_
  have c3 := h.1
  have h := h.2
  refine x_iald C hw (xoM_281 hM) c3 dX11_goesBy_93 ?_
  refine x_mabs C hl.1 xw_1057 (Nat.le_of_ble_eq_true rfl) (Nat.le_of_ble_eq_true rfl) dX11_goesBy_94 ?_
  refine lv_topi (fun x4 ex4 => ?_)
  have h := h x4 ex4
  refine lv_istore (lv' := [(5, .int x4), (4, .int r2), (0, .ref (xad g 272)), (1, .int v1), (2, .int v2), (3, .int v3)]) hx hb dX11_goesBy_97 hl (by decide) rfl (fun ls hl => ?_)
  refine lv_iload_n hx hb dX11_goesBy_99 rfl (lv_at hl 5 rfl) ?_
  refine lv_iconst (v := -1) hx hb dX11_goesBy_100 (by decide) ?_
  refine lv_icmp_eq (tgt := 117) hx hb dX11_goesBy_101 (by decide) (fun c5 => ?_) (fun c5 => ?_)
  · have h := h.1 c5
    exact s_X11_goesBy_L117 C hM hK37 hw (lv_sub hl [2, 3, 4, 5, 1, 0] rfl) h
  · have h := h.2 c5
    refine lv_iload hx hb dX11_goesBy_104 (lv_at hl 0 rfl) ?_
    refine lv_aload_n hx hb dX11_goesBy_106 rfl (lv_at hl 2 rfl) ?_
    refine lv_iload_n hx hb dX11_goesBy_107 rfl (lv_at hl 5 rfl) ?_
    refine lv_iconst (v := 4) hx hb dX11_goesBy_108 (by decide) ?_
    refine x_calli hw (x_runV (ci := 11) C hw (m_X11_roomOf l C.2.2.2.2.2.2.2.2.1 hM h) (xoM_272 hM) rfl (x_gV xw_892 xw_893 xw_894 xw_5 xw_895) rfl rfl qX11_roomOf ⟨(Nat.le_of_ble_eq_true rfl), (Nat.le_of_ble_eq_true rfl)⟩ rfl hl.1 rfl (Nat.le_of_ble_eq_true rfl) dX11_goesBy_109) (fun r7 u6 H locs hw h => ?_)
    refine x_mmin C hl.1 xw_646 (Nat.le_of_ble_eq_true rfl) (Nat.le_of_ble_eq_true rfl) dX11_goesBy_112 ?_
    refine lv_topi (fun x8 ex8 => ?_)
    have h := h x8 ex8
    refine lv_istore (lv' := [(5, .int x8), (4, .int r2), (0, .ref (xad g 272)), (1, .int v1), (2, .int v2), (3, .int v3)]) hx hb dX11_goesBy_115 hl (by decide) rfl (fun ls hl => ?_)
    exact s_X11_goesBy_L117 C hM hK37 hw (lv_sub hl [2, 3, 4, 5, 1, 0] rfl) h
set_option maxHeartbeats 4000000 in
set_option maxRecDepth 100000 in
theorem s_X11_goesBy_L63 {Qf : Int32 → xM → Prop} {K37 : Int32 → Int32 → xM → Prop} (C : x_C p s m args meth c g RX11 cX11_goesBy 6 (some .int)) (hM : xpM g) (hK37 : ∀ {v1 : Int32} {v2 : Int32} {u : xM} {H : Heap} {locs : List Loc} {ls : Array Slot}, x_W g s.heap H locs u → lv_has ls 6 [(0, .ref (xad g 272)), (1, .int v1), (2, .int v2)] → K37 v1 v2 u → W p l e (x_rm 7 151) s m args below meth c H locs 0 0 (MQ below (x_Qi g Qf) args s 0 0 (x_A g)) (F0 m 37 ls [])) {v1 : Int32} {v2 : Int32} {w1 : Int32} {w2 : Bool} {u : xM} {H : Heap} {locs : List Loc} {ls : Array Slot} (hw : x_W g s.heap H locs u) (hl : lv_has ls 6 [(0, .ref (xad g 272)), (1, .int v1), (2, .int v2)]) (h : p_X11_goesBy_L63 Qf K37 v1 v2 w1 w2 u) : W p l e (x_rm 7 151) s m args below meth c H locs 0 0 (MQ below (x_Qi g Qf) args s 0 0 (x_A g)) (F0 m 63 ls [.int (xb w2), .int w1, .ref (xad g 272)]) := by
  unfold p_X11_goesBy_L63 at h
  have hx := C.1
  have hb := C.2.1
  refine x_calli hw (x_runV (ci := 11) C hw (m_X11_doorOf l C.2.2.2.2.2.2.2.2.1 hM h) (xoM_272 hM) rfl (x_gV xw_911 xw_912 xw_913 xw_5 xw_914) rfl rfl qX11_doorOf ⟨(Nat.le_of_ble_eq_true rfl), (Nat.le_of_ble_eq_true rfl)⟩ rfl hl.1 rfl (Nat.le_of_ble_eq_true rfl) dX11_goesBy_63) (fun r2 u1 H locs hw h => ?_)
  refine lv_istore_n (lv' := [(3, .int r2), (0, .ref (xad g 272)), (1, .int v1), (2, .int v2)]) hx hb dX11_goesBy_66 rfl hl (by decide) rfl (fun ls hl => ?_)
  refine lv_aload_n hx hb dX11_goesBy_67 rfl (lv_at hl 1 rfl) ?_
  refine lv_iload_n hx hb dX11_goesBy_68 rfl (lv_at hl 3 rfl) ?_
  refine lv_aload_n hx hb dX11_goesBy_69 rfl (lv_at hl 1 rfl) ?_
  refine x_getr (ci := 11) C hw 26 (xoM_272 hM) rfl inlX11 (by decide) rfl rfl xrM_272_26 xw_232 dX11_goesBy_70 ?_
  refine lv_iload_n hx hb dX11_goesBy_73 rfl (lv_at hl 3 rfl) ?_
  have c3 := h.1
  have h := h.2
  refine x_iald C hw (xoM_281 hM) c3 dX11_goesBy_74 ?_
  refine lv_if_lt (tgt := 82) hx hb dX11_goesBy_75 (by decide) (fun c4 => ?_) (fun c4 => ?_)
  · have h := h.1 c4
    refine lv_iconst (v := 0) hx hb dX11_goesBy_82 (by decide) ?_
    exact s_X11_goesBy_L83 C hM hK37 hw (lv_sub hl [1, 2, 3, 0] rfl) h
  · have h := h.2 c4
    refine lv_iconst (v := 1) hx hb dX11_goesBy_78 (by decide) ?_
    refine lv_goto (tgt := 83) hx hb dX11_goesBy_79 (by decide) ?_
    exact s_X11_goesBy_L83 C hM hK37 hw (lv_sub hl [1, 2, 3, 0] rfl) h
set_option maxHeartbeats 4000000 in
set_option maxRecDepth 100000 in
theorem s_X11_goesBy_L37 {Qf : Int32 → xM → Prop} (C : x_C p s m args meth c g RX11 cX11_goesBy 6 (some .int)) (hM : xpM g) : ∀ (nn : Nat) {v1 : Int32} {v2 : Int32} {u : xM} {H : Heap} {locs : List Loc} {ls : Array Slot} (hw : x_W g s.heap H locs u) (hl : lv_has ls 6 [(0, .ref (xad g 272)), (1, .int v1), (2, .int v2)]) (h : p_X11_goesBy_L37 Qf nn v1 v2 u), W p l e (x_rm 7 151) s m args below meth c H locs 0 0 (MQ below (x_Qi g Qf) args s 0 0 (x_A g)) (F0 m 37 ls []) := by
  intro nn
  induction nn with
  | zero => intro v1 v2 u H locs ls hw hl h; exact h.elim
  | succ nn ih =>
    intro v1 v2 u H locs ls hw hl h
    unfold p_X11_goesBy_L37 at h
    have hx := C.1
    have hb := C.2.1
    refine lv_iload_n hx hb dX11_goesBy_37 rfl (lv_at hl 2 rfl) ?_
    refine lv_aload_n hx hb dX11_goesBy_38 rfl (lv_at hl 0 rfl) ?_
    refine x_getr (ci := 11) C hw 0 (xoM_272 hM) rfl inlX11 (by decide) rfl rfl xrM_272_0 xw_219 dX11_goesBy_39 ?_
    refine lv_iconst (v := 1) hx hb dX11_goesBy_42 (by decide) ?_
    have c1 := h.1
    have h := h.2
    refine x_iald C hw (xoM_273 hM) c1 dX11_goesBy_43 ?_
    refine lv_icmp_ge (tgt := 150) hx hb dX11_goesBy_44 (by decide) (fun c2 => ?_) (fun c2 => ?_)
    · have h := h.1 c2
      refine lv_iconst (v := 0) hx hb dX11_goesBy_150 (by decide) ?_
      refine lv_istore_n (lv' := [(2, .int 0), (0, .ref (xad g 272)), (1, .int v1)]) hx hb dX11_goesBy_151 rfl hl (by decide) rfl (fun ls hl => ?_)
      obtain ⟨n9, h⟩ := h
      exact s_X11_goesBy_L152 C hM n9 hw (lv_sub hl [1, 2, 0] rfl) h
    · have h := h.2 c2
      refine lv_aload_n hx hb dX11_goesBy_47 rfl (lv_at hl 0 rfl) ?_
      refine lv_iload_n hx hb dX11_goesBy_48 rfl (lv_at hl 2 rfl) ?_
      refine lv_aload_n hx hb dX11_goesBy_49 rfl (lv_at hl 0 rfl) ?_
      refine x_getr (ci := 11) C hw 26 (xoM_272 hM) rfl inlX11 (by decide) rfl rfl xrM_272_26 xw_232 dX11_goesBy_50 ?_
      refine lv_iload_n hx hb dX11_goesBy_53 rfl (lv_at hl 2 rfl) ?_
      have c3 := h.1
      have h := h.2
      refine x_iald C hw (xoM_281 hM) c3 dX11_goesBy_54 ?_
      refine lv_if_lt (tgt := 62) hx hb dX11_goesBy_55 (by decide) (fun c4 => ?_) (fun c4 => ?_)
      · have h := h.1 c4
        refine lv_iconst (v := 1) hx hb dX11_goesBy_62 (by decide) ?_
        exact s_X11_goesBy_L63 C hM (fun hw hl h => ih hw hl h) hw (lv_sub hl [0, 1, 2] rfl) h
      · have h := h.2 c4
        refine lv_iconst (v := 0) hx hb dX11_goesBy_58 (by decide) ?_
        refine lv_goto (tgt := 63) hx hb dX11_goesBy_59 (by decide) ?_
        exact s_X11_goesBy_L63 C hM (fun hw hl h => ih hw hl h) hw (lv_sub hl [0, 1, 2] rfl) h
set_option maxHeartbeats 4000000 in
set_option maxRecDepth 100000 in
theorem s_X11_goesBy_L8 {Qf : Int32 → xM → Prop} (C : x_C p s m args meth c g RX11 cX11_goesBy 6 (some .int)) (hM : xpM g) : ∀ (nn : Nat) {v1 : Int32} {v2 : Int32} {u : xM} {H : Heap} {locs : List Loc} {ls : Array Slot} (hw : x_W g s.heap H locs u) (hl : lv_has ls 6 [(0, .ref (xad g 272)), (1, .int v1), (2, .int v2)]) (h : p_X11_goesBy_L8 Qf nn v1 v2 u), W p l e (x_rm 7 151) s m args below meth c H locs 0 0 (MQ below (x_Qi g Qf) args s 0 0 (x_A g)) (F0 m 8 ls []) := by
  intro nn
  induction nn with
  | zero => intro v1 v2 u H locs ls hw hl h; exact h.elim
  | succ nn ih =>
    intro v1 v2 u H locs ls hw hl h
    unfold p_X11_goesBy_L8 at h
    have hx := C.1
    have hb := C.2.1
    refine lv_iload_n hx hb dX11_goesBy_8 rfl (lv_at hl 2 rfl) ?_
    refine lv_aload_n hx hb dX11_goesBy_9 rfl (lv_at hl 0 rfl) ?_
    refine x_getr (ci := 11) C hw 0 (xoM_272 hM) rfl inlX11 (by decide) rfl rfl xrM_272_0 xw_219 dX11_goesBy_10 ?_
    refine lv_iconst (v := 1) hx hb dX11_goesBy_13 (by decide) ?_
    have c1 := h.1
    have h := h.2
    refine x_iald C hw (xoM_273 hM) c1 dX11_goesBy_14 ?_
    refine lv_icmp_ge (tgt := 35) hx hb dX11_goesBy_15 (by decide) (fun c2 => ?_) (fun c2 => ?_)
    · have h := h.1 c2
      refine lv_iconst (v := 0) hx hb dX11_goesBy_35 (by decide) ?_
      refine lv_istore_n (lv' := [(2, .int 0), (0, .ref (xad g 272)), (1, .int v1)]) hx hb dX11_goesBy_36 rfl hl (by decide) rfl (fun ls hl => ?_)
      obtain ⟨n9, h⟩ := h
      exact s_X11_goesBy_L37 C hM n9 hw (lv_sub hl [1, 2, 0] rfl) h
    · have h := h.2 c2
      refine lv_aload_n hx hb dX11_goesBy_18 rfl (lv_at hl 0 rfl) ?_
      refine x_getr (ci := 11) C hw 26 (xoM_272 hM) rfl inlX11 (by decide) rfl rfl xrM_272_26 xw_232 dX11_goesBy_19 ?_
      refine lv_iload_n hx hb dX11_goesBy_22 rfl (lv_at hl 2 rfl) ?_
      refine lv_aload_n hx hb dX11_goesBy_23 rfl (lv_at hl 0 rfl) ?_
      refine lv_iload_n hx hb dX11_goesBy_24 rfl (lv_at hl 2 rfl) ?_
      refine x_calli hw (x_runV (ci := 11) C hw (m_X11_flowOf l C.2.2.2.2.2.2.2.2.1 hM h) (xoM_272 hM) rfl (x_gV xw_1069 xw_1070 xw_1071 xw_5 xw_1072) rfl rfl qX11_flowOf ⟨(Nat.le_of_ble_eq_true rfl), (Nat.le_of_ble_eq_true rfl)⟩ rfl hl.1 rfl (Nat.le_of_ble_eq_true rfl) dX11_goesBy_25) (fun r4 u3 H locs hw h => ?_)
      have c5 := h.1
      have h := h.2
      obtain ⟨u6, eu6⟩ : ∃ q : xM, q = si u3 281 v2.toNatClampNeg r4 := ⟨_, rfl⟩
      have h := h u6 eu6
      refine x_iast C hw (xoM_281 hM) c5 dX11_goesBy_28 eu6 (fun H locs hw => ?_)
      obtain ⟨x7, ex7⟩ : ∃ y : Int32, y = v2 + 1 := ⟨_, rfl⟩
      have h := h x7 ex7
      refine lv_iinc (v := x7) (lv' := [(2, .int x7), (0, .ref (xad g 272)), (1, .int v1)]) hx hb dX11_goesBy_29 hl (k := 2) rfl (by rw [ex7]; rfl) (by decide) rfl (fun ls hl => ?_)
      refine lv_goto (tgt := 8) hx hb dX11_goesBy_32 (by decide) ?_
      exact ih hw (lv_sub hl [1, 2, 0] rfl) h
set_option maxHeartbeats 4000000 in
set_option maxRecDepth 100000 in
theorem s_X11_goesBy {Qf : Int32 → xM → Prop} (C : x_C p s m args meth c g RX11 cX11_goesBy 6 (some .int)) (hM : xpM g) {u : xM} {H : Heap} {locs : List Loc} {ls : Array Slot} (hw : x_W g s.heap H locs u) (hl : lv_has ls 6 [(0, .ref (xad g 272))]) (h : p_X11_goesBy  u Qf) : W p l e (x_rm 7 151) s m args below meth c H locs 0 0 (MQ below (x_Qi g Qf) args s 0 0 (x_A g)) (F0 m 0 ls []) := by
  unfold p_X11_goesBy at h
  have hx := C.1
  have hb := C.2.1
  refine lv_aload_n hx hb dX11_goesBy_0 rfl (lv_at hl 0 rfl) ?_
  refine lv_iconst (v := 1) hx hb dX11_goesBy_1 (by decide) ?_
  refine x_calli hw (x_runV (ci := 11) C hw (m_X11_setOf l C.2.2.2.2.2.2.2.2.1 hM h) (xoM_272 hM) rfl (x_gV xw_899 xw_900 xw_901 xw_5 xw_902) rfl rfl qX11_setOf ⟨(Nat.le_of_ble_eq_true rfl), (Nat.le_of_ble_eq_true rfl)⟩ rfl hl.1 rfl (Nat.le_of_ble_eq_true rfl) dX11_goesBy_2) (fun r2 u1 H locs hw h => ?_)
  refine lv_istore_n (lv' := [(1, .int r2), (0, .ref (xad g 272))]) hx hb dX11_goesBy_5 rfl hl (by decide) rfl (fun ls hl => ?_)
  refine lv_iconst (v := 0) hx hb dX11_goesBy_6 (by decide) ?_
  refine lv_istore_n (lv' := [(2, .int 0), (1, .int r2), (0, .ref (xad g 272))]) hx hb dX11_goesBy_7 rfl hl (by decide) rfl (fun ls hl => ?_)
  obtain ⟨n9, h⟩ := h
  exact s_X11_goesBy_L8 C hM n9 hw (lv_sub hl [2, 1, 0] rfl) h
set_option maxHeartbeats 4000000 in
set_option maxRecDepth 100000 in
theorem m_X11_goesBy (l : Launch) {g : xG} (hD : x_D g) (hM : xpM g) {u : xM} {Qf : Int32 → xM → Prop} (h : p_X11_goesBy  u Qf) : Met l yX11_goesBy (Cond.code yX11_goesBy cX11_goesBy 6 (some .int) :: wsL_law) (x_rm 7 151) (va_Pc [.ref (xad g 272)] (x_B g u)) (x_Qi g Qf) 0 0 (x_A g) := by
  refine Met.ofW (cc := cX11_goesBy) (maxL := 6) (ret := (some .int)) (by decide) rfl ?_
  intro p e s m args below meth c s₁ B hml hv
  obtain ⟨rfl, hB⟩ := hv
  obtain ⟨C, hw⟩ := x_start B hml hD hB
  have hl := lv_entry [.ref (xad g 272)] (n := 6) (Nat.le_of_ble_eq_true rfl)
  rw [lg_entry_eq]
  exact s_X11_goesBy C hM hw hl h
set_option maxHeartbeats 4000000 in
set_option maxRecDepth 100000 in
theorem s_X11_goes_L4 {Qf : Int32 → xM → Prop} (C : x_C p s m args meth c g RX11 cX11_goes 4 (some .int)) (hM : xpM g) : ∀ (nn : Nat) {v1 : Int32} {v2 : Int32} {v3 : Int32} {u : xM} {H : Heap} {locs : List Loc} {ls : Array Slot} (hw : x_W g s.heap H locs u) (hl : lv_has ls 4 [(0, .ref (xad g 272)), (1, .int v1), (2, .int v2), (3, .int v3)]) (h : p_X11_goes_L4 Qf nn v1 v2 v3 u), W p l e (x_rm 8 176) s m args below meth c H locs 0 0 (MQ below (x_Qi g Qf) args s 0 0 (x_A g)) (F0 m 4 ls []) := by
  intro nn
  induction nn with
  | zero => intro v1 v2 v3 u H locs ls hw hl h; exact h.elim
  | succ nn ih =>
    intro v1 v2 v3 u H locs ls hw hl h
    unfold p_X11_goes_L4 at h
    have hx := C.1
    have hb := C.2.1
    refine lv_iload_n hx hb dX11_goes_4 rfl (lv_at hl 3 rfl) ?_
    refine lv_iload_n hx hb dX11_goes_5 rfl (lv_at hl 1 rfl) ?_
    refine lv_icmp_ge (tgt := 22) hx hb dX11_goes_6 (by decide) (fun c1 => ?_) (fun c1 => ?_)
    · have h := h.1 c1
      refine lv_iload_n hx hb dX11_goes_22 rfl (lv_at hl 2 rfl) ?_
      exact x_iret C hw h dX11_goes_23
    · have h := h.2 c1
      refine lv_iload_n hx hb dX11_goes_9 rfl (lv_at hl 2 rfl) ?_
      refine lv_aload_n hx hb dX11_goes_10 rfl (lv_at hl 0 rfl) ?_
      refine x_calli hw (x_runV (ci := 11) C hw (m_X11_goesBy l C.2.2.2.2.2.2.2.2.1 hM h) (xoM_272 hM) rfl (x_gV xw_1204 xw_1205 xw_1206 xw_5 xw_1207) rfl rfl qX11_goesBy ⟨(Nat.le_of_ble_eq_true rfl), (Nat.le_of_ble_eq_true rfl)⟩ rfl hl.1 rfl (Nat.le_of_ble_eq_true rfl) dX11_goes_11) (fun r3 u2 H locs hw h => ?_)
      refine lv_ior hx hb dX11_goes_14 ?_
      refine lv_topi (fun x4 ex4 => ?_)
      have h := h x4 ex4
      refine lv_istore_n (lv' := [(2, .int x4), (0, .ref (xad g 272)), (1, .int v1), (3, .int v3)]) hx hb dX11_goes_15 rfl hl (by decide) rfl (fun ls hl => ?_)
      obtain ⟨x5, ex5⟩ : ∃ y : Int32, y = v3 + 1 := ⟨_, rfl⟩
      have h := h x5 ex5
      refine lv_iinc (v := x5) (lv' := [(3, .int x5), (2, .int x4), (0, .ref (xad g 272)), (1, .int v1)]) hx hb dX11_goes_16 hl (k := 3) rfl (by rw [ex5]; rfl) (by decide) rfl (fun ls hl => ?_)
      refine lv_goto (tgt := 4) hx hb dX11_goes_19 (by decide) ?_
      exact ih hw (lv_sub hl [2, 3, 1, 0] rfl) h
set_option maxHeartbeats 4000000 in
set_option maxRecDepth 100000 in
theorem s_X11_goes {Qf : Int32 → xM → Prop} {a1 : Int32} (C : x_C p s m args meth c g RX11 cX11_goes 4 (some .int)) (hM : xpM g) {u : xM} {H : Heap} {locs : List Loc} {ls : Array Slot} (hw : x_W g s.heap H locs u) (hl : lv_has ls 4 [(0, .ref (xad g 272)), (1, .int a1)]) (h : p_X11_goes a1 u Qf) : W p l e (x_rm 8 176) s m args below meth c H locs 0 0 (MQ below (x_Qi g Qf) args s 0 0 (x_A g)) (F0 m 0 ls []) := by
  unfold p_X11_goes at h
  have hx := C.1
  have hb := C.2.1
  refine lv_iconst (v := 0) hx hb dX11_goes_0 (by decide) ?_
  refine lv_istore_n (lv' := [(2, .int 0), (0, .ref (xad g 272)), (1, .int a1)]) hx hb dX11_goes_1 rfl hl (by decide) rfl (fun ls hl => ?_)
  refine lv_iconst (v := 0) hx hb dX11_goes_2 (by decide) ?_
  refine lv_istore_n (lv' := [(3, .int 0), (2, .int 0), (0, .ref (xad g 272)), (1, .int a1)]) hx hb dX11_goes_3 rfl hl (by decide) rfl (fun ls hl => ?_)
  obtain ⟨n9, h⟩ := h
  exact s_X11_goes_L4 C hM n9 hw (lv_sub hl [2, 3, 1, 0] rfl) h
set_option maxHeartbeats 4000000 in
set_option maxRecDepth 100000 in
theorem m_X11_goes (l : Launch) {g : xG} (hD : x_D g) (hM : xpM g) {a1 : Int32} {u : xM} {Qf : Int32 → xM → Prop} (h : p_X11_goes a1 u Qf) : Met l yX11_goes (Cond.code yX11_goes cX11_goes 4 (some .int) :: wsL_law) (x_rm 8 176) (va_Pc [.ref (xad g 272), .int a1] (x_B g u)) (x_Qi g Qf) 0 0 (x_A g) := by
  refine Met.ofW (cc := cX11_goes) (maxL := 4) (ret := (some .int)) (by decide) rfl ?_
  intro p e s m args below meth c s₁ B hml hv
  obtain ⟨rfl, hB⟩ := hv
  obtain ⟨C, hw⟩ := x_start B hml hD hB
  have hl := lv_entry [.ref (xad g 272), .int a1] (n := 4) (Nat.le_of_ble_eq_true rfl)
  rw [lg_entry_eq]
  exact s_X11_goes C hM hw hl h
set_option maxHeartbeats 4000000 in
set_option maxRecDepth 100000 in
theorem s_X11_hour {Qf : Int32 → xM → Prop} {a1 : Int32} (C : x_C p s m args meth c g RX11 cX11_hour 2 (some .int)) (hM : xpM g) {u : xM} {H : Heap} {locs : List Loc} {ls : Array Slot} (hw : x_W g s.heap H locs u) (hl : lv_has ls 2 [(0, .ref (xad g 272)), (1, .int a1)]) (h : p_X11_hour a1 u Qf) : W p l e (x_rm 9 199) s m args below meth c H locs 0 0 (MQ below (x_Qi g Qf) args s 0 0 (x_A g)) (F0 m 0 ls []) := by
  unfold p_X11_hour at h
  have hx := C.1
  have hb := C.2.1
  refine lv_iload_n hx hb dX11_hour_0 rfl (lv_at hl 1 rfl) ?_
  refine lv_i2l hx hb dX11_hour_1 rfl ?_
  refine lv_lconst (v := 1) hx hb dX11_hour_2 (by decide) ?_
  refine lv_ldc2 (v := 99) hx hb C.2.2.2.1 (C.2.2.2.2.1 _ xw_1196) dX11_hour_3 ?_
  refine x_callz hw (x_runS C hw (m_X11_isFrom l C.2.2.2.2.2.2.2.2.1  h) (x_gS xw_1197 xw_1198 xw_5 xw_1199) rfl rfl qX11_isFrom ⟨(Nat.le_of_ble_eq_true rfl), (Nat.le_of_ble_eq_true rfl)⟩ rfl hl.1 rfl (Nat.le_of_ble_eq_true rfl) dX11_hour_6) (fun r2 u1 H locs hw h => ?_)
  refine lv_if_ne (tgt := 18) hx hb dX11_hour_9 (by decide) (fun c3 => ?_) (fun c3 => ?_)
  · have h := h.1 (xb_t c3)
    refine lv_aload_n hx hb dX11_hour_18 rfl (lv_at hl 0 rfl) ?_
    refine x_getr (ci := 11) C hw 0 (xoM_272 hM) rfl inlX11 (by decide) rfl rfl xrM_272_0 xw_219 dX11_hour_19 ?_
    refine lv_iconst (v := 3) hx hb dX11_hour_22 (by decide) ?_
    have c4 := h.1
    have h := h.2
    refine x_iald C hw (xoM_273 hM) c4 dX11_hour_23 ?_
    refine lv_iload_n hx hb dX11_hour_24 rfl (lv_at hl 1 rfl) ?_
    refine lv_iadd hx hb dX11_hour_25 ?_
    refine lv_sipush (v := 9999) hx hb dX11_hour_26 (by decide) ?_
    refine lv_icmp_le (tgt := 40) hx hb dX11_hour_29 (by decide) (fun c5 => ?_) (fun c5 => ?_)
    · have h := h.1 c5
      refine lv_aload_n hx hb dX11_hour_40 rfl (lv_at hl 0 rfl) ?_
      refine lv_aload_n hx hb dX11_hour_41 rfl (lv_at hl 0 rfl) ?_
      refine lv_iload_n hx hb dX11_hour_42 rfl (lv_at hl 1 rfl) ?_
      refine x_calli hw (x_runV (ci := 11) C hw (m_X11_goes l C.2.2.2.2.2.2.2.2.1 hM h) (xoM_272 hM) rfl (x_gV xw_1200 xw_1201 xw_1202 xw_5 xw_1203) rfl rfl qX11_goes ⟨(Nat.le_of_ble_eq_true rfl), (Nat.le_of_ble_eq_true rfl)⟩ rfl hl.1 rfl (Nat.le_of_ble_eq_true rfl) dX11_hour_43) (fun r7 u6 H locs hw h => ?_)
      refine x_calli hw (x_runV (ci := 11) C hw (m_X11_gives l C.2.2.2.2.2.2.2.2.1 hM h) (xoM_272 hM) rfl (x_gV xw_731 xw_732 xw_733 xw_5 xw_734) rfl rfl qX11_gives ⟨(Nat.le_of_ble_eq_true rfl), (Nat.le_of_ble_eq_true rfl)⟩ rfl hl.1 rfl (Nat.le_of_ble_eq_true rfl) dX11_hour_46) (fun r9 u8 H locs hw h => ?_)
      exact x_iret C hw h dX11_hour_49
    · have h := h.2 c5
      refine lv_aload_n hx hb dX11_hour_32 rfl (lv_at hl 0 rfl) ?_
      refine lv_iconst (v := 4) hx hb dX11_hour_33 (by decide) ?_
      refine x_calli hw (x_runV (ci := 11) C hw (m_X11_refuse l C.2.2.2.2.2.2.2.2.1 hM h) (xoM_272 hM) rfl (x_gV xw_657 xw_658 xw_659 xw_5 xw_660) rfl rfl qX11_refuse ⟨(Nat.le_of_ble_eq_true rfl), (Nat.le_of_ble_eq_true rfl)⟩ rfl hl.1 rfl (Nat.le_of_ble_eq_true rfl) dX11_hour_34) (fun r11 u10 H locs hw h => ?_)
      refine lv_goto (tgt := 49) hx hb dX11_hour_37 (by decide) ?_
      exact x_iret C hw h dX11_hour_49
  · have h := h.2 (xb_f c3)
    refine lv_aload_n hx hb dX11_hour_12 rfl (lv_at hl 0 rfl) ?_
    refine lv_iconst (v := 1) hx hb dX11_hour_13 (by decide) ?_
    refine x_calli hw (x_runV (ci := 11) C hw (m_X11_refuse l C.2.2.2.2.2.2.2.2.1 hM h) (xoM_272 hM) rfl (x_gV xw_657 xw_658 xw_659 xw_5 xw_660) rfl rfl qX11_refuse ⟨(Nat.le_of_ble_eq_true rfl), (Nat.le_of_ble_eq_true rfl)⟩ rfl hl.1 rfl (Nat.le_of_ble_eq_true rfl) dX11_hour_14) (fun r13 u12 H locs hw h => ?_)
    exact x_iret C hw h dX11_hour_17
set_option maxHeartbeats 4000000 in
set_option maxRecDepth 100000 in
theorem m_X11_hour (l : Launch) {g : xG} (hD : x_D g) (hM : xpM g) {a1 : Int32} {u : xM} {Qf : Int32 → xM → Prop} (h : p_X11_hour a1 u Qf) : Met l yX11_hour (Cond.code yX11_hour cX11_hour 2 (some .int) :: wsL_law) (x_rm 9 199) (va_Pc [.ref (xad g 272), .int a1] (x_B g u)) (x_Qi g Qf) 0 0 (x_A g) := by
  refine Met.ofW (cc := cX11_hour) (maxL := 2) (ret := (some .int)) (by decide) rfl ?_
  intro p e s m args below meth c s₁ B hml hv
  obtain ⟨rfl, hB⟩ := hv
  obtain ⟨C, hw⟩ := x_start B hml hD hB
  have hl := lv_entry [.ref (xad g 272), .int a1] (n := 2) (Nat.le_of_ble_eq_true rfl)
  rw [lg_entry_eq]
  exact s_X11_hour C hM hw hl h
set_option maxHeartbeats 4000000 in
set_option maxRecDepth 100000 in
theorem s_X11_turns_L15 {Qf : Bool → xM → Prop} (C : x_C p s m args meth c g RX11 cX11_turns 4 (some .boolean)) (hM : xpM g) {v1 : Int32} {v2 : Int32} {v3 : Bool} {w0 : Bool} {u : xM} {H : Heap} {locs : List Loc} {ls : Array Slot} (hw : x_W g s.heap H locs u) (hl : lv_has ls 4 [(0, .ref (xad g 272)), (1, .int v1), (2, .int v2), (3, .int (xb v3))]) (h : p_X11_turns_L15 Qf v1 v2 v3 w0 u) : W p l e (x_rm 2 42) s m args below meth c H locs 0 0 (MQ below (x_Qz g Qf) args s 0 0 (x_A g)) (F0 m 15 ls [.int (xb w0)]) := by
  unfold p_X11_turns_L15 at h
  have hx := C.1
  have hb := C.2.1
  refine lv_iload_n hx hb dX11_turns_15 rfl (lv_at hl 3 rfl) ?_
  refine lv_icmp_ne (tgt := 21) hx hb dX11_turns_16 (by decide) (fun c1 => ?_) (fun c1 => ?_)
  · have h := h.1 c1
    refine lv_aload_n hx hb dX11_turns_21 rfl (lv_at hl 0 rfl) ?_
    refine x_getr (ci := 11) C hw 0 (xoM_272 hM) rfl inlX11 (by decide) rfl rfl xrM_272_0 xw_219 dX11_turns_22 ?_
    refine lv_iload_n hx hb dX11_turns_25 rfl (lv_at hl 1 rfl) ?_
    refine x_calli hw (x_runS C hw (m_X11_doorRow l C.2.2.2.2.2.2.2.2.1  h) (x_gS xw_915 xw_916 xw_5 xw_917) rfl rfl qX11_doorRow ⟨(Nat.le_of_ble_eq_true rfl), (Nat.le_of_ble_eq_true rfl)⟩ rfl hl.1 rfl (Nat.le_of_ble_eq_true rfl) dX11_turns_26) (fun r3 u2 H locs hw h => ?_)
    refine lv_iload_n hx hb dX11_turns_29 rfl (lv_at hl 2 rfl) ?_
    refine lv_iadd hx hb dX11_turns_30 ?_
    refine lv_iload_n hx hb dX11_turns_31 rfl (lv_at hl 3 rfl) ?_
    refine lv_if_eq (tgt := 39) hx hb dX11_turns_32 (by decide) (fun c4 => ?_) (fun c4 => ?_)
    · have h := h.1 (xb_f c4)
      refine lv_iconst (v := 0) hx hb dX11_turns_39 (by decide) ?_
      have c5 := h.1
      have h := h.2
      obtain ⟨u6, eu6⟩ : ∃ q : xM, q = si u2 273 (r3 + v2).toNatClampNeg (0 : Int32) := ⟨_, rfl⟩
      have h := h u6 eu6
      refine x_iast C hw (xoM_273 hM) c5 dX11_turns_40 eu6 (fun H locs hw => ?_)
      refine lv_iconst (v := 1) hx hb dX11_turns_41 (by decide) ?_
      exact x_zret true C hw h rfl dX11_turns_42
    · have h := h.2 (xb_t c4)
      refine lv_iconst (v := 1) hx hb dX11_turns_35 (by decide) ?_
      refine lv_goto (tgt := 40) hx hb dX11_turns_36 (by decide) ?_
      have c7 := h.1
      have h := h.2
      obtain ⟨u8, eu8⟩ : ∃ q : xM, q = si u2 273 (r3 + v2).toNatClampNeg (1 : Int32) := ⟨_, rfl⟩
      have h := h u8 eu8
      refine x_iast C hw (xoM_273 hM) c7 dX11_turns_40 eu8 (fun H locs hw => ?_)
      refine lv_iconst (v := 1) hx hb dX11_turns_41 (by decide) ?_
      exact x_zret true C hw h rfl dX11_turns_42
  · have h := h.2 c1
    refine lv_iconst (v := 0) hx hb dX11_turns_19 (by decide) ?_
    exact x_zret false C hw h rfl dX11_turns_20
set_option maxHeartbeats 4000000 in
set_option maxRecDepth 100000 in
theorem s_X11_turns {Qf : Bool → xM → Prop} {a1 : Int32} {a2 : Int32} {a3 : Bool} (C : x_C p s m args meth c g RX11 cX11_turns 4 (some .boolean)) (hM : xpM g) {u : xM} {H : Heap} {locs : List Loc} {ls : Array Slot} (hw : x_W g s.heap H locs u) (hl : lv_has ls 4 [(0, .ref (xad g 272)), (1, .int a1), (2, .int a2), (3, .int (xb a3))]) (h : p_X11_turns a1 a2 a3 u Qf) : W p l e (x_rm 2 42) s m args below meth c H locs 0 0 (MQ below (x_Qz g Qf) args s 0 0 (x_A g)) (F0 m 0 ls []) := by
  unfold p_X11_turns at h
  have hx := C.1
  have hb := C.2.1
  refine lv_aload_n hx hb dX11_turns_0 rfl (lv_at hl 0 rfl) ?_
  refine lv_iload_n hx hb dX11_turns_1 rfl (lv_at hl 1 rfl) ?_
  refine lv_iload_n hx hb dX11_turns_2 rfl (lv_at hl 2 rfl) ?_
  refine x_calli hw (x_runV (ci := 11) C hw (m_X11_doorOf l C.2.2.2.2.2.2.2.2.1 hM h) (xoM_272 hM) rfl (x_gV xw_911 xw_912 xw_913 xw_5 xw_914) rfl rfl qX11_doorOf ⟨(Nat.le_of_ble_eq_true rfl), (Nat.le_of_ble_eq_true rfl)⟩ rfl hl.1 rfl (Nat.le_of_ble_eq_true rfl) dX11_turns_3) (fun r2 u1 H locs hw h => ?_)
  refine lv_iconst (v := 1) hx hb dX11_turns_6 (by decide) ?_
  refine lv_icmp_ne (tgt := 14) hx hb dX11_turns_7 (by decide) (fun c3 => ?_) (fun c3 => ?_)
  · have h := h.1 c3
    refine lv_iconst (v := 0) hx hb dX11_turns_14 (by decide) ?_
    exact s_X11_turns_L15 C hM hw (lv_sub hl [0, 1, 2, 3] rfl) h
  · have h := h.2 c3
    refine lv_iconst (v := 1) hx hb dX11_turns_10 (by decide) ?_
    refine lv_goto (tgt := 15) hx hb dX11_turns_11 (by decide) ?_
    exact s_X11_turns_L15 C hM hw (lv_sub hl [0, 1, 2, 3] rfl) h
set_option maxHeartbeats 4000000 in
set_option maxRecDepth 100000 in
theorem m_X11_turns (l : Launch) {g : xG} (hD : x_D g) (hM : xpM g) {a1 : Int32} {a2 : Int32} {a3 : Bool} {u : xM} {Qf : Bool → xM → Prop} (h : p_X11_turns a1 a2 a3 u Qf) : Met l yX11_turns (Cond.code yX11_turns cX11_turns 4 (some .boolean) :: wsL_law) (x_rm 2 42) (va_Pc [.ref (xad g 272), .int a1, .int a2, .int (xb a3)] (x_B g u)) (x_Qz g Qf) 0 0 (x_A g) := by
  refine Met.ofW (cc := cX11_turns) (maxL := 4) (ret := (some .boolean)) (by decide) rfl ?_
  intro p e s m args below meth c s₁ B hml hv
  obtain ⟨rfl, hB⟩ := hv
  obtain ⟨C, hw⟩ := x_start B hml hD hB
  have hl := lv_entry [.ref (xad g 272), .int a1, .int a2, .int (xb a3)] (n := 4) (Nat.le_of_ble_eq_true rfl)
  rw [lg_entry_eq]
  exact s_X11_turns C hM hw hl h
set_option maxHeartbeats 4000000 in
set_option maxRecDepth 100000 in
theorem s_X11_hold {Qf : Bool → xM → Prop} {a1 : Int32} {a2 : Bool} (C : x_C p s m args meth c g RX11 cX11_hold 3 (some .boolean)) (hM : xpM g) {u : xM} {H : Heap} {locs : List Loc} {ls : Array Slot} (hw : x_W g s.heap H locs u) (hl : lv_has ls 3 [(0, .ref (xad g 272)), (1, .int a1), (2, .int (xb a2))]) (h : p_X11_hold a1 a2 u Qf) : W p l e (x_rm 3 65) s m args below meth c H locs 0 0 (MQ below (x_Qz g Qf) args s 0 0 (x_A g)) (F0 m 0 ls []) := by
  unfold p_X11_hold at h
  have hx := C.1
  have hb := C.2.1
  refine lv_aload_n hx hb dX11_hold_0 rfl (lv_at hl 0 rfl) ?_
  refine lv_aload_n hx hb dX11_hold_1 rfl (lv_at hl 0 rfl) ?_
  refine lv_iload_n hx hb dX11_hold_2 rfl (lv_at hl 1 rfl) ?_
  refine x_callz hw (x_runV (ci := 11) C hw (m_X11_isDoor l C.2.2.2.2.2.2.2.2.1 hM h) (xoM_272 hM) rfl (x_gV xw_977 xw_978 xw_979 xw_5 xw_980) rfl rfl qX11_isDoor ⟨(Nat.le_of_ble_eq_true rfl), (Nat.le_of_ble_eq_true rfl)⟩ rfl hl.1 rfl (Nat.le_of_ble_eq_true rfl) dX11_hold_3) (fun r2 u1 H locs hw h => ?_)
  refine lv_if_ne (tgt := 13) hx hb dX11_hold_6 (by decide) (fun c3 => ?_) (fun c3 => ?_)
  · have h := h.1 (xb_t c3)
    refine lv_aload_n hx hb dX11_hold_13 rfl (lv_at hl 0 rfl) ?_
    refine lv_iload_n hx hb dX11_hold_14 rfl (lv_at hl 1 rfl) ?_
    refine lv_bipush (v := 6) hx hb dX11_hold_15 (by decide) ?_
    refine lv_iload_n hx hb dX11_hold_17 rfl (lv_at hl 2 rfl) ?_
    refine x_callz hw (x_runV (ci := 11) C hw (m_X11_turns l C.2.2.2.2.2.2.2.2.1 hM h) (xoM_272 hM) rfl (x_gV xw_1225 xw_1226 xw_1227 xw_5 xw_1228) rfl rfl qX11_turns ⟨(Nat.le_of_ble_eq_true rfl), (Nat.le_of_ble_eq_true rfl)⟩ rfl hl.1 rfl (Nat.le_of_ble_eq_true rfl) dX11_hold_18) (fun r5 u4 H locs hw h => ?_)
    refine lv_if_eq (tgt := 28) hx hb dX11_hold_21 (by decide) (fun c6 => ?_) (fun c6 => ?_)
    · have h := h.1 (xb_f c6)
      refine lv_bipush (v := 7) hx hb dX11_hold_28 (by decide) ?_
      refine x_callz hw (x_runV (ci := 11) C hw (m_X11_is l C.2.2.2.2.2.2.2.2.1 hM h) (xoM_272 hM) rfl (x_gV xw_303 xw_304 xw_305 xw_5 xw_306) rfl rfl qX11_is ⟨(Nat.le_of_ble_eq_true rfl), (Nat.le_of_ble_eq_true rfl)⟩ rfl hl.1 rfl (Nat.le_of_ble_eq_true rfl) dX11_hold_30) (fun r8 u7 H locs hw h => ?_)
      exact x_zret _ C hw h rfl dX11_hold_33
    · have h := h.2 (xb_t c6)
      refine lv_iconst (v := 0) hx hb dX11_hold_24 (by decide) ?_
      refine lv_goto (tgt := 30) hx hb dX11_hold_25 (by decide) ?_
      refine x_callz hw (x_runV (ci := 11) C hw (m_X11_is l C.2.2.2.2.2.2.2.2.1 hM h) (xoM_272 hM) rfl (x_gV xw_303 xw_304 xw_305 xw_5 xw_306) rfl rfl qX11_is ⟨(Nat.le_of_ble_eq_true rfl), (Nat.le_of_ble_eq_true rfl)⟩ rfl hl.1 rfl (Nat.le_of_ble_eq_true rfl) dX11_hold_30) (fun r10 u9 H locs hw h => ?_)
      exact x_zret _ C hw h rfl dX11_hold_33
  · have h := h.2 (xb_f c3)
    refine lv_iconst (v := 1) hx hb dX11_hold_9 (by decide) ?_
    refine lv_goto (tgt := 30) hx hb dX11_hold_10 (by decide) ?_
    refine x_callz hw (x_runV (ci := 11) C hw (m_X11_is l C.2.2.2.2.2.2.2.2.1 hM h) (xoM_272 hM) rfl (x_gV xw_303 xw_304 xw_305 xw_5 xw_306) rfl rfl qX11_is ⟨(Nat.le_of_ble_eq_true rfl), (Nat.le_of_ble_eq_true rfl)⟩ rfl hl.1 rfl (Nat.le_of_ble_eq_true rfl) dX11_hold_30) (fun r12 u11 H locs hw h => ?_)
    exact x_zret _ C hw h rfl dX11_hold_33
set_option maxHeartbeats 4000000 in
set_option maxRecDepth 100000 in
theorem m_X11_hold (l : Launch) {g : xG} (hD : x_D g) (hM : xpM g) {a1 : Int32} {a2 : Bool} {u : xM} {Qf : Bool → xM → Prop} (h : p_X11_hold a1 a2 u Qf) : Met l yX11_hold (Cond.code yX11_hold cX11_hold 3 (some .boolean) :: wsL_law) (x_rm 3 65) (va_Pc [.ref (xad g 272), .int a1, .int (xb a2)] (x_B g u)) (x_Qz g Qf) 0 0 (x_A g) := by
  refine Met.ofW (cc := cX11_hold) (maxL := 3) (ret := (some .boolean)) (by decide) rfl ?_
  intro p e s m args below meth c s₁ B hml hv
  obtain ⟨rfl, hB⟩ := hv
  obtain ⟨C, hw⟩ := x_start B hml hD hB
  have hl := lv_entry [.ref (xad g 272), .int a1, .int (xb a2)] (n := 3) (Nat.le_of_ble_eq_true rfl)
  rw [lg_entry_eq]
  exact s_X11_hold C hM hw hl h
end
