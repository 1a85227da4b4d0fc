section
variable {p : Program} {l : Launch} {e : Env} {s : State} {m : MethodId} {args : Array Value} {below : List Frame} {meth : Method} {c : Code} {g : xG}
set_option maxHeartbeats 4000000 in
set_option maxRecDepth 100000 in
theorem s_X11_landPart_L391 {Qf : Bool → xM → Prop} (C : x_C p s m args meth c g RX11 cX11_landPart 4 (some .boolean)) (hM : xpM g) {v3 : Bool} {u : xM} {H : Heap} {locs : List Loc} {ls : Array Slot} (hw : x_W g s.heap H locs u) (hl : lv_has ls 4 [(0, .ref (xad g 272)), (3, .int (xb v3))]) (h : p_X11_landPart_L391 Qf v3 u) : W p l e (x_rm 10 294) s m args below meth c H locs 0 0 (MQ below (x_Qz g Qf) args s 0 0 (x_A g)) (F0 m 391 ls []) := by
  unfold p_X11_landPart_L391 at h
  have hx := C.1
  have hb := C.2.1
  refine lv_iload_n hx hb dX11_landPart_391 rfl (lv_at hl 1 rfl) ?_
  refine lv_if_eq (tgt := 408) hx hb dX11_landPart_392 (by decide) (fun c1 => ?_) (fun c1 => ?_)
  · have h := h.1 (xb_f c1)
    refine lv_iconst (v := 0) hx hb dX11_landPart_408 (by decide) ?_
    exact x_zret false C hw h rfl dX11_landPart_409
  · have h := h.2 (xb_t c1)
    refine lv_aload_n hx hb dX11_landPart_395 rfl (lv_at hl 0 rfl) ?_
    refine lv_bipush (v := 59) hx hb dX11_landPart_396 (by decide) ?_
    refine x_callz hw (x_runV (ci := 11) C hw (m_X11_wantSign l C.2.2.2.2.2.2.2.2.1 hM h) (xoM_272 hM) rfl (x_gV xw_719 xw_720 xw_721 xw_5 xw_722) rfl rfl qX11_wantSign ⟨(Nat.le_of_ble_eq_true rfl), (Nat.le_of_ble_eq_true rfl)⟩ rfl hl.1 rfl (Nat.le_of_ble_eq_true rfl) dX11_landPart_398) (fun r3 u2 H locs hw h => ?_)
    refine lv_if_eq (tgt := 408) hx hb dX11_landPart_401 (by decide) (fun c4 => ?_) (fun c4 => ?_)
    · have h := h.1 (xb_f c4)
      refine lv_iconst (v := 0) hx hb dX11_landPart_408 (by decide) ?_
      exact x_zret false C hw h rfl dX11_landPart_409
    · have h := h.2 (xb_t c4)
      refine lv_iconst (v := 1) hx hb dX11_landPart_404 (by decide) ?_
      refine lv_goto (tgt := 409) hx hb dX11_landPart_405 (by decide) ?_
      exact x_zret true C hw h rfl dX11_landPart_409
set_option maxHeartbeats 4000000 in
set_option maxRecDepth 100000 in
theorem s_X11_landPart_L120 {Qf : Bool → xM → Prop} (C : x_C p s m args meth c g RX11 cX11_landPart 4 (some .boolean)) (hM : xpM g) {w0 : Bool} {u : xM} {H : Heap} {locs : List Loc} {ls : Array Slot} (hw : x_W g s.heap H locs u) (hl : lv_has ls 4 [(0, .ref (xad g 272))]) (h : p_X11_landPart_L120 Qf w0 u) : W p l e (x_rm 10 294) s m args below meth c H locs 0 0 (MQ below (x_Qz g Qf) args s 0 0 (x_A g)) (F0 m 120 ls [.int (xb w0)]) := by
  unfold p_X11_landPart_L120 at h
  have hx := C.1
  have hb := C.2.1
  refine lv_istore_n (lv' := [(3, .int (xb w0)), (0, .ref (xad g 272))]) hx hb dX11_landPart_120 rfl hl (by decide) rfl (fun ls hl => ?_)
  refine lv_goto (tgt := 391) hx hb dX11_landPart_121 (by decide) ?_
  exact s_X11_landPart_L391 C hM hw (lv_sub hl [1, 0] rfl) h
set_option maxHeartbeats 4000000 in
set_option maxRecDepth 100000 in
theorem s_X11_landPart_L119 {Qf : Bool → xM → Prop} (C : x_C p s m args meth c g RX11 cX11_landPart 4 (some .boolean)) (hM : xpM g) {u : xM} {H : Heap} {locs : List Loc} {ls : Array Slot} (hw : x_W g s.heap H locs u) (hl : lv_has ls 4 [(0, .ref (xad g 272))]) (h : p_X11_landPart_L119 Qf  u) : W p l e (x_rm 10 294) s m args below meth c H locs 0 0 (MQ below (x_Qz g Qf) args s 0 0 (x_A g)) (F0 m 119 ls []) := by
  unfold p_X11_landPart_L119 at h
  have hx := C.1
  have hb := C.2.1
  refine lv_iconst (v := 0) hx hb dX11_landPart_119 (by decide) ?_
  exact s_X11_landPart_L120 C hM hw (lv_sub hl [0] rfl) h
set_option maxHeartbeats 4000000 in
set_option maxRecDepth 100000 in
theorem s_X11_landPart_L176 {Qf : Bool → xM → Prop} (C : x_C p s m args meth c g RX11 cX11_landPart 4 (some .boolean)) (hM : xpM g) {w0 : Bool} {u : xM} {H : Heap} {locs : List Loc} {ls : Array Slot} (hw : x_W g s.heap H locs u) (hl : lv_has ls 4 [(0, .ref (xad g 272))]) (h : p_X11_landPart_L176 Qf w0 u) : W p l e (x_rm 10 294) s m args below meth c H locs 0 0 (MQ below (x_Qz g Qf) args s 0 0 (x_A g)) (F0 m 176 ls [.int (xb w0)]) := by
  unfold p_X11_landPart_L176 at h
  have hx := C.1
  have hb := C.2.1
  refine lv_istore_n (lv' := [(3, .int (xb w0)), (0, .ref (xad g 272))]) hx hb dX11_landPart_176 rfl hl (by decide) rfl (fun ls hl => ?_)
  refine lv_goto (tgt := 391) hx hb dX11_landPart_177 (by decide) ?_
  exact s_X11_landPart_L391 C hM hw (lv_sub hl [1, 0] rfl) h
set_option maxHeartbeats 4000000 in
set_option maxRecDepth 100000 in
theorem s_X11_landPart_L175 {Qf : Bool → xM → Prop} (C : x_C p s m args meth c g RX11 cX11_landPart 4 (some .boolean)) (hM : xpM g) {u : xM} {H : Heap} {locs : List Loc} {ls : Array Slot} (hw : x_W g s.heap H locs u) (hl : lv_has ls 4 [(0, .ref (xad g 272))]) (h : p_X11_landPart_L175 Qf  u) : W p l e (x_rm 10 294) s m args below meth c H locs 0 0 (MQ below (x_Qz g Qf) args s 0 0 (x_A g)) (F0 m 175 ls []) := by
  unfold p_X11_landPart_L175 at h
  have hx := C.1
  have hb := C.2.1
  refine lv_iconst (v := 0) hx hb dX11_landPart_175 (by decide) ?_
  exact s_X11_landPart_L176 C hM hw (lv_sub hl [0] rfl) h
set_option maxHeartbeats 4000000 in
set_option maxRecDepth 100000 in
theorem s_X11_landPart_L220 {Qf : Bool → xM → Prop} (C : x_C p s m args meth c g RX11 cX11_landPart 4 (some .boolean)) (hM : xpM g) {v1 : Int32} {w0 : Bool} {u : xM} {H : Heap} {locs : List Loc} {ls : Array Slot} (hw : x_W g s.heap H locs u) (hl : lv_has ls 4 [(0, .ref (xad g 272)), (1, .int v1)]) (h : p_X11_landPart_L220 Qf v1 w0 u) : W p l e (x_rm 10 294) s m args below meth c H locs 0 0 (MQ below (x_Qz g Qf) args s 0 0 (x_A g)) (F0 m 220 ls [.int (xb w0)]) := by
  unfold p_X11_landPart_L220 at h
  have hx := C.1
  have hb := C.2.1
  refine lv_istore_n (lv' := [(3, .int (xb w0)), (0, .ref (xad g 272)), (1, .int v1)]) hx hb dX11_landPart_220 rfl hl (by decide) rfl (fun ls hl => ?_)
  refine lv_iload_n hx hb dX11_landPart_221 rfl (lv_at hl 0 rfl) ?_
  refine lv_if_eq (tgt := 391) hx hb dX11_landPart_222 (by decide) (fun c1 => ?_) (fun c1 => ?_)
  · have h := h.1 (xb_f c1)
    exact s_X11_landPart_L391 C hM hw (lv_sub hl [1, 0] rfl) h
  · have h := h.2 (xb_t c1)
    refine lv_aload_n hx hb dX11_landPart_225 rfl (lv_at hl 1 rfl) ?_
    refine x_getr (ci := 11) C hw 0 (xoM_272 hM) rfl inlX11 (by decide) rfl rfl xrM_272_0 xw_219 dX11_landPart_226 ?_
    refine lv_sipush (v := 2151) hx hb dX11_landPart_229 (by decide) ?_
    refine lv_bipush (v := 8) hx hb dX11_landPart_232 (by decide) ?_
    refine lv_aload_n hx hb dX11_landPart_234 rfl (lv_at hl 1 rfl) ?_
    refine x_getr (ci := 11) C hw 0 (xoM_272 hM) rfl inlX11 (by decide) rfl rfl xrM_272_0 xw_219 dX11_landPart_235 ?_
    refine lv_iload_n hx hb dX11_landPart_238 rfl (lv_at hl 2 rfl) ?_
    refine lv_iconst (v := 1) hx hb dX11_landPart_239 (by decide) ?_
    refine lv_iadd hx hb dX11_landPart_240 ?_
    have c2 := h.1
    have h := h.2
    refine x_iald C hw (xoM_273 hM) c2 dX11_landPart_241 ?_
    refine lv_imul hx hb dX11_landPart_242 ?_
    refine lv_iadd hx hb dX11_landPart_243 ?_
    refine lv_iconst (v := 5) hx hb dX11_landPart_244 (by decide) ?_
    refine lv_iadd hx hb dX11_landPart_245 ?_
    refine lv_dup2_11 hx hb dX11_landPart_246 rfl rfl ?_
    have c3 := h.1
    have h := h.2
    refine x_iald C hw (xoM_273 hM) c3 dX11_landPart_247 ?_
    refine lv_iconst (v := 1) hx hb dX11_landPart_248 (by decide) ?_
    refine lv_aload_n hx hb dX11_landPart_249 rfl (lv_at hl 1 rfl) ?_
    refine x_getr (ci := 11) C hw 0 (xoM_272 hM) rfl inlX11 (by decide) rfl rfl xrM_272_0 xw_219 dX11_landPart_250 ?_
    refine lv_iload_n hx hb dX11_landPart_253 rfl (lv_at hl 2 rfl) ?_
    have c4 := h.1
    have h := h.2
    refine x_iald C hw (xoM_273 hM) c4 dX11_landPart_254 ?_
    refine lv_ishl hx hb dX11_landPart_255 ?_
    refine lv_ior hx hb dX11_landPart_256 ?_
    have c5 := h.1
    have h := h.2
    obtain ⟨u6, eu6⟩ : ∃ q : xM, q = si u 273 (((2151 : Int32) + ((8 : Int32) * (gi u 273 (v1 + (1 : Int32)).toNatClampNeg))) + (5 : Int32)).toNatClampNeg ((gi u 273 (((2151 : Int32) + ((8 : Int32) * (gi u 273 (v1 + (1 : Int32)).toNatClampNeg))) + (5 : Int32)).toNatClampNeg) ||| ((1 : Int32) <<< ((gi u 273 v1.toNatClampNeg) &&& 31))) := ⟨_, rfl⟩
    have h := h u6 eu6
    refine x_iast C hw (xoM_273 hM) c5 dX11_landPart_257 eu6 (fun H locs hw => ?_)
    refine lv_goto (tgt := 391) hx hb dX11_landPart_258 (by decide) ?_
    exact s_X11_landPart_L391 C hM hw (lv_sub hl [1, 0] rfl) h
set_option maxHeartbeats 4000000 in
set_option maxRecDepth 100000 in
theorem s_X11_landPart_L219 {Qf : Bool → xM → Prop} (C : x_C p s m args meth c g RX11 cX11_landPart 4 (some .boolean)) (hM : xpM g) {v1 : Int32} {u : xM} {H : Heap} {locs : List Loc} {ls : Array Slot} (hw : x_W g s.heap H locs u) (hl : lv_has ls 4 [(0, .ref (xad g 272)), (1, .int v1)]) (h : p_X11_landPart_L219 Qf v1 u) : W p l e (x_rm 10 294) s m args below meth c H locs 0 0 (MQ below (x_Qz g Qf) args s 0 0 (x_A g)) (F0 m 219 ls []) := by
  unfold p_X11_landPart_L219 at h
  have hx := C.1
  have hb := C.2.1
  refine lv_iconst (v := 0) hx hb dX11_landPart_219 (by decide) ?_
  exact s_X11_landPart_L220 C hM hw (lv_sub hl [0, 1] rfl) h
set_option maxHeartbeats 4000000 in
set_option maxRecDepth 100000 in
theorem s_X11_landPart_L380 {Qf : Bool → xM → Prop} (C : x_C p s m args meth c g RX11 cX11_landPart 4 (some .boolean)) (hM : xpM g) {v3 : Bool} {w1 : Int32} {w2 : Int32} {w3 : Bool} {u : xM} {H : Heap} {locs : List Loc} {ls : Array Slot} (hw : x_W g s.heap H locs u) (hl : lv_has ls 4 [(0, .ref (xad g 272)), (3, .int (xb v3))]) (h : p_X11_landPart_L380 Qf v3 w1 w2 w3 u) : W p l e (x_rm 10 294) s m args below meth c H locs 0 0 (MQ below (x_Qz g Qf) args s 0 0 (x_A g)) (F0 m 380 ls [.int (xb w3), .int w2, .int w1, .ref (xad g 273)]) := by
  unfold p_X11_landPart_L380 at h
  have hx := C.1
  have hb := C.2.1
  refine lv_iadd hx hb dX11_landPart_380 ?_
  have c1 := h.1
  have h := h.2
  obtain ⟨u2, eu2⟩ : ∃ q : xM, q = si u 273 w1.toNatClampNeg (w2 + (xb w3)) := ⟨_, rfl⟩
  have h := h u2 eu2
  refine x_iast C hw (xoM_273 hM) c1 dX11_landPart_381 eu2 (fun H locs hw => ?_)
  refine lv_goto (tgt := 391) hx hb dX11_landPart_382 (by decide) ?_
  exact s_X11_landPart_L391 C hM hw (lv_sub hl [0, 1] rfl) h
set_option maxHeartbeats 4000000 in
set_option maxRecDepth 100000 in
theorem s_X11_landPart_L361 {Qf : Bool → xM → Prop} (C : x_C p s m args meth c g RX11 cX11_landPart 4 (some .boolean)) (hM : xpM g) {w0 : Bool} {u : xM} {H : Heap} {locs : List Loc} {ls : Array Slot} (hw : x_W g s.heap H locs u) (hl : lv_has ls 4 [(0, .ref (xad g 272))]) (h : p_X11_landPart_L361 Qf w0 u) : W p l e (x_rm 10 294) s m args below meth c H locs 0 0 (MQ below (x_Qz g Qf) args s 0 0 (x_A g)) (F0 m 361 ls [.int (xb w0)]) := by
  unfold p_X11_landPart_L361 at h
  have hx := C.1
  have hb := C.2.1
  refine lv_istore_n (lv' := [(3, .int (xb w0)), (0, .ref (xad g 272))]) hx hb dX11_landPart_361 rfl hl (by decide) rfl (fun ls hl => ?_)
  refine lv_aload_n hx hb dX11_landPart_362 rfl (lv_at hl 1 rfl) ?_
  refine x_getr (ci := 11) C hw 0 (xoM_272 hM) rfl inlX11 (by decide) rfl rfl xrM_272_0 xw_219 dX11_landPart_363 ?_
  refine lv_sipush (v := 2098) hx hb dX11_landPart_366 (by decide) ?_
  refine lv_dup2_11 hx hb dX11_landPart_369 rfl rfl ?_
  have c1 := h.1
  have h := h.2
  refine x_iald C hw (xoM_273 hM) c1 dX11_landPart_370 ?_
  refine lv_iload_n hx hb dX11_landPart_371 rfl (lv_at hl 0 rfl) ?_
  refine lv_if_eq (tgt := 379) hx hb dX11_landPart_372 (by decide) (fun c2 => ?_) (fun c2 => ?_)
  · have h := h.1 (xb_f c2)
    refine lv_iconst (v := 0) hx hb dX11_landPart_379 (by decide) ?_
    exact s_X11_landPart_L380 C hM hw (lv_sub hl [1, 0] rfl) h
  · have h := h.2 (xb_t c2)
    refine lv_iconst (v := 1) hx hb dX11_landPart_375 (by decide) ?_
    refine lv_goto (tgt := 380) hx hb dX11_landPart_376 (by decide) ?_
    exact s_X11_landPart_L380 C hM hw (lv_sub hl [1, 0] rfl) h
set_option maxHeartbeats 4000000 in
set_option maxRecDepth 100000 in
theorem s_X11_landPart_L360 {Qf : Bool → xM → Prop} (C : x_C p s m args meth c g RX11 cX11_landPart 4 (some .boolean)) (hM : xpM g) {u : xM} {H : Heap} {locs : List Loc} {ls : Array Slot} (hw : x_W g s.heap H locs u) (hl : lv_has ls 4 [(0, .ref (xad g 272))]) (h : p_X11_landPart_L360 Qf  u) : W p l e (x_rm 10 294) s m args below meth c H locs 0 0 (MQ below (x_Qz g Qf) args s 0 0 (x_A g)) (F0 m 360 ls []) := by
  unfold p_X11_landPart_L360 at h
  have hx := C.1
  have hb := C.2.1
  refine lv_iconst (v := 0) hx hb dX11_landPart_360 (by decide) ?_
  exact s_X11_landPart_L361 C hM hw (lv_sub hl [0] rfl) h
set_option maxHeartbeats 4000000 in
set_option maxRecDepth 100000 in
theorem s_X11_landPart {Qf : Bool → xM → Prop} (C : x_C p s m args meth c g RX11 cX11_landPart 4 (some .boolean)) (hM : xpM g) {u : xM} {H : Heap} {locs : List Loc} {ls : Array Slot} (hw : x_W g s.heap H locs u) (hl : lv_has ls 4 [(0, .ref (xad g 272))]) (h : p_X11_landPart  u Qf) : W p l e (x_rm 10 294) s m args below meth c H locs 0 0 (MQ below (x_Qz g Qf) args s 0 0 (x_A g)) (F0 m 0 ls []) := by
  unfold p_X11_landPart at h
  have hx := C.1
  have hb := C.2.1
  refine lv_sipush (v := 2616) hx hb dX11_landPart_0 (by decide) ?_
  refine lv_istore_n (lv' := [(1, .int 2616), (0, .ref (xad g 272))]) hx hb dX11_landPart_3 rfl hl (by decide) rfl (fun ls hl => ?_)
  refine lv_sipush (v := 2243) hx hb dX11_landPart_4 (by decide) ?_
  refine lv_iconst (v := 3) hx hb dX11_landPart_7 (by decide) ?_
  refine lv_aload_n hx hb dX11_landPart_8 rfl (lv_at hl 1 rfl) ?_
  refine x_getr (ci := 11) C hw 0 (xoM_272 hM) rfl inlX11 (by decide) rfl rfl xrM_272_0 xw_219 dX11_landPart_9 ?_
  refine lv_sipush (v := 2098) hx hb dX11_landPart_12 (by decide) ?_
  have c1 := h.1
  have h := h.2
  refine x_iald C hw (xoM_273 hM) c1 dX11_landPart_15 ?_
  refine lv_imul hx hb dX11_landPart_16 ?_
  refine lv_iadd hx hb dX11_landPart_17 ?_
  refine lv_topi (fun x2 ex2 => ?_)
  have h := h x2 ex2
  refine lv_istore_n (lv' := [(2, .int x2), (1, .int 2616), (0, .ref (xad g 272))]) hx hb dX11_landPart_18 rfl hl (by decide) rfl (fun ls hl => ?_)
  refine lv_aload_n hx hb dX11_landPart_19 rfl (lv_at hl 2 rfl) ?_
  refine va_ldcS hx hb C.2.2.2.1 C.2.2.2.2.2.2.2.2.2.2.2.2.2 dX11_landPart_20 ?_
  refine x_calli hw (x_runV (ci := 11) C hw (m_X11_inWords l C.2.2.2.2.2.2.2.2.1 hM h) (xoM_272 hM) rfl (x_gV xw_665 xw_666 xw_667 xw_5 xw_668) rfl rfl qX11_inWords ⟨(Nat.le_of_ble_eq_true rfl), (Nat.le_of_ble_eq_true rfl)⟩ rfl hl.1 rfl (Nat.le_of_ble_eq_true rfl) dX11_landPart_22) (fun r4 u3 H locs hw h => ?_)
  by_cases c5 : r4 = 0
  · refine lv_tableIn (off := 39) (tgt := 64) hx hb dX11_landPart_25 (by rw [c5]; decide) (by rw [c5]; decide) (by rw [c5]; rfl) (by decide) ?_
    have h := h.1 c5
    refine lv_aload_n hx hb dX11_landPart_64 rfl (lv_at hl 2 rfl) ?_
    refine x_callz hw (x_runV (ci := 11) C hw (m_X11_aRoom l C.2.2.2.2.2.2.2.2.1 hM h) (xoM_272 hM) rfl (x_gV xw_671 xw_672 xw_673 xw_5 xw_674) rfl rfl qX11_aRoom ⟨(Nat.le_of_ble_eq_true rfl), (Nat.le_of_ble_eq_true rfl)⟩ rfl hl.1 rfl (Nat.le_of_ble_eq_true rfl) dX11_landPart_65) (fun r7 u6 H locs hw h => ?_)
    refine lv_istore_n (lv' := [(3, .int (xb r7)), (2, .int x2), (1, .int 2616), (0, .ref (xad g 272))]) hx hb dX11_landPart_68 rfl hl (by decide) rfl (fun ls hl => ?_)
    refine lv_goto (tgt := 391) hx hb dX11_landPart_69 (by decide) ?_
    exact s_X11_landPart_L391 C hM hw (lv_sub hl [3, 0] rfl) h
  by_cases c8 : r4 = 1
  · refine lv_tableIn (off := 47) (tgt := 72) hx hb dX11_landPart_25 (by rw [c8]; decide) (by rw [c8]; decide) (by rw [c8]; rfl) (by decide) ?_
    have h := h.2.1 c8
    refine lv_aload_n hx hb dX11_landPart_72 rfl (lv_at hl 2 rfl) ?_
    refine x_callz hw (x_runV (ci := 11) C hw (m_X11_aDoor l C.2.2.2.2.2.2.2.2.1 hM h) (xoM_272 hM) rfl (x_gV xw_707 xw_708 xw_709 xw_5 xw_710) rfl rfl qX11_aDoor ⟨(Nat.le_of_ble_eq_true rfl), (Nat.le_of_ble_eq_true rfl)⟩ rfl hl.1 rfl (Nat.le_of_ble_eq_true rfl) dX11_landPart_73) (fun r10 u9 H locs hw h => ?_)
    refine lv_istore_n (lv' := [(3, .int (xb r10)), (2, .int x2), (1, .int 2616), (0, .ref (xad g 272))]) hx hb dX11_landPart_76 rfl hl (by decide) rfl (fun ls hl => ?_)
    refine lv_goto (tgt := 391) hx hb dX11_landPart_77 (by decide) ?_
    exact s_X11_landPart_L391 C hM hw (lv_sub hl [3, 0] rfl) h
  by_cases c11 : r4 = 2
  · refine lv_tableIn (off := 55) (tgt := 80) hx hb dX11_landPart_25 (by rw [c11]; decide) (by rw [c11]; decide) (by rw [c11]; rfl) (by decide) ?_
    have h := h.2.2.1 c11
    refine lv_aload_n hx hb dX11_landPart_80 rfl (lv_at hl 2 rfl) ?_
    refine x_callv hw (x_runV (ci := 11) C hw (m_X11_ahead l C.2.2.2.2.2.2.2.2.1 hM h) (xoM_272 hM) rfl (x_gV xw_639 xw_640 xw_641 xw_5 xw_642) rfl rfl qX11_ahead ⟨(Nat.le_of_ble_eq_true rfl), (Nat.le_of_ble_eq_true rfl)⟩ rfl hl.1 rfl (Nat.le_of_ble_eq_true rfl) dX11_landPart_81) (fun u12 H locs hw h => ?_)
    refine lv_aload_n hx hb dX11_landPart_84 rfl (lv_at hl 2 rfl) ?_
    refine lv_iload_n hx hb dX11_landPart_85 rfl (lv_at hl 1 rfl) ?_
    refine lv_iconst (v := 0) hx hb dX11_landPart_86 (by decide) ?_
    refine lv_bipush (v := 11) hx hb dX11_landPart_87 (by decide) ?_
    refine x_callz hw (x_runV (ci := 11) C hw (m_X11_number l C.2.2.2.2.2.2.2.2.1 hM h) (xoM_272 hM) rfl (x_gV xw_699 xw_700 xw_701 xw_5 xw_702) rfl rfl qX11_number ⟨(Nat.le_of_ble_eq_true rfl), (Nat.le_of_ble_eq_true rfl)⟩ rfl hl.1 rfl (Nat.le_of_ble_eq_true rfl) dX11_landPart_89) (fun r14 u13 H locs hw h => ?_)
    refine lv_if_eq (tgt := 119) hx hb dX11_landPart_92 (by decide) (fun c15 => ?_) (fun c15 => ?_)
    · have h := h.1 (xb_f c15)
      exact s_X11_landPart_L119 C hM hw (lv_sub hl [2] rfl) h
    · have h := h.2 (xb_t c15)
      refine lv_aload_n hx hb dX11_landPart_95 rfl (lv_at hl 2 rfl) ?_
      refine lv_sipush (v := 2231) hx hb dX11_landPart_96 (by decide) ?_
      refine lv_aload_n hx hb dX11_landPart_99 rfl (lv_at hl 2 rfl) ?_
      refine x_getr (ci := 11) C hw 0 (xoM_272 hM) rfl inlX11 (by decide) rfl rfl xrM_272_0 xw_219 dX11_landPart_100 ?_
      refine lv_iload_n hx hb dX11_landPart_103 rfl (lv_at hl 1 rfl) ?_
      have c16 := h.1
      have h := h.2
      refine x_iald C hw (xoM_273 hM) c16 dX11_landPart_104 ?_
      refine lv_iadd hx hb dX11_landPart_105 ?_
      refine lv_iconst (v := 0) hx hb dX11_landPart_106 (by decide) ?_
      refine lv_bipush (v := 99) hx hb dX11_landPart_107 (by decide) ?_
      refine x_callz hw (x_runV (ci := 11) C hw (m_X11_number l C.2.2.2.2.2.2.2.2.1 hM h) (xoM_272 hM) rfl (x_gV xw_699 xw_700 xw_701 xw_5 xw_702) rfl rfl qX11_number ⟨(Nat.le_of_ble_eq_true rfl), (Nat.le_of_ble_eq_true rfl)⟩ rfl hl.1 rfl (Nat.le_of_ble_eq_true rfl) dX11_landPart_109) (fun r18 u17 H locs hw h => ?_)
      refine lv_if_eq (tgt := 119) hx hb dX11_landPart_112 (by decide) (fun c19 => ?_) (fun c19 => ?_)
      · have h := h.1 (xb_f c19)
        exact s_X11_landPart_L119 C hM hw (lv_sub hl [2] rfl) h
      · have h := h.2 (xb_t c19)
        refine lv_iconst (v := 1) hx hb dX11_landPart_115 (by decide) ?_
        refine lv_goto (tgt := 120) hx hb dX11_landPart_116 (by decide) ?_
        exact s_X11_landPart_L120 C hM hw (lv_sub hl [2] rfl) h
  by_cases c20 : r4 = 3
  · refine lv_tableIn (off := 99) (tgt := 124) hx hb dX11_landPart_25 (by rw [c20]; decide) (by rw [c20]; decide) (by rw [c20]; rfl) (by decide) ?_
    have h := h.2.2.2.1 c20
    refine lv_aload_n hx hb dX11_landPart_124 rfl (lv_at hl 2 rfl) ?_
    refine x_callv hw (x_runV (ci := 11) C hw (m_X11_ahead l C.2.2.2.2.2.2.2.2.1 hM h) (xoM_272 hM) rfl (x_gV xw_639 xw_640 xw_641 xw_5 xw_642) rfl rfl qX11_ahead ⟨(Nat.le_of_ble_eq_true rfl), (Nat.le_of_ble_eq_true rfl)⟩ rfl hl.1 rfl (Nat.le_of_ble_eq_true rfl) dX11_landPart_125) (fun u21 H locs hw h => ?_)
    refine lv_aload_n hx hb dX11_landPart_128 rfl (lv_at hl 2 rfl) ?_
    refine lv_bipush (v := 84) hx hb dX11_landPart_129 (by decide) ?_
    refine lv_aload_n hx hb dX11_landPart_131 rfl (lv_at hl 2 rfl) ?_
    refine x_getr (ci := 11) C hw 0 (xoM_272 hM) rfl inlX11 (by decide) rfl rfl xrM_272_0 xw_219 dX11_landPart_132 ?_
    refine lv_sipush (v := 2096) hx hb dX11_landPart_135 (by decide) ?_
    have c22 := h.1
    have h := h.2
    refine x_iald C hw (xoM_273 hM) c22 dX11_landPart_138 ?_
    refine lv_iload_n hx hb dX11_landPart_139 rfl (lv_at hl 1 rfl) ?_
    refine x_callz hw (x_runV (ci := 11) C hw (m_X11_oldOne l C.2.2.2.2.2.2.2.2.1 hM h) (xoM_272 hM) rfl (x_gV xw_715 xw_716 xw_717 xw_5 xw_718) rfl rfl qX11_oldOne ⟨(Nat.le_of_ble_eq_true rfl), (Nat.le_of_ble_eq_true rfl)⟩ rfl hl.1 rfl (Nat.le_of_ble_eq_true rfl) dX11_landPart_140) (fun r24 u23 H locs hw h => ?_)
    refine lv_if_eq (tgt := 175) hx hb dX11_landPart_143 (by decide) (fun c25 => ?_) (fun c25 => ?_)
    · have h := h.1 (xb_f c25)
      exact s_X11_landPart_L175 C hM hw (lv_sub hl [2] rfl) h
    · have h := h.2 (xb_t c25)
      refine lv_aload_n hx hb dX11_landPart_146 rfl (lv_at hl 2 rfl) ?_
      refine lv_sipush (v := 2102) hx hb dX11_landPart_147 (by decide) ?_
      refine lv_bipush (v := 7) hx hb dX11_landPart_150 (by decide) ?_
      refine lv_aload_n hx hb dX11_landPart_152 rfl (lv_at hl 2 rfl) ?_
      refine x_getr (ci := 11) C hw 0 (xoM_272 hM) rfl inlX11 (by decide) rfl rfl xrM_272_0 xw_219 dX11_landPart_153 ?_
      refine lv_iload_n hx hb dX11_landPart_156 rfl (lv_at hl 1 rfl) ?_
      have c26 := h.1
      have h := h.2
      refine x_iald C hw (xoM_273 hM) c26 dX11_landPart_157 ?_
      refine lv_imul hx hb dX11_landPart_158 ?_
      refine lv_iadd hx hb dX11_landPart_159 ?_
      refine lv_iconst (v := 3) hx hb dX11_landPart_160 (by decide) ?_
      refine lv_iadd hx hb dX11_landPart_161 ?_
      refine lv_iconst (v := 0) hx hb dX11_landPart_162 (by decide) ?_
      refine lv_bipush (v := 99) hx hb dX11_landPart_163 (by decide) ?_
      refine x_callz hw (x_runV (ci := 11) C hw (m_X11_number l C.2.2.2.2.2.2.2.2.1 hM h) (xoM_272 hM) rfl (x_gV xw_699 xw_700 xw_701 xw_5 xw_702) rfl rfl qX11_number ⟨(Nat.le_of_ble_eq_true rfl), (Nat.le_of_ble_eq_true rfl)⟩ rfl hl.1 rfl (Nat.le_of_ble_eq_true rfl) dX11_landPart_165) (fun r28 u27 H locs hw h => ?_)
      refine lv_if_eq (tgt := 175) hx hb dX11_landPart_168 (by decide) (fun c29 => ?_) (fun c29 => ?_)
      · have h := h.1 (xb_f c29)
        exact s_X11_landPart_L175 C hM hw (lv_sub hl [2] rfl) h
      · have h := h.2 (xb_t c29)
        refine lv_iconst (v := 1) hx hb dX11_landPart_171 (by decide) ?_
        refine lv_goto (tgt := 176) hx hb dX11_landPart_172 (by decide) ?_
        exact s_X11_landPart_L176 C hM hw (lv_sub hl [2] rfl) h
  by_cases c30 : r4 = 4
  · refine lv_tableIn (off := 155) (tgt := 180) hx hb dX11_landPart_25 (by rw [c30]; decide) (by rw [c30]; decide) (by rw [c30]; rfl) (by decide) ?_
    have h := h.2.2.2.2.1 c30
    refine lv_aload_n hx hb dX11_landPart_180 rfl (lv_at hl 2 rfl) ?_
    refine x_callv hw (x_runV (ci := 11) C hw (m_X11_ahead l C.2.2.2.2.2.2.2.2.1 hM h) (xoM_272 hM) rfl (x_gV xw_639 xw_640 xw_641 xw_5 xw_642) rfl rfl qX11_ahead ⟨(Nat.le_of_ble_eq_true rfl), (Nat.le_of_ble_eq_true rfl)⟩ rfl hl.1 rfl (Nat.le_of_ble_eq_true rfl) dX11_landPart_181) (fun u31 H locs hw h => ?_)
    refine lv_aload_n hx hb dX11_landPart_184 rfl (lv_at hl 2 rfl) ?_
    refine lv_iload_n hx hb dX11_landPart_185 rfl (lv_at hl 1 rfl) ?_
    refine lv_iconst (v := 0) hx hb dX11_landPart_186 (by decide) ?_
    refine lv_bipush (v := 11) hx hb dX11_landPart_187 (by decide) ?_
    refine x_callz hw (x_runV (ci := 11) C hw (m_X11_number l C.2.2.2.2.2.2.2.2.1 hM h) (xoM_272 hM) rfl (x_gV xw_699 xw_700 xw_701 xw_5 xw_702) rfl rfl qX11_number ⟨(Nat.le_of_ble_eq_true rfl), (Nat.le_of_ble_eq_true rfl)⟩ rfl hl.1 rfl (Nat.le_of_ble_eq_true rfl) dX11_landPart_189) (fun r33 u32 H locs hw h => ?_)
    refine lv_if_eq (tgt := 219) hx hb dX11_landPart_192 (by decide) (fun c34 => ?_) (fun c34 => ?_)
    · have h := h.1 (xb_f c34)
      exact s_X11_landPart_L219 C hM hw (lv_sub hl [2, 1] rfl) h
    · have h := h.2 (xb_t c34)
      refine lv_aload_n hx hb dX11_landPart_195 rfl (lv_at hl 2 rfl) ?_
      refine lv_bipush (v := 91) hx hb dX11_landPart_196 (by decide) ?_
      refine lv_aload_n hx hb dX11_landPart_198 rfl (lv_at hl 2 rfl) ?_
      refine x_getr (ci := 11) C hw 0 (xoM_272 hM) rfl inlX11 (by decide) rfl rfl xrM_272_0 xw_219 dX11_landPart_199 ?_
      refine lv_sipush (v := 2097) hx hb dX11_landPart_202 (by decide) ?_
      have c35 := h.1
      have h := h.2
      refine x_iald C hw (xoM_273 hM) c35 dX11_landPart_205 ?_
      refine lv_iload_n hx hb dX11_landPart_206 rfl (lv_at hl 1 rfl) ?_
      refine lv_iconst (v := 1) hx hb dX11_landPart_207 (by decide) ?_
      refine lv_iadd hx hb dX11_landPart_208 ?_
      refine x_callz hw (x_runV (ci := 11) C hw (m_X11_oldOne l C.2.2.2.2.2.2.2.2.1 hM h) (xoM_272 hM) rfl (x_gV xw_715 xw_716 xw_717 xw_5 xw_718) rfl rfl qX11_oldOne ⟨(Nat.le_of_ble_eq_true rfl), (Nat.le_of_ble_eq_true rfl)⟩ rfl hl.1 rfl (Nat.le_of_ble_eq_true rfl) dX11_landPart_209) (fun r37 u36 H locs hw h => ?_)
      refine lv_if_eq (tgt := 219) hx hb dX11_landPart_212 (by decide) (fun c38 => ?_) (fun c38 => ?_)
      · have h := h.1 (xb_f c38)
        exact s_X11_landPart_L219 C hM hw (lv_sub hl [2, 1] rfl) h
      · have h := h.2 (xb_t c38)
        refine lv_iconst (v := 1) hx hb dX11_landPart_215 (by decide) ?_
        refine lv_goto (tgt := 220) hx hb dX11_landPart_216 (by decide) ?_
        exact s_X11_landPart_L220 C hM hw (lv_sub hl [2, 1] rfl) h
  by_cases c39 : r4 = 5
  · refine lv_tableIn (off := 236) (tgt := 261) hx hb dX11_landPart_25 (by rw [c39]; decide) (by rw [c39]; decide) (by rw [c39]; rfl) (by decide) ?_
    have h := h.2.2.2.2.2.1 c39
    refine lv_aload_n hx hb dX11_landPart_261 rfl (lv_at hl 2 rfl) ?_
    refine lv_iconst (v := 2) hx hb dX11_landPart_262 (by decide) ?_
    refine lv_iconst (v := 4) hx hb dX11_landPart_263 (by decide) ?_
    refine lv_bipush (v := 17) hx hb dX11_landPart_264 (by decide) ?_
    refine x_callz hw (x_runV (ci := 11) C hw (m_X11_newOne l C.2.2.2.2.2.2.2.2.1 hM h) (xoM_272 hM) rfl (x_gV xw_675 xw_676 xw_677 xw_5 xw_678) rfl rfl qX11_newOne ⟨(Nat.le_of_ble_eq_true rfl), (Nat.le_of_ble_eq_true rfl)⟩ rfl hl.1 rfl (Nat.le_of_ble_eq_true rfl) dX11_landPart_266) (fun r41 u40 H locs hw h => ?_)
    refine lv_if_eq (tgt := 360) hx hb dX11_landPart_269 (by decide) (fun c42 => ?_) (fun c42 => ?_)
    · have h := h.1 (xb_f c42)
      exact s_X11_landPart_L360 C hM hw (lv_sub hl [2] rfl) h
    · have h := h.2 (xb_t c42)
      refine lv_aload_n hx hb dX11_landPart_272 rfl (lv_at hl 2 rfl) ?_
      refine va_ldcS hx hb C.2.2.2.1 C.2.2.2.2.2.2.2.2.2.2.2.2.2 dX11_landPart_273 ?_
      refine lv_bipush (v := 15) hx hb dX11_landPart_275 (by decide) ?_
      refine x_callz hw (x_runV (ci := 11) C hw (m_X11_wantWord l C.2.2.2.2.2.2.2.2.1 hM h) (xoM_272 hM) rfl (x_gV xw_695 xw_696 xw_697 xw_5 xw_698) rfl rfl qX11_wantWord ⟨(Nat.le_of_ble_eq_true rfl), (Nat.le_of_ble_eq_true rfl)⟩ rfl hl.1 rfl (Nat.le_of_ble_eq_true rfl) dX11_landPart_277) (fun r44 u43 H locs hw h => ?_)
      refine lv_if_eq (tgt := 360) hx hb dX11_landPart_280 (by decide) (fun c45 => ?_) (fun c45 => ?_)
      · have h := h.1 (xb_f c45)
        exact s_X11_landPart_L360 C hM hw (lv_sub hl [2] rfl) h
      · have h := h.2 (xb_t c45)
        refine lv_aload_n hx hb dX11_landPart_283 rfl (lv_at hl 2 rfl) ?_
        refine lv_bipush (v := 91) hx hb dX11_landPart_284 (by decide) ?_
        refine lv_aload_n hx hb dX11_landPart_286 rfl (lv_at hl 2 rfl) ?_
        refine x_getr (ci := 11) C hw 0 (xoM_272 hM) rfl inlX11 (by decide) rfl rfl xrM_272_0 xw_219 dX11_landPart_287 ?_
        refine lv_sipush (v := 2097) hx hb dX11_landPart_290 (by decide) ?_
        have c46 := h.1
        have h := h.2
        refine x_iald C hw (xoM_273 hM) c46 dX11_landPart_293 ?_
        refine lv_iload_n hx hb dX11_landPart_294 rfl (lv_at hl 0 rfl) ?_
        refine x_callz hw (x_runV (ci := 11) C hw (m_X11_oldOne l C.2.2.2.2.2.2.2.2.1 hM h) (xoM_272 hM) rfl (x_gV xw_715 xw_716 xw_717 xw_5 xw_718) rfl rfl qX11_oldOne ⟨(Nat.le_of_ble_eq_true rfl), (Nat.le_of_ble_eq_true rfl)⟩ rfl hl.1 rfl (Nat.le_of_ble_eq_true rfl) dX11_landPart_295) (fun r48 u47 H locs hw h => ?_)
        refine lv_if_eq (tgt := 360) hx hb dX11_landPart_298 (by decide) (fun c49 => ?_) (fun c49 => ?_)
        · have h := h.1 (xb_f c49)
          exact s_X11_landPart_L360 C hM hw (lv_sub hl [2] rfl) h
        · have h := h.2 (xb_t c49)
          refine lv_aload_n hx hb dX11_landPart_301 rfl (lv_at hl 2 rfl) ?_
          refine va_ldcS hx hb C.2.2.2.1 C.2.2.2.2.2.2.2.2.2.2.2.2.2 dX11_landPart_302 ?_
          refine lv_bipush (v := 10) hx hb dX11_landPart_304 (by decide) ?_
          refine x_callz hw (x_runV (ci := 11) C hw (m_X11_wantWord l C.2.2.2.2.2.2.2.2.1 hM h) (xoM_272 hM) rfl (x_gV xw_695 xw_696 xw_697 xw_5 xw_698) rfl rfl qX11_wantWord ⟨(Nat.le_of_ble_eq_true rfl), (Nat.le_of_ble_eq_true rfl)⟩ rfl hl.1 rfl (Nat.le_of_ble_eq_true rfl) dX11_landPart_306) (fun r51 u50 H locs hw h => ?_)
          refine lv_if_eq (tgt := 360) hx hb dX11_landPart_309 (by decide) (fun c52 => ?_) (fun c52 => ?_)
          · have h := h.1 (xb_f c52)
            exact s_X11_landPart_L360 C hM hw (lv_sub hl [2] rfl) h
          · have h := h.2 (xb_t c52)
            refine lv_aload_n hx hb dX11_landPart_312 rfl (lv_at hl 2 rfl) ?_
            refine lv_iload_n hx hb dX11_landPart_313 rfl (lv_at hl 0 rfl) ?_
            refine lv_iconst (v := 1) hx hb dX11_landPart_314 (by decide) ?_
            refine lv_iadd hx hb dX11_landPart_315 ?_
            refine lv_iconst (v := 0) hx hb dX11_landPart_316 (by decide) ?_
            refine lv_bipush (v := 11) hx hb dX11_landPart_317 (by decide) ?_
            refine x_callz hw (x_runV (ci := 11) C hw (m_X11_number l C.2.2.2.2.2.2.2.2.1 hM h) (xoM_272 hM) rfl (x_gV xw_699 xw_700 xw_701 xw_5 xw_702) rfl rfl qX11_number ⟨(Nat.le_of_ble_eq_true rfl), (Nat.le_of_ble_eq_true rfl)⟩ rfl hl.1 rfl (Nat.le_of_ble_eq_true rfl) dX11_landPart_319) (fun r54 u53 H locs hw h => ?_)
            refine lv_if_eq (tgt := 360) hx hb dX11_landPart_322 (by decide) (fun c55 => ?_) (fun c55 => ?_)
            · have h := h.1 (xb_f c55)
              exact s_X11_landPart_L360 C hM hw (lv_sub hl [2] rfl) h
            · have h := h.2 (xb_t c55)
              refine lv_aload_n hx hb dX11_landPart_325 rfl (lv_at hl 2 rfl) ?_
              refine va_ldcS hx hb C.2.2.2.1 C.2.2.2.2.2.2.2.2.2.2.2.2.2 dX11_landPart_326 ?_
              refine lv_bipush (v := 11) hx hb dX11_landPart_328 (by decide) ?_
              refine x_callz hw (x_runV (ci := 11) C hw (m_X11_wantWord l C.2.2.2.2.2.2.2.2.1 hM h) (xoM_272 hM) rfl (x_gV xw_695 xw_696 xw_697 xw_5 xw_698) rfl rfl qX11_wantWord ⟨(Nat.le_of_ble_eq_true rfl), (Nat.le_of_ble_eq_true rfl)⟩ rfl hl.1 rfl (Nat.le_of_ble_eq_true rfl) dX11_landPart_330) (fun r57 u56 H locs hw h => ?_)
              refine lv_if_eq (tgt := 360) hx hb dX11_landPart_333 (by decide) (fun c58 => ?_) (fun c58 => ?_)
              · have h := h.1 (xb_f c58)
                exact s_X11_landPart_L360 C hM hw (lv_sub hl [2] rfl) h
              · have h := h.2 (xb_t c58)
                refine lv_aload_n hx hb dX11_landPart_336 rfl (lv_at hl 2 rfl) ?_
                refine lv_iload_n hx hb dX11_landPart_337 rfl (lv_at hl 0 rfl) ?_
                refine lv_iconst (v := 2) hx hb dX11_landPart_338 (by decide) ?_
                refine lv_iadd hx hb dX11_landPart_339 ?_
                refine lv_aload_n hx hb dX11_landPart_340 rfl (lv_at hl 2 rfl) ?_
                refine x_getr (ci := 11) C hw 0 (xoM_272 hM) rfl inlX11 (by decide) rfl rfl xrM_272_0 xw_219 dX11_landPart_341 ?_
                refine lv_iload_n hx hb dX11_landPart_344 rfl (lv_at hl 0 rfl) ?_
                refine lv_iconst (v := 1) hx hb dX11_landPart_345 (by decide) ?_
                refine lv_iadd hx hb dX11_landPart_346 ?_
                have c59 := h.1
                have h := h.2
                refine x_iald C hw (xoM_273 hM) c59 dX11_landPart_347 ?_
                refine lv_bipush (v := 11) hx hb dX11_landPart_348 (by decide) ?_
                refine x_callz hw (x_runV (ci := 11) C hw (m_X11_number l C.2.2.2.2.2.2.2.2.1 hM h) (xoM_272 hM) rfl (x_gV xw_699 xw_700 xw_701 xw_5 xw_702) rfl rfl qX11_number ⟨(Nat.le_of_ble_eq_true rfl), (Nat.le_of_ble_eq_true rfl)⟩ rfl hl.1 rfl (Nat.le_of_ble_eq_true rfl) dX11_landPart_350) (fun r61 u60 H locs hw h => ?_)
                refine lv_if_eq (tgt := 360) hx hb dX11_landPart_353 (by decide) (fun c62 => ?_) (fun c62 => ?_)
                · have h := h.1 (xb_f c62)
                  exact s_X11_landPart_L360 C hM hw (lv_sub hl [2] rfl) h
                · have h := h.2 (xb_t c62)
                  refine lv_iconst (v := 1) hx hb dX11_landPart_356 (by decide) ?_
                  refine lv_goto (tgt := 361) hx hb dX11_landPart_357 (by decide) ?_
                  exact s_X11_landPart_L361 C hM hw (lv_sub hl [2] rfl) h
  have ec5 : r4.toInt ≠ 0 := fun z => c5 (Int32.toInt_inj.mp (z.trans (by decide)))
  have ec8 : r4.toInt ≠ 1 := fun z => c8 (Int32.toInt_inj.mp (z.trans (by decide)))
  have ec11 : r4.toInt ≠ 2 := fun z => c11 (Int32.toInt_inj.mp (z.trans (by decide)))
  have ec20 : r4.toInt ≠ 3 := fun z => c20 (Int32.toInt_inj.mp (z.trans (by decide)))
  have ec30 : r4.toInt ≠ 4 := fun z => c30 (Int32.toInt_inj.mp (z.trans (by decide)))
  have ec39 : r4.toInt ≠ 5 := fun z => c39 (Int32.toInt_inj.mp (z.trans (by decide)))
  refine lv_tableOut (tgt := 385) hx hb dX11_landPart_25 (by omega) (by decide) ?_
  have h := h.2.2.2.2.2.2 c5 c8 c11 c20 c30 c39
  refine lv_aload_n hx hb dX11_landPart_385 rfl (lv_at hl 2 rfl) ?_
  refine lv_iconst (v := 2) hx hb dX11_landPart_386 (by decide) ?_
  refine x_callz hw (x_runV (ci := 11) C hw (m_X11_errs l C.2.2.2.2.2.2.2.2.1 hM h) (xoM_272 hM) rfl (x_gV xw_679 xw_680 xw_681 xw_5 xw_682) rfl rfl qX11_errs ⟨(Nat.le_of_ble_eq_true rfl), (Nat.le_of_ble_eq_true rfl)⟩ rfl hl.1 rfl (Nat.le_of_ble_eq_true rfl) dX11_landPart_387) (fun r64 u63 H locs hw h => ?_)
  exact x_zret _ C hw h rfl dX11_landPart_390
set_option maxHeartbeats 4000000 in
set_option maxRecDepth 100000 in
theorem m_X11_landPart (l : Launch) {g : xG} (hD : x_D g) (hM : xpM g) {u : xM} {Qf : Bool → xM → Prop} (h : p_X11_landPart  u Qf) : Met l yX11_landPart (Cond.code yX11_landPart cX11_landPart 4 (some .boolean) :: wsL_law) (x_rm 10 294) (va_Pc [.ref (xad g 272)] (x_B g u)) (x_Qz g Qf) 0 0 (x_A g) := by
  refine Met.ofW (cc := cX11_landPart) (maxL := 4) (ret := (some .boolean)) (by decide) rfl ?_
  intro p e s m args below meth c s₁ B hml hv
  obtain ⟨rfl, hB⟩ := hv
  obtain ⟨C, hw⟩ := x_start B hml hD hB
  have hl := lv_entry [.ref (xad g 272)] (n := 4) (Nat.le_of_ble_eq_true rfl)
  rw [lg_entry_eq]
  exact s_X11_landPart C hM hw hl h
set_option maxHeartbeats 4000000 in
set_option maxRecDepth 100000 in
theorem s_X11_land_L112 {Qf : Int32 → xM → Prop} (C : x_C p s m args meth c g RX11 cX11_land 4 (some .int)) (hM : xpM g) {u : xM} {H : Heap} {locs : List Loc} {ls : Array Slot} (hw : x_W g s.heap H locs u) (hl : lv_has ls 4 [(0, .ref (xad g 272))]) (h : p_X11_land_L112 Qf  u) : W p l e (x_rm 11 317) s m args below meth c H locs 0 0 (MQ below (x_Qi g Qf) args s 0 0 (x_A g)) (F0 m 112 ls []) := by
  unfold p_X11_land_L112 at h
  have hx := C.1
  have hb := C.2.1
  refine lv_aload_n hx hb dX11_land_112 rfl (lv_at hl 0 rfl) ?_
  refine lv_aload_n hx hb dX11_land_113 rfl (lv_at hl 0 rfl) ?_
  refine x_getr (ci := 11) C hw 0 (xoM_272 hM) rfl inlX11 (by decide) rfl rfl xrM_272_0 xw_219 dX11_land_114 ?_
  refine lv_iconst (v := 1) hx hb dX11_land_117 (by decide) ?_
  have c1 := h.1
  have h := h.2
  refine x_iald C hw (xoM_273 hM) c1 dX11_land_118 ?_
  refine x_calli hw (x_runV (ci := 11) C hw (m_X11_taken l C.2.2.2.2.2.2.2.2.1 hM h) (xoM_272 hM) rfl (x_gV xw_727 xw_728 xw_729 xw_5 xw_730) rfl rfl qX11_taken ⟨(Nat.le_of_ble_eq_true rfl), (Nat.le_of_ble_eq_true rfl)⟩ rfl hl.1 rfl (Nat.le_of_ble_eq_true rfl) dX11_land_119) (fun r3 u2 H locs hw h => ?_)
  exact x_iret C hw h dX11_land_122
set_option maxHeartbeats 4000000 in
set_option maxRecDepth 100000 in
theorem s_X11_land_L85 {Qf : Int32 → xM → Prop} (C : x_C p s m args meth c g RX11 cX11_land 4 (some .int)) (hM : xpM g) : ∀ (nn : Nat) {v3 : Int32} {u : xM} {H : Heap} {locs : List Loc} {ls : Array Slot} (hw : x_W g s.heap H locs u) (hl : lv_has ls 4 [(0, .ref (xad g 272)), (3, .int v3)]) (h : p_X11_land_L85 Qf nn v3 u), W p l e (x_rm 11 317) s m args below meth c H locs 0 0 (MQ below (x_Qi g Qf) args s 0 0 (x_A g)) (F0 m 85 ls []) := by
  intro nn
  induction nn with
  | zero => intro v3 u H locs ls hw hl h; exact h.elim
  | succ nn ih =>
    intro v3 u H locs ls hw hl h
    unfold p_X11_land_L85 at h
    have hx := C.1
    have hb := C.2.1
    refine lv_iload_n hx hb dX11_land_85 rfl (lv_at hl 1 rfl) ?_
    refine lv_bipush (v := 21) hx hb dX11_land_86 (by decide) ?_
    refine lv_icmp_ge (tgt := 112) hx hb dX11_land_88 (by decide) (fun c1 => ?_) (fun c1 => ?_)
    · have h := h.1 c1
      exact s_X11_land_L112 C hM hw (lv_sub hl [0] rfl) h
    · have h := h.2 c1
      refine lv_aload_n hx hb dX11_land_91 rfl (lv_at hl 0 rfl) ?_
      refine x_getr (ci := 11) C hw 1 (xoM_272 hM) rfl inlX11 (by decide) rfl rfl xrM_272_1 xw_220 dX11_land_92 ?_
      refine lv_iload_n hx hb dX11_land_95 rfl (lv_at hl 1 rfl) ?_
      refine lv_aload_n hx hb dX11_land_96 rfl (lv_at hl 0 rfl) ?_
      refine x_getr (ci := 11) C hw 1 (xoM_272 hM) rfl inlX11 (by decide) rfl rfl xrM_272_1 xw_220 dX11_land_97 ?_
      refine lv_bipush (v := 84) hx hb dX11_land_100 (by decide) ?_
      refine lv_iload_n hx hb dX11_land_102 rfl (lv_at hl 1 rfl) ?_
      refine lv_iadd hx hb dX11_land_103 ?_
      have c2 := h.1
      have h := h.2
      refine x_lald C hw (xoM_274 hM) c2 dX11_land_104 ?_
      have c3 := h.1
      have h := h.2
      obtain ⟨u4, eu4⟩ : ∃ q : xM, q = sl u 274 v3.toNatClampNeg (gl u 274 ((84 : Int32) + v3).toNatClampNeg) := ⟨_, rfl⟩
      have h := h u4 eu4
      refine x_last C hw (xoM_274 hM) c3 dX11_land_105 eu4 (fun H locs hw => ?_)
      obtain ⟨x5, ex5⟩ : ∃ y : Int32, y = v3 + 1 := ⟨_, rfl⟩
      have h := h x5 ex5
      refine lv_iinc (v := x5) (lv' := [(3, .int x5), (0, .ref (xad g 272))]) hx hb dX11_land_106 hl (k := 1) rfl (by rw [ex5]; rfl) (by decide) rfl (fun ls hl => ?_)
      refine lv_goto (tgt := 85) hx hb dX11_land_109 (by decide) ?_
      exact ih hw (lv_sub hl [1, 0] rfl) h
set_option maxHeartbeats 4000000 in
set_option maxRecDepth 100000 in
theorem s_X11_land_L54 {Qf : Int32 → xM → Prop} (C : x_C p s m args meth c g RX11 cX11_land 4 (some .int)) (hM : xpM g) : ∀ (nn : Nat) {v3 : Int32} {u : xM} {H : Heap} {locs : List Loc} {ls : Array Slot} (hw : x_W g s.heap H locs u) (hl : lv_has ls 4 [(0, .ref (xad g 272)), (3, .int v3)]) (h : p_X11_land_L54 Qf nn v3 u), W p l e (x_rm 11 317) s m args below meth c H locs 0 0 (MQ below (x_Qi g Qf) args s 0 0 (x_A g)) (F0 m 54 ls []) := by
  intro nn
  induction nn with
  | zero => intro v3 u H locs ls hw hl h; exact h.elim
  | succ nn ih =>
    intro v3 u H locs ls hw hl h
    unfold p_X11_land_L54 at h
    have hx := C.1
    have hb := C.2.1
    refine lv_iload_n hx hb dX11_land_54 rfl (lv_at hl 1 rfl) ?_
    refine lv_sipush (v := 524) hx hb dX11_land_55 (by decide) ?_
    refine lv_icmp_ge (tgt := 83) hx hb dX11_land_58 (by decide) (fun c1 => ?_) (fun c1 => ?_)
    · have h := h.1 c1
      refine lv_iconst (v := 0) hx hb dX11_land_83 (by decide) ?_
      refine lv_istore_n (lv' := [(3, .int 0), (0, .ref (xad g 272))]) hx hb dX11_land_84 rfl hl (by decide) rfl (fun ls hl => ?_)
      obtain ⟨n9, h⟩ := h
      exact s_X11_land_L85 C hM n9 hw (lv_sub hl [1, 0] rfl) h
    · have h := h.2 c1
      refine lv_aload_n hx hb dX11_land_61 rfl (lv_at hl 0 rfl) ?_
      refine x_getr (ci := 11) C hw 0 (xoM_272 hM) rfl inlX11 (by decide) rfl rfl xrM_272_0 xw_219 dX11_land_62 ?_
      refine lv_iload_n hx hb dX11_land_65 rfl (lv_at hl 1 rfl) ?_
      refine lv_aload_n hx hb dX11_land_66 rfl (lv_at hl 0 rfl) ?_
      refine x_getr (ci := 11) C hw 0 (xoM_272 hM) rfl inlX11 (by decide) rfl rfl xrM_272_0 xw_219 dX11_land_67 ?_
      refine lv_sipush (v := 2096) hx hb dX11_land_70 (by decide) ?_
      refine lv_iload_n hx hb dX11_land_73 rfl (lv_at hl 1 rfl) ?_
      refine lv_iadd hx hb dX11_land_74 ?_
      have c2 := h.1
      have h := h.2
      refine x_iald C hw (xoM_273 hM) c2 dX11_land_75 ?_
      have c3 := h.1
      have h := h.2
      obtain ⟨u4, eu4⟩ : ∃ q : xM, q = si u 273 v3.toNatClampNeg (gi u 273 ((2096 : Int32) + v3).toNatClampNeg) := ⟨_, rfl⟩
      have h := h u4 eu4
      refine x_iast C hw (xoM_273 hM) c3 dX11_land_76 eu4 (fun H locs hw => ?_)
      obtain ⟨x5, ex5⟩ : ∃ y : Int32, y = v3 + 1 := ⟨_, rfl⟩
      have h := h x5 ex5
      refine lv_iinc (v := x5) (lv' := [(3, .int x5), (0, .ref (xad g 272))]) hx hb dX11_land_77 hl (k := 1) rfl (by rw [ex5]; rfl) (by decide) rfl (fun ls hl => ?_)
      refine lv_goto (tgt := 54) hx hb dX11_land_80 (by decide) ?_
      exact ih hw (lv_sub hl [1, 0] rfl) h
set_option maxHeartbeats 4000000 in
set_option maxRecDepth 100000 in
theorem s_X11_land_L45 {Qf : Int32 → xM → Prop} (C : x_C p s m args meth c g RX11 cX11_land 4 (some .int)) (hM : xpM g) {u : xM} {H : Heap} {locs : List Loc} {ls : Array Slot} (hw : x_W g s.heap H locs u) (hl : lv_has ls 4 [(0, .ref (xad g 272))]) (h : p_X11_land_L45 Qf  u) : W p l e (x_rm 11 317) s m args below meth c H locs 0 0 (MQ below (x_Qi g Qf) args s 0 0 (x_A g)) (F0 m 45 ls []) := by
  unfold p_X11_land_L45 at h
  have hx := C.1
  have hb := C.2.1
  refine lv_aload_n hx hb dX11_land_45 rfl (lv_at hl 0 rfl) ?_
  refine x_geti (ci := 11) C hw 18 (xoM_272 hM) rfl inlX11 (by decide) rfl rfl xw_631 dX11_land_46 ?_
  refine lv_if_ne (tgt := 112) hx hb dX11_land_49 (by decide) (fun c1 => ?_) (fun c1 => ?_)
  · have h := h.1 c1
    exact s_X11_land_L112 C hM hw (lv_sub hl [0] rfl) h
  · have h := h.2 c1
    refine lv_iconst (v := 0) hx hb dX11_land_52 (by decide) ?_
    refine lv_istore_n (lv' := [(3, .int 0), (0, .ref (xad g 272))]) hx hb dX11_land_53 rfl hl (by decide) rfl (fun ls hl => ?_)
    obtain ⟨n9, h⟩ := h
    exact s_X11_land_L54 C hM n9 hw (lv_sub hl [1, 0] rfl) h
set_option maxHeartbeats 4000000 in
set_option maxRecDepth 100000 in
theorem s_X11_land_L26 {Qf : Int32 → xM → Prop} (C : x_C p s m args meth c g RX11 cX11_land 4 (some .int)) (hM : xpM g) : ∀ (nn : Nat) {v2 : Bool} {u : xM} {H : Heap} {locs : List Loc} {ls : Array Slot} (hw : x_W g s.heap H locs u) (hl : lv_has ls 4 [(0, .ref (xad g 272)), (2, .int (xb v2))]) (h : p_X11_land_L26 Qf nn v2 u), W p l e (x_rm 11 317) s m args below meth c H locs 0 0 (MQ below (x_Qi g Qf) args s 0 0 (x_A g)) (F0 m 26 ls []) := by
  intro nn
  induction nn with
  | zero => intro v2 u H locs ls hw hl h; exact h.elim
  | succ nn ih =>
    intro v2 u H locs ls hw hl h
    unfold p_X11_land_L26 at h
    have hx := C.1
    have hb := C.2.1
    refine lv_iload_n hx hb dX11_land_26 rfl (lv_at hl 1 rfl) ?_
    refine lv_if_eq (tgt := 45) hx hb dX11_land_27 (by decide) (fun c1 => ?_) (fun c1 => ?_)
    · have h := h.1 (xb_f c1)
      exact s_X11_land_L45 C hM hw (lv_sub hl [0] rfl) h
    · have h := h.2 (xb_t c1)
      refine lv_aload_n hx hb dX11_land_30 rfl (lv_at hl 0 rfl) ?_
      refine x_geti (ci := 11) C hw 12 (xoM_272 hM) rfl inlX11 (by decide) rfl rfl xw_630 dX11_land_31 ?_
      refine lv_if_eq (tgt := 45) hx hb dX11_land_34 (by decide) (fun c2 => ?_) (fun c2 => ?_)
      · have h := h.1 c2
        exact s_X11_land_L45 C hM hw (lv_sub hl [0] rfl) h
      · have h := h.2 c2
        refine lv_aload_n hx hb dX11_land_37 rfl (lv_at hl 0 rfl) ?_
        refine x_callz hw (x_runV (ci := 11) C hw (m_X11_landPart l C.2.2.2.2.2.2.2.2.1 hM h) (xoM_272 hM) rfl (x_gV xw_661 xw_662 xw_663 xw_5 xw_664) rfl rfl qX11_landPart ⟨(Nat.le_of_ble_eq_true rfl), (Nat.le_of_ble_eq_true rfl)⟩ rfl hl.1 rfl (Nat.le_of_ble_eq_true rfl) dX11_land_38) (fun r4 u3 H locs hw h => ?_)
        refine lv_istore_n (lv' := [(2, .int (xb r4)), (0, .ref (xad g 272))]) hx hb dX11_land_41 rfl hl (by decide) rfl (fun ls hl => ?_)
        refine lv_goto (tgt := 26) hx hb dX11_land_42 (by decide) ?_
        exact ih hw (lv_sub hl [1, 0] rfl) h
set_option maxHeartbeats 4000000 in
set_option maxRecDepth 100000 in
theorem s_X11_land {Qf : Int32 → xM → Prop} {a1 : Int32} (C : x_C p s m args meth c g RX11 cX11_land 4 (some .int)) (hM : xpM g) {u : xM} {H : Heap} {locs : List Loc} {ls : Array Slot} (hw : x_W g s.heap H locs u) (hl : lv_has ls 4 [(0, .ref (xad g 272)), (1, .int a1)]) (h : p_X11_land a1 u Qf) : W p l e (x_rm 11 317) s m args below meth c H locs 0 0 (MQ below (x_Qi g Qf) args s 0 0 (x_A g)) (F0 m 0 ls []) := by
  unfold p_X11_land at h
  have hx := C.1
  have hb := C.2.1
  refine lv_aload_n hx hb dX11_land_0 rfl (lv_at hl 0 rfl) ?_
  refine lv_iload_n hx hb dX11_land_1 rfl (lv_at hl 1 rfl) ?_
  refine lv_sipush (v := 900) hx hb dX11_land_2 (by decide) ?_
  refine x_callz hw (x_runV (ci := 11) C hw (m_X11_begins l C.2.2.2.2.2.2.2.2.1 hM h) (xoM_272 hM) rfl (x_gV xw_632 xw_633 xw_634 xw_5 xw_635) rfl rfl qX11_begins ⟨(Nat.le_of_ble_eq_true rfl), (Nat.le_of_ble_eq_true rfl)⟩ rfl hl.1 rfl (Nat.le_of_ble_eq_true rfl) dX11_land_5) (fun r2 u1 H locs hw h => ?_)
  refine lv_if_ne (tgt := 17) hx hb dX11_land_8 (by decide) (fun c3 => ?_) (fun c3 => ?_)
  · have h := h.1 (xb_t c3)
    refine lv_aload_n hx hb dX11_land_17 rfl (lv_at hl 0 rfl) ?_
    refine lv_sipush (v := 2096) hx hb dX11_land_18 (by decide) ?_
    refine x_callv hw (x_runV (ci := 11) C hw (m_X11_plain l C.2.2.2.2.2.2.2.2.1 hM h) (xoM_272 hM) rfl (x_gV xw_241 xw_242 xw_243 xw_5 xw_244) rfl rfl qX11_plain ⟨(Nat.le_of_ble_eq_true rfl), (Nat.le_of_ble_eq_true rfl)⟩ rfl hl.1 rfl (Nat.le_of_ble_eq_true rfl) dX11_land_21) (fun u4 H locs hw h => ?_)
    refine lv_iconst (v := 1) hx hb dX11_land_24 (by decide) ?_
    refine lv_istore_n (lv' := [(2, .int 1), (0, .ref (xad g 272)), (1, .int a1)]) hx hb dX11_land_25 rfl hl (by decide) rfl (fun ls hl => ?_)
    obtain ⟨n9, h⟩ := h
    exact s_X11_land_L26 C hM n9 hw (lv_sub hl [1, 0] rfl) h
  · have h := h.2 (xb_f c3)
    refine lv_aload_n hx hb dX11_land_11 rfl (lv_at hl 0 rfl) ?_
    refine lv_iconst (v := 1) hx hb dX11_land_12 (by decide) ?_
    refine x_calli hw (x_runV (ci := 11) C hw (m_X11_refuse l C.2.2.2.2.2.2.2.2.1 hM h) (xoM_272 hM) rfl (x_gV xw_657 xw_658 xw_659 xw_5 xw_660) rfl rfl qX11_refuse ⟨(Nat.le_of_ble_eq_true rfl), (Nat.le_of_ble_eq_true rfl)⟩ rfl hl.1 rfl (Nat.le_of_ble_eq_true rfl) dX11_land_13) (fun r6 u5 H locs hw h => ?_)
    exact x_iret C hw h dX11_land_16
set_option maxHeartbeats 4000000 in
set_option maxRecDepth 100000 in
theorem m_X11_land (l : Launch) {g : xG} (hD : x_D g) (hM : xpM g) {a1 : Int32} {u : xM} {Qf : Int32 → xM → Prop} (h : p_X11_land a1 u Qf) : Met l yX11_land (Cond.code yX11_land cX11_land 4 (some .int) :: wsL_law) (x_rm 11 317) (va_Pc [.ref (xad g 272), .int a1] (x_B g u)) (x_Qi g Qf) 0 0 (x_A g) := by
  refine Met.ofW (cc := cX11_land) (maxL := 4) (ret := (some .int)) (by decide) rfl ?_
  intro p e s m args below meth c s₁ B hml hv
  obtain ⟨rfl, hB⟩ := hv
  obtain ⟨C, hw⟩ := x_start B hml hD hB
  have hl := lv_entry [.ref (xad g 272), .int a1] (n := 4) (Nat.le_of_ble_eq_true rfl)
  rw [lg_entry_eq]
  exact s_X11_land C hM hw hl h
set_option maxHeartbeats 4000000 in
set_option maxRecDepth 100000 in
theorem s_X11_roomTo {Qf : Bool → xM → Prop} {a1 : Int32} (C : x_C p s m args meth c g RX11 cX11_roomTo 2 (some .boolean)) (hM : xpM g) {u : xM} {H : Heap} {locs : List Loc} {ls : Array Slot} (hw : x_W g s.heap H locs u) (hl : lv_has ls 2 [(0, .ref (xad g 272)), (1, .int a1)]) (h : p_X11_roomTo a1 u Qf) : W p l e (x_rm 8 251) s m args below meth c H locs 0 0 (MQ below (x_Qz g Qf) args s 0 0 (x_A g)) (F0 m 0 ls []) := by
  unfold p_X11_roomTo at h
  have hx := C.1
  have hb := C.2.1
  refine lv_aload_n hx hb dX11_roomTo_0 rfl (lv_at hl 0 rfl) ?_
  refine lv_iconst (v := 0) hx hb dX11_roomTo_1 (by decide) ?_
  refine lv_aload_n hx hb dX11_roomTo_2 rfl (lv_at hl 0 rfl) ?_
  refine x_getr (ci := 11) C hw 0 (xoM_272 hM) rfl inlX11 (by decide) rfl rfl xrM_272_0 xw_219 dX11_roomTo_3 ?_
  refine lv_iconst (v := 0) hx hb dX11_roomTo_6 (by decide) ?_
  have c1 := h.1
  have h := h.2
  refine x_iald C hw (xoM_273 hM) c1 dX11_roomTo_7 ?_
  refine lv_iload_n hx hb dX11_roomTo_8 rfl (lv_at hl 1 rfl) ?_
  refine x_callz hw (x_runV (ci := 11) C hw (m_X11_oldOne l C.2.2.2.2.2.2.2.2.1 hM h) (xoM_272 hM) rfl (x_gV xw_715 xw_716 xw_717 xw_5 xw_718) rfl rfl qX11_oldOne ⟨(Nat.le_of_ble_eq_true rfl), (Nat.le_of_ble_eq_true rfl)⟩ rfl hl.1 rfl (Nat.le_of_ble_eq_true rfl) dX11_roomTo_9) (fun r3 u2 H locs hw h => ?_)
  exact x_zret _ C hw h rfl dX11_roomTo_12
set_option maxHeartbeats 4000000 in
set_option maxRecDepth 100000 in
theorem m_X11_roomTo (l : Launch) {g : xG} (hD : x_D g) (hM : xpM g) {a1 : Int32} {u : xM} {Qf : Bool → xM → Prop} (h : p_X11_roomTo a1 u Qf) : Met l yX11_roomTo (Cond.code yX11_roomTo cX11_roomTo 2 (some .boolean) :: wsL_law) (x_rm 8 251) (va_Pc [.ref (xad g 272), .int a1] (x_B g u)) (x_Qz g Qf) 0 0 (x_A g) := by
  refine Met.ofW (cc := cX11_roomTo) (maxL := 2) (ret := (some .boolean)) (by decide) rfl ?_
  intro p e s m args below meth c s₁ B hml hv
  obtain ⟨rfl, hB⟩ := hv
  obtain ⟨C, hw⟩ := x_start B hml hD hB
  have hl := lv_entry [.ref (xad g 272), .int a1] (n := 2) (Nat.le_of_ble_eq_true rfl)
  rw [lg_entry_eq]
  exact s_X11_roomTo C hM hw hl h
set_option maxHeartbeats 4000000 in
set_option maxRecDepth 100000 in
theorem s_X11_doorTo {Qf : Bool → xM → Prop} {a1 : Int32} (C : x_C p s m args meth c g RX11 cX11_doorTo 2 (some .boolean)) (hM : xpM g) {u : xM} {H : Heap} {locs : List Loc} {ls : Array Slot} (hw : x_W g s.heap H locs u) (hl : lv_has ls 2 [(0, .ref (xad g 272)), (1, .int a1)]) (h : p_X11_doorTo a1 u Qf) : W p l e (x_rm 8 251) s m args below meth c H locs 0 0 (MQ below (x_Qz g Qf) args s 0 0 (x_A g)) (F0 m 0 ls []) := by
  unfold p_X11_doorTo at h
  have hx := C.1
  have hb := C.2.1
  refine lv_aload_n hx hb dX11_doorTo_0 rfl (lv_at hl 0 rfl) ?_
  refine lv_bipush (v := 7) hx hb dX11_doorTo_1 (by decide) ?_
  refine lv_aload_n hx hb dX11_doorTo_3 rfl (lv_at hl 0 rfl) ?_
  refine x_getr (ci := 11) C hw 0 (xoM_272 hM) rfl inlX11 (by decide) rfl rfl xrM_272_0 xw_219 dX11_doorTo_4 ?_
  refine lv_iconst (v := 1) hx hb dX11_doorTo_7 (by decide) ?_
  have c1 := h.1
  have h := h.2
  refine x_iald C hw (xoM_273 hM) c1 dX11_doorTo_8 ?_
  refine lv_iload_n hx hb dX11_doorTo_9 rfl (lv_at hl 1 rfl) ?_
  refine x_callz hw (x_runV (ci := 11) C hw (m_X11_oldOne l C.2.2.2.2.2.2.2.2.1 hM h) (xoM_272 hM) rfl (x_gV xw_715 xw_716 xw_717 xw_5 xw_718) rfl rfl qX11_oldOne ⟨(Nat.le_of_ble_eq_true rfl), (Nat.le_of_ble_eq_true rfl)⟩ rfl hl.1 rfl (Nat.le_of_ble_eq_true rfl) dX11_doorTo_10) (fun r3 u2 H locs hw h => ?_)
  exact x_zret _ C hw h rfl dX11_doorTo_13
set_option maxHeartbeats 4000000 in
set_option maxRecDepth 100000 in
theorem m_X11_doorTo (l : Launch) {g : xG} (hD : x_D g) (hM : xpM g) {a1 : Int32} {u : xM} {Qf : Bool → xM → Prop} (h : p_X11_doorTo a1 u Qf) : Met l yX11_doorTo (Cond.code yX11_doorTo cX11_doorTo 2 (some .boolean) :: wsL_law) (x_rm 8 251) (va_Pc [.ref (xad g 272), .int a1] (x_B g u)) (x_Qz g Qf) 0 0 (x_A g) := by
  refine Met.ofW (cc := cX11_doorTo) (maxL := 2) (ret := (some .boolean)) (by decide) rfl ?_
  intro p e s m args below meth c s₁ B hml hv
  obtain ⟨rfl, hB⟩ := hv
  obtain ⟨C, hw⟩ := x_start B hml hD hB
  have hl := lv_entry [.ref (xad g 272), .int a1] (n := 2) (Nat.le_of_ble_eq_true rfl)
  rw [lg_entry_eq]
  exact s_X11_doorTo C hM hw hl h
set_option maxHeartbeats 4000000 in
set_option maxRecDepth 100000 in
theorem s_X11_test_L113 {Qf : Bool → xM → Prop} (C : x_C p s m args meth c g RX11 cX11_test 3 (some .boolean)) (hM : xpM g) {v1 : Int32} {u : xM} {H : Heap} {locs : List Loc} {ls : Array Slot} (hw : x_W g s.heap H locs u) (hl : lv_has ls 3 [(0, .ref (xad g 272)), (1, .int v1)]) (h : p_X11_test_L113 Qf v1 u) : W p l e (x_rm 9 272) s m args below meth c H locs 0 0 (MQ below (x_Qz g Qf) args s 0 0 (x_A g)) (F0 m 113 ls []) := by
  unfold p_X11_test_L113 at h
  have hx := C.1
  have hb := C.2.1
  refine lv_aload_n hx hb dX11_test_113 rfl (lv_at hl 0 rfl) ?_
  refine x_getr (ci := 11) C hw 0 (xoM_272 hM) rfl inlX11 (by decide) rfl rfl xrM_272_0 xw_219 dX11_test_114 ?_
  refine lv_iload_n hx hb dX11_test_117 rfl (lv_at hl 1 rfl) ?_
  refine lv_iconst (v := 5) hx hb dX11_test_118 (by decide) ?_
  refine lv_iadd hx hb dX11_test_119 ?_
  refine lv_aload_n hx hb dX11_test_120 rfl (lv_at hl 0 rfl) ?_
  refine x_geti (ci := 11) C hw 15 (xoM_272 hM) rfl inlX11 (by decide) rfl rfl xw_644 dX11_test_121 ?_
  have c1 := h.1
  have h := h.2
  obtain ⟨u2, eu2⟩ : ∃ q : xM, q = si u 273 (v1 + (5 : Int32)).toNatClampNeg (gi u 272 15) := ⟨_, rfl⟩
  have h := h u2 eu2
  refine x_iast C hw (xoM_273 hM) c1 dX11_test_124 eu2 (fun H locs hw => ?_)
  refine lv_aload_n hx hb dX11_test_125 rfl (lv_at hl 0 rfl) ?_
  refine x_callv hw (x_runV (ci := 11) C hw (m_X11_ahead l C.2.2.2.2.2.2.2.2.1 hM h) (xoM_272 hM) rfl (x_gV xw_639 xw_640 xw_641 xw_5 xw_642) rfl rfl qX11_ahead ⟨(Nat.le_of_ble_eq_true rfl), (Nat.le_of_ble_eq_true rfl)⟩ rfl hl.1 rfl (Nat.le_of_ble_eq_true rfl) dX11_test_126) (fun u3 H locs hw h => ?_)
  refine lv_aload_n hx hb dX11_test_129 rfl (lv_at hl 0 rfl) ?_
  refine lv_iload_n hx hb dX11_test_130 rfl (lv_at hl 1 rfl) ?_
  refine lv_iconst (v := 2) hx hb dX11_test_131 (by decide) ?_
  refine lv_iadd hx hb dX11_test_132 ?_
  refine lv_iconst (v := 0) hx hb dX11_test_133 (by decide) ?_
  refine lv_sipush (v := 9999) hx hb dX11_test_134 (by decide) ?_
  refine x_callz hw (x_runV (ci := 11) C hw (m_X11_number l C.2.2.2.2.2.2.2.2.1 hM h) (xoM_272 hM) rfl (x_gV xw_699 xw_700 xw_701 xw_5 xw_702) rfl rfl qX11_number ⟨(Nat.le_of_ble_eq_true rfl), (Nat.le_of_ble_eq_true rfl)⟩ rfl hl.1 rfl (Nat.le_of_ble_eq_true rfl) dX11_test_137) (fun r5 u4 H locs hw h => ?_)
  exact x_zret _ C hw h rfl dX11_test_140
set_option maxHeartbeats 4000000 in
set_option maxRecDepth 100000 in
theorem s_X11_test_L31 {Qf : Bool → xM → Prop} (C : x_C p s m args meth c g RX11 cX11_test 3 (some .boolean)) (hM : xpM g) {v1 : Int32} {v2 : Int32} {u : xM} {H : Heap} {locs : List Loc} {ls : Array Slot} (hw : x_W g s.heap H locs u) (hl : lv_has ls 3 [(0, .ref (xad g 272)), (1, .int v1), (2, .int v2)]) (h : p_X11_test_L31 Qf v1 v2 u) : W p l e (x_rm 9 272) s m args below meth c H locs 0 0 (MQ below (x_Qz g Qf) args s 0 0 (x_A g)) (F0 m 31 ls []) := by
  unfold p_X11_test_L31 at h
  have hx := C.1
  have hb := C.2.1
  refine lv_aload_n hx hb dX11_test_31 rfl (lv_at hl 0 rfl) ?_
  refine x_getr (ci := 11) C hw 0 (xoM_272 hM) rfl inlX11 (by decide) rfl rfl xrM_272_0 xw_219 dX11_test_32 ?_
  refine lv_iload_n hx hb dX11_test_35 rfl (lv_at hl 1 rfl) ?_
  refine lv_sipush (v := 2200) hx hb dX11_test_36 (by decide) ?_
  refine lv_iload_n hx hb dX11_test_39 rfl (lv_at hl 2 rfl) ?_
  refine lv_iadd hx hb dX11_test_40 ?_
  have c1 := h.1
  have h := h.2
  obtain ⟨u2, eu2⟩ : ∃ q : xM, q = si u 273 v1.toNatClampNeg ((2200 : Int32) + v2) := ⟨_, rfl⟩
  have h := h u2 eu2
  refine x_iast C hw (xoM_273 hM) c1 dX11_test_41 eu2 (fun H locs hw => ?_)
  refine lv_aload_n hx hb dX11_test_42 rfl (lv_at hl 0 rfl) ?_
  refine x_callv hw (x_runV (ci := 11) C hw (m_X11_ahead l C.2.2.2.2.2.2.2.2.1 hM h) (xoM_272 hM) rfl (x_gV xw_639 xw_640 xw_641 xw_5 xw_642) rfl rfl qX11_ahead ⟨(Nat.le_of_ble_eq_true rfl), (Nat.le_of_ble_eq_true rfl)⟩ rfl hl.1 rfl (Nat.le_of_ble_eq_true rfl) dX11_test_43) (fun u3 H locs hw h => ?_)
  refine lv_iload_n hx hb dX11_test_46 rfl (lv_at hl 2 rfl) ?_
  refine lv_bipush (v := 18) hx hb dX11_test_47 (by decide) ?_
  refine lv_icmp_ne (tgt := 60) hx hb dX11_test_49 (by decide) (fun c4 => ?_) (fun c4 => ?_)
  · have h := h.1 c4
    refine lv_aload_n hx hb dX11_test_60 rfl (lv_at hl 0 rfl) ?_
    refine lv_iload_n hx hb dX11_test_61 rfl (lv_at hl 1 rfl) ?_
    refine lv_iconst (v := 1) hx hb dX11_test_62 (by decide) ?_
    refine lv_iadd hx hb dX11_test_63 ?_
    refine x_callz hw (x_runV (ci := 11) C hw (m_X11_roomTo l C.2.2.2.2.2.2.2.2.1 hM h) (xoM_272 hM) rfl (x_gV xw_838 xw_839 xw_840 xw_5 xw_841) rfl rfl qX11_roomTo ⟨(Nat.le_of_ble_eq_true rfl), (Nat.le_of_ble_eq_true rfl)⟩ rfl hl.1 rfl (Nat.le_of_ble_eq_true rfl) dX11_test_64) (fun r6 u5 H locs hw h => ?_)
    refine lv_if_ne (tgt := 72) hx hb dX11_test_67 (by decide) (fun c7 => ?_) (fun c7 => ?_)
    · have h := h.1 (xb_t c7)
      refine lv_iload_n hx hb dX11_test_72 rfl (lv_at hl 2 rfl) ?_
      refine lv_bipush (v := 26) hx hb dX11_test_73 (by decide) ?_
      refine lv_icmp_ne (tgt := 80) hx hb dX11_test_75 (by decide) (fun c8 => ?_) (fun c8 => ?_)
      · have h := h.1 c8
        refine lv_aload_n hx hb dX11_test_80 rfl (lv_at hl 0 rfl) ?_
        refine lv_bipush (v := 60) hx hb dX11_test_81 (by decide) ?_
        refine x_callz hw (x_runV (ci := 11) C hw (m_X11_isSign l C.2.2.2.2.2.2.2.2.1 hM h) (xoM_272 hM) rfl (x_gV xw_723 xw_724 xw_725 xw_5 xw_726) rfl rfl qX11_isSign ⟨(Nat.le_of_ble_eq_true rfl), (Nat.le_of_ble_eq_true rfl)⟩ rfl hl.1 rfl (Nat.le_of_ble_eq_true rfl) dX11_test_83) (fun r10 u9 H locs hw h => ?_)
        refine lv_if_ne (tgt := 113) hx hb dX11_test_86 (by decide) (fun c11 => ?_) (fun c11 => ?_)
        · have h := h.1 (xb_t c11)
          exact s_X11_test_L113 C hM hw (lv_sub hl [0, 1] rfl) h
        · have h := h.2 (xb_f c11)
          refine lv_aload_n hx hb dX11_test_89 rfl (lv_at hl 0 rfl) ?_
          refine lv_bipush (v := 62) hx hb dX11_test_90 (by decide) ?_
          refine x_callz hw (x_runV (ci := 11) C hw (m_X11_isSign l C.2.2.2.2.2.2.2.2.1 hM h) (xoM_272 hM) rfl (x_gV xw_723 xw_724 xw_725 xw_5 xw_726) rfl rfl qX11_isSign ⟨(Nat.le_of_ble_eq_true rfl), (Nat.le_of_ble_eq_true rfl)⟩ rfl hl.1 rfl (Nat.le_of_ble_eq_true rfl) dX11_test_92) (fun r13 u12 H locs hw h => ?_)
          refine lv_if_ne (tgt := 113) hx hb dX11_test_95 (by decide) (fun c14 => ?_) (fun c14 => ?_)
          · have h := h.1 (xb_t c14)
            exact s_X11_test_L113 C hM hw (lv_sub hl [0, 1] rfl) h
          · have h := h.2 (xb_f c14)
            refine lv_aload_n hx hb dX11_test_98 rfl (lv_at hl 0 rfl) ?_
            refine lv_bipush (v := 61) hx hb dX11_test_99 (by decide) ?_
            refine x_callz hw (x_runV (ci := 11) C hw (m_X11_isSign l C.2.2.2.2.2.2.2.2.1 hM h) (xoM_272 hM) rfl (x_gV xw_723 xw_724 xw_725 xw_5 xw_726) rfl rfl qX11_isSign ⟨(Nat.le_of_ble_eq_true rfl), (Nat.le_of_ble_eq_true rfl)⟩ rfl hl.1 rfl (Nat.le_of_ble_eq_true rfl) dX11_test_101) (fun r16 u15 H locs hw h => ?_)
            refine lv_if_ne (tgt := 113) hx hb dX11_test_104 (by decide) (fun c17 => ?_) (fun c17 => ?_)
            · have h := h.1 (xb_t c17)
              exact s_X11_test_L113 C hM hw (lv_sub hl [0, 1] rfl) h
            · have h := h.2 (xb_f c17)
              refine lv_aload_n hx hb dX11_test_107 rfl (lv_at hl 0 rfl) ?_
              refine lv_iconst (v := 2) hx hb dX11_test_108 (by decide) ?_
              refine x_callz hw (x_runV (ci := 11) C hw (m_X11_errs l C.2.2.2.2.2.2.2.2.1 hM h) (xoM_272 hM) rfl (x_gV xw_679 xw_680 xw_681 xw_5 xw_682) rfl rfl qX11_errs ⟨(Nat.le_of_ble_eq_true rfl), (Nat.le_of_ble_eq_true rfl)⟩ rfl hl.1 rfl (Nat.le_of_ble_eq_true rfl) dX11_test_109) (fun r19 u18 H locs hw h => ?_)
              exact x_zret _ C hw h rfl dX11_test_112
      · have h := h.2 c8
        refine lv_iconst (v := 1) hx hb dX11_test_78 (by decide) ?_
        exact x_zret true C hw h rfl dX11_test_79
    · have h := h.2 (xb_f c7)
      refine lv_iconst (v := 0) hx hb dX11_test_70 (by decide) ?_
      exact x_zret false C hw h rfl dX11_test_71
  · have h := h.2 c4
    refine lv_aload_n hx hb dX11_test_52 rfl (lv_at hl 0 rfl) ?_
    refine lv_iload_n hx hb dX11_test_53 rfl (lv_at hl 1 rfl) ?_
    refine lv_iconst (v := 1) hx hb dX11_test_54 (by decide) ?_
    refine lv_iadd hx hb dX11_test_55 ?_
    refine x_callz hw (x_runV (ci := 11) C hw (m_X11_doorTo l C.2.2.2.2.2.2.2.2.1 hM h) (xoM_272 hM) rfl (x_gV xw_834 xw_835 xw_836 xw_5 xw_837) rfl rfl qX11_doorTo ⟨(Nat.le_of_ble_eq_true rfl), (Nat.le_of_ble_eq_true rfl)⟩ rfl hl.1 rfl (Nat.le_of_ble_eq_true rfl) dX11_test_56) (fun r21 u20 H locs hw h => ?_)
    exact x_zret _ C hw h rfl dX11_test_59
set_option maxHeartbeats 4000000 in
set_option maxRecDepth 100000 in
theorem s_X11_test {Qf : Bool → xM → Prop} {a1 : Int32} (C : x_C p s m args meth c g RX11 cX11_test 3 (some .boolean)) (hM : xpM g) {u : xM} {H : Heap} {locs : List Loc} {ls : Array Slot} (hw : x_W g s.heap H locs u) (hl : lv_has ls 3 [(0, .ref (xad g 272)), (1, .int a1)]) (h : p_X11_test a1 u Qf) : W p l e (x_rm 9 272) s m args below meth c H locs 0 0 (MQ below (x_Qz g Qf) args s 0 0 (x_A g)) (F0 m 0 ls []) := by
  unfold p_X11_test at h
  have hx := C.1
  have hb := C.2.1
  refine lv_aload_n hx hb dX11_test_0 rfl (lv_at hl 0 rfl) ?_
  refine va_ldcS hx hb C.2.2.2.1 C.2.2.2.2.2.2.2.2.2.2.2.2.2 dX11_test_1 ?_
  refine x_calli hw (x_runV (ci := 11) C hw (m_X11_inWords l C.2.2.2.2.2.2.2.2.1 hM h) (xoM_272 hM) rfl (x_gV xw_665 xw_666 xw_667 xw_5 xw_668) rfl rfl qX11_inWords ⟨(Nat.le_of_ble_eq_true rfl), (Nat.le_of_ble_eq_true rfl)⟩ rfl hl.1 rfl (Nat.le_of_ble_eq_true rfl) dX11_test_3) (fun r2 u1 H locs hw h => ?_)
  refine lv_istore_n (lv' := [(2, .int r2), (0, .ref (xad g 272)), (1, .int a1)]) hx hb dX11_test_6 rfl hl (by decide) rfl (fun ls hl => ?_)
  refine lv_iload_n hx hb dX11_test_7 rfl (lv_at hl 0 rfl) ?_
  refine lv_bipush (v := 26) hx hb dX11_test_8 (by decide) ?_
  refine lv_icmp_eq (tgt := 31) hx hb dX11_test_10 (by decide) (fun c3 => ?_) (fun c3 => ?_)
  · have h := h.1 c3
    exact s_X11_test_L31 C hM hw (lv_sub hl [1, 2, 0] rfl) h
  · have h := h.2 c3
    refine lv_iload_n hx hb dX11_test_13 rfl (lv_at hl 0 rfl) ?_
    refine lv_bipush (v := 18) hx hb dX11_test_14 (by decide) ?_
    refine lv_icmp_eq (tgt := 31) hx hb dX11_test_16 (by decide) (fun c4 => ?_) (fun c4 => ?_)
    · have h := h.1 c4
      exact s_X11_test_L31 C hM hw (lv_sub hl [1, 2, 0] rfl) h
    · have h := h.2 c4
      refine lv_iload_n hx hb dX11_test_19 rfl (lv_at hl 0 rfl) ?_
      refine lv_bipush (v := 27) hx hb dX11_test_20 (by decide) ?_
      refine lv_icmp_eq (tgt := 31) hx hb dX11_test_22 (by decide) (fun c5 => ?_) (fun c5 => ?_)
      · have h := h.1 c5
        exact s_X11_test_L31 C hM hw (lv_sub hl [1, 2, 0] rfl) h
      · have h := h.2 c5
        refine lv_aload_n hx hb dX11_test_25 rfl (lv_at hl 1 rfl) ?_
        refine lv_iconst (v := 2) hx hb dX11_test_26 (by decide) ?_
        refine x_callz hw (x_runV (ci := 11) C hw (m_X11_errs l C.2.2.2.2.2.2.2.2.1 hM h) (xoM_272 hM) rfl (x_gV xw_679 xw_680 xw_681 xw_5 xw_682) rfl rfl qX11_errs ⟨(Nat.le_of_ble_eq_true rfl), (Nat.le_of_ble_eq_true rfl)⟩ rfl hl.1 rfl (Nat.le_of_ble_eq_true rfl) dX11_test_27) (fun r7 u6 H locs hw h => ?_)
        exact x_zret _ C hw h rfl dX11_test_30
set_option maxHeartbeats 4000000 in
set_option maxRecDepth 100000 in
theorem m_X11_test (l : Launch) {g : xG} (hD : x_D g) (hM : xpM g) {a1 : Int32} {u : xM} {Qf : Bool → xM → Prop} (h : p_X11_test a1 u Qf) : Met l yX11_test (Cond.code yX11_test cX11_test 3 (some .boolean) :: wsL_law) (x_rm 9 272) (va_Pc [.ref (xad g 272), .int a1] (x_B g u)) (x_Qz g Qf) 0 0 (x_A g) := by
  refine Met.ofW (cc := cX11_test) (maxL := 3) (ret := (some .boolean)) (by decide) rfl ?_
  intro p e s m args below meth c s₁ B hml hv
  obtain ⟨rfl, hB⟩ := hv
  obtain ⟨C, hw⟩ := x_start B hml hD hB
  have hl := lv_entry [.ref (xad g 272), .int a1] (n := 3) (Nat.le_of_ble_eq_true rfl)
  rw [lg_entry_eq]
  exact s_X11_test C hM hw hl h
set_option maxHeartbeats 4000000 in
set_option maxRecDepth 100000 in
theorem s_X11_nightOrder {Qf : Bool → xM → Prop} {a1 : Int32} {a2 : Int32} (C : x_C p s m args meth c g RX11 cX11_nightOrder 3 (some .boolean)) (hM : xpM g) {u : xM} {H : Heap} {locs : List Loc} {ls : Array Slot} (hw : x_W g s.heap H locs u) (hl : lv_has ls 3 [(0, .ref (xad g 272)), (1, .int a1), (2, .int a2)]) (h : p_X11_nightOrder a1 a2 u Qf) : W p l e (x_rm 10 294) s m args below meth c H locs 0 0 (MQ below (x_Qz g Qf) args s 0 0 (x_A g)) (F0 m 0 ls []) := by
  unfold p_X11_nightOrder at h
  have hx := C.1
  have hb := C.2.1
  refine lv_iload_n hx hb dX11_nightOrder_0 rfl (lv_at hl 1 rfl) ?_
  by_cases c1 : a1 = 17
  · refine lv_tableIn (off := 43) (tgt := 44) hx hb dX11_nightOrder_1 (by rw [c1]; decide) (by rw [c1]; decide) (by rw [c1]; rfl) (by decide) ?_
    have h := h.1 c1
    refine lv_aload_n hx hb dX11_nightOrder_44 rfl (lv_at hl 0 rfl) ?_
    refine lv_iload_n hx hb dX11_nightOrder_45 rfl (lv_at hl 2 rfl) ?_
    refine lv_iconst (v := 1) hx hb dX11_nightOrder_46 (by decide) ?_
    refine lv_iadd hx hb dX11_nightOrder_47 ?_
    refine lv_iconst (v := 1) hx hb dX11_nightOrder_48 (by decide) ?_
    refine lv_bipush (v := 12) hx hb dX11_nightOrder_49 (by decide) ?_
    refine x_callz hw (x_runV (ci := 11) C hw (m_X11_number l C.2.2.2.2.2.2.2.2.1 hM h) (xoM_272 hM) rfl (x_gV xw_699 xw_700 xw_701 xw_5 xw_702) rfl rfl qX11_number ⟨(Nat.le_of_ble_eq_true rfl), (Nat.le_of_ble_eq_true rfl)⟩ rfl hl.1 rfl (Nat.le_of_ble_eq_true rfl) dX11_nightOrder_51) (fun r3 u2 H locs hw h => ?_)
    exact x_zret _ C hw h rfl dX11_nightOrder_54
  by_cases c4 : a1 = 18
  · refine lv_tableIn (off := 65) (tgt := 66) hx hb dX11_nightOrder_1 (by rw [c4]; decide) (by rw [c4]; decide) (by rw [c4]; rfl) (by decide) ?_
    have h := h.2.1 c4
    refine lv_aload_n hx hb dX11_nightOrder_66 rfl (lv_at hl 0 rfl) ?_
    refine lv_iload_n hx hb dX11_nightOrder_67 rfl (lv_at hl 2 rfl) ?_
    refine lv_iconst (v := 1) hx hb dX11_nightOrder_68 (by decide) ?_
    refine lv_iadd hx hb dX11_nightOrder_69 ?_
    refine x_callz hw (x_runV (ci := 11) C hw (m_X11_doorTo l C.2.2.2.2.2.2.2.2.1 hM h) (xoM_272 hM) rfl (x_gV xw_834 xw_835 xw_836 xw_5 xw_837) rfl rfl qX11_doorTo ⟨(Nat.le_of_ble_eq_true rfl), (Nat.le_of_ble_eq_true rfl)⟩ rfl hl.1 rfl (Nat.le_of_ble_eq_true rfl) dX11_nightOrder_70) (fun r6 u5 H locs hw h => ?_)
    exact x_zret _ C hw h rfl dX11_nightOrder_73
  by_cases c7 : a1 = 19
  · refine lv_tableIn (off := 65) (tgt := 66) hx hb dX11_nightOrder_1 (by rw [c7]; decide) (by rw [c7]; decide) (by rw [c7]; rfl) (by decide) ?_
    have h := h.2.2.1 c7
    refine lv_aload_n hx hb dX11_nightOrder_66 rfl (lv_at hl 0 rfl) ?_
    refine lv_iload_n hx hb dX11_nightOrder_67 rfl (lv_at hl 2 rfl) ?_
    refine lv_iconst (v := 1) hx hb dX11_nightOrder_68 (by decide) ?_
    refine lv_iadd hx hb dX11_nightOrder_69 ?_
    refine x_callz hw (x_runV (ci := 11) C hw (m_X11_doorTo l C.2.2.2.2.2.2.2.2.1 hM h) (xoM_272 hM) rfl (x_gV xw_834 xw_835 xw_836 xw_5 xw_837) rfl rfl qX11_doorTo ⟨(Nat.le_of_ble_eq_true rfl), (Nat.le_of_ble_eq_true rfl)⟩ rfl hl.1 rfl (Nat.le_of_ble_eq_true rfl) dX11_nightOrder_70) (fun r9 u8 H locs hw h => ?_)
    exact x_zret _ C hw h rfl dX11_nightOrder_73
  by_cases c10 : a1 = 20
  · refine lv_tableIn (off := 73) (tgt := 74) hx hb dX11_nightOrder_1 (by rw [c10]; decide) (by rw [c10]; decide) (by rw [c10]; rfl) (by decide) ?_
    have h := h.2.2.2.1 c10
    refine lv_aload_n hx hb dX11_nightOrder_74 rfl (lv_at hl 0 rfl) ?_
    refine lv_iload_n hx hb dX11_nightOrder_75 rfl (lv_at hl 2 rfl) ?_
    refine lv_iconst (v := 1) hx hb dX11_nightOrder_76 (by decide) ?_
    refine lv_iadd hx hb dX11_nightOrder_77 ?_
    refine x_callz hw (x_runV (ci := 11) C hw (m_X11_roomTo l C.2.2.2.2.2.2.2.2.1 hM h) (xoM_272 hM) rfl (x_gV xw_838 xw_839 xw_840 xw_5 xw_841) rfl rfl qX11_roomTo ⟨(Nat.le_of_ble_eq_true rfl), (Nat.le_of_ble_eq_true rfl)⟩ rfl hl.1 rfl (Nat.le_of_ble_eq_true rfl) dX11_nightOrder_78) (fun r12 u11 H locs hw h => ?_)
    refine lv_if_eq (tgt := 102) hx hb dX11_nightOrder_81 (by decide) (fun c13 => ?_) (fun c13 => ?_)
    · have h := h.1 (xb_f c13)
      refine lv_iconst (v := 0) hx hb dX11_nightOrder_102 (by decide) ?_
      exact x_zret false C hw h rfl dX11_nightOrder_103
    · have h := h.2 (xb_t c13)
      refine lv_aload_n hx hb dX11_nightOrder_84 rfl (lv_at hl 0 rfl) ?_
      refine lv_iload_n hx hb dX11_nightOrder_85 rfl (lv_at hl 2 rfl) ?_
      refine lv_iconst (v := 2) hx hb dX11_nightOrder_86 (by decide) ?_
      refine lv_iadd hx hb dX11_nightOrder_87 ?_
      refine lv_iconst (v := 1) hx hb dX11_nightOrder_88 (by decide) ?_
      refine lv_sipush (v := 999) hx hb dX11_nightOrder_89 (by decide) ?_
      refine x_callz hw (x_runV (ci := 11) C hw (m_X11_number l C.2.2.2.2.2.2.2.2.1 hM h) (xoM_272 hM) rfl (x_gV xw_699 xw_700 xw_701 xw_5 xw_702) rfl rfl qX11_number ⟨(Nat.le_of_ble_eq_true rfl), (Nat.le_of_ble_eq_true rfl)⟩ rfl hl.1 rfl (Nat.le_of_ble_eq_true rfl) dX11_nightOrder_92) (fun r15 u14 H locs hw h => ?_)
      refine lv_if_eq (tgt := 102) hx hb dX11_nightOrder_95 (by decide) (fun c16 => ?_) (fun c16 => ?_)
      · have h := h.1 (xb_f c16)
        refine lv_iconst (v := 0) hx hb dX11_nightOrder_102 (by decide) ?_
        exact x_zret false C hw h rfl dX11_nightOrder_103
      · have h := h.2 (xb_t c16)
        refine lv_iconst (v := 1) hx hb dX11_nightOrder_98 (by decide) ?_
        refine lv_goto (tgt := 103) hx hb dX11_nightOrder_99 (by decide) ?_
        exact x_zret true C hw h rfl dX11_nightOrder_103
  by_cases c17 : a1 = 21
  · refine lv_tableIn (off := 109) (tgt := 110) hx hb dX11_nightOrder_1 (by rw [c17]; decide) (by rw [c17]; decide) (by rw [c17]; rfl) (by decide) ?_
    have h := h.2.2.2.2.1 c17
    refine lv_iconst (v := 1) hx hb dX11_nightOrder_110 (by decide) ?_
    exact x_zret true C hw h rfl dX11_nightOrder_111
  by_cases c18 : a1 = 22
  · refine lv_tableIn (off := 103) (tgt := 104) hx hb dX11_nightOrder_1 (by rw [c18]; decide) (by rw [c18]; decide) (by rw [c18]; rfl) (by decide) ?_
    have h := h.2.2.2.2.2.1 c18
    refine lv_aload_n hx hb dX11_nightOrder_104 rfl (lv_at hl 0 rfl) ?_
    refine lv_iload_n hx hb dX11_nightOrder_105 rfl (lv_at hl 2 rfl) ?_
    refine x_callz hw (x_runV (ci := 11) C hw (m_X11_test l C.2.2.2.2.2.2.2.2.1 hM h) (xoM_272 hM) rfl (x_gV xw_842 xw_843 xw_844 xw_5 xw_845) rfl rfl qX11_test ⟨(Nat.le_of_ble_eq_true rfl), (Nat.le_of_ble_eq_true rfl)⟩ rfl hl.1 rfl (Nat.le_of_ble_eq_true rfl) dX11_nightOrder_106) (fun r20 u19 H locs hw h => ?_)
    exact x_zret _ C hw h rfl dX11_nightOrder_109
  by_cases c21 : a1 = 23
  · refine lv_tableIn (off := 54) (tgt := 55) hx hb dX11_nightOrder_1 (by rw [c21]; decide) (by rw [c21]; decide) (by rw [c21]; rfl) (by decide) ?_
    have h := h.2.2.2.2.2.2.1 c21
    refine lv_aload_n hx hb dX11_nightOrder_55 rfl (lv_at hl 0 rfl) ?_
    refine lv_iload_n hx hb dX11_nightOrder_56 rfl (lv_at hl 2 rfl) ?_
    refine lv_iconst (v := 1) hx hb dX11_nightOrder_57 (by decide) ?_
    refine lv_iadd hx hb dX11_nightOrder_58 ?_
    refine lv_iconst (v := 1) hx hb dX11_nightOrder_59 (by decide) ?_
    refine lv_bipush (v := 99) hx hb dX11_nightOrder_60 (by decide) ?_
    refine x_callz hw (x_runV (ci := 11) C hw (m_X11_number l C.2.2.2.2.2.2.2.2.1 hM h) (xoM_272 hM) rfl (x_gV xw_699 xw_700 xw_701 xw_5 xw_702) rfl rfl qX11_number ⟨(Nat.le_of_ble_eq_true rfl), (Nat.le_of_ble_eq_true rfl)⟩ rfl hl.1 rfl (Nat.le_of_ble_eq_true rfl) dX11_nightOrder_62) (fun r23 u22 H locs hw h => ?_)
    exact x_zret _ C hw h rfl dX11_nightOrder_65
  have ec1 : a1.toInt ≠ 17 := fun z => c1 (Int32.toInt_inj.mp (z.trans (by decide)))
  have ec4 : a1.toInt ≠ 18 := fun z => c4 (Int32.toInt_inj.mp (z.trans (by decide)))
  have ec7 : a1.toInt ≠ 19 := fun z => c7 (Int32.toInt_inj.mp (z.trans (by decide)))
  have ec10 : a1.toInt ≠ 20 := fun z => c10 (Int32.toInt_inj.mp (z.trans (by decide)))
  have ec17 : a1.toInt ≠ 21 := fun z => c17 (Int32.toInt_inj.mp (z.trans (by decide)))
  have ec18 : a1.toInt ≠ 22 := fun z => c18 (Int32.toInt_inj.mp (z.trans (by decide)))
  have ec21 : a1.toInt ≠ 23 := fun z => c21 (Int32.toInt_inj.mp (z.trans (by decide)))
  refine lv_tableOut (tgt := 110) hx hb dX11_nightOrder_1 (by omega) (by decide) ?_
  have h := h.2.2.2.2.2.2.2 c1 c4 c7 c10 c17 c18 c21
  refine lv_iconst (v := 1) hx hb dX11_nightOrder_110 (by decide) ?_
  exact x_zret true C hw h rfl dX11_nightOrder_111
set_option maxHeartbeats 4000000 in
set_option maxRecDepth 100000 in
theorem m_X11_nightOrder (l : Launch) {g : xG} (hD : x_D g) (hM : xpM g) {a1 : Int32} {a2 : Int32} {u : xM} {Qf : Bool → xM → Prop} (h : p_X11_nightOrder a1 a2 u Qf) : Met l yX11_nightOrder (Cond.code yX11_nightOrder cX11_nightOrder 3 (some .boolean) :: wsL_law) (x_rm 10 294) (va_Pc [.ref (xad g 272), .int a1, .int a2] (x_B g u)) (x_Qz g Qf) 0 0 (x_A g) := by
  refine Met.ofW (cc := cX11_nightOrder) (maxL := 3) (ret := (some .boolean)) (by decide) rfl ?_
  intro p e s m args below meth c s₁ B hml hv
  obtain ⟨rfl, hB⟩ := hv
  obtain ⟨C, hw⟩ := x_start B hml hD hB
  have hl := lv_entry [.ref (xad g 272), .int a1, .int a2] (n := 3) (Nat.le_of_ble_eq_true rfl)
  rw [lg_entry_eq]
  exact s_X11_nightOrder C hM hw hl h
set_option maxHeartbeats 4000000 in
set_option maxRecDepth 100000 in
theorem s_X11_nightStep_L222 {Qf : Bool → xM → Prop} (C : x_C p s m args meth c g RX11 cX11_nightStep 6 (some .boolean)) (hM : xpM g) {v1 : Int32} {v2 : Int32} {v3 : Int32} {u : xM} {H : Heap} {locs : List Loc} {ls : Array Slot} (hw : x_W g s.heap H locs u) (hl : lv_has ls 6 [(0, .ref (xad g 272)), (1, .int v1), (2, .int v2), (3, .int v3)]) (h : p_X11_nightStep_L222 Qf v1 v2 v3 u) : W p l e (x_rm 11 316) s m args below meth c H locs 0 0 (MQ below (x_Qz g Qf) args s 0 0 (x_A g)) (F0 m 222 ls []) := by
  unfold p_X11_nightStep_L222 at h
  have hx := C.1
  have hb := C.2.1
  refine lv_iload_n hx hb dX11_nightStep_222 rfl (lv_at hl 1 rfl) ?_
  refine lv_bipush (v := 24) hx hb dX11_nightStep_223 (by decide) ?_
  refine lv_icmp_ne (tgt := 279) hx hb dX11_nightStep_225 (by decide) (fun c1 => ?_) (fun c1 => ?_)
  · have h := h.1 c1
    refine lv_aload_n hx hb dX11_nightStep_279 rfl (lv_at hl 0 rfl) ?_
    refine lv_bipush (v := 59) hx hb dX11_nightStep_280 (by decide) ?_
    refine x_callz hw (x_runV (ci := 11) C hw (m_X11_wantSign l C.2.2.2.2.2.2.2.2.1 hM h) (xoM_272 hM) rfl (x_gV xw_719 xw_720 xw_721 xw_5 xw_722) rfl rfl qX11_wantSign ⟨(Nat.le_of_ble_eq_true rfl), (Nat.le_of_ble_eq_true rfl)⟩ rfl hl.1 rfl (Nat.le_of_ble_eq_true rfl) dX11_nightStep_282) (fun r3 u2 H locs hw h => ?_)
    exact x_zret _ C hw h rfl dX11_nightStep_285
  · have h := h.2 c1
    refine lv_aload_n hx hb dX11_nightStep_228 rfl (lv_at hl 0 rfl) ?_
    refine lv_dup hx hb dX11_nightStep_229 rfl ?_
    refine x_geti (ci := 11) C hw 21 (xoM_272 hM) rfl inlX11 (by decide) rfl rfl xw_824 dX11_nightStep_230 ?_
    refine lv_iconst (v := 1) hx hb dX11_nightStep_233 (by decide) ?_
    refine lv_isub hx hb dX11_nightStep_234 ?_
    obtain ⟨u4, eu4⟩ : ∃ q : xM, q = si u 272 21 ((gi u 272 21) - (1 : Int32)) := ⟨_, rfl⟩
    have h := h u4 eu4
    refine x_puti (ci := 11) (ty := .int) C hw 21 (xoM_272 hM) rfl inlX11 tyX11_ok nmX11 (by decide) rfl rfl xw_824 rfl (by decide +kernel) rfl rfl dX11_nightStep_235 eu4 (fun H locs hw => ?_)
    refine lv_aload_n hx hb dX11_nightStep_238 rfl (lv_at hl 0 rfl) ?_
    refine x_getr (ci := 11) C hw 0 (xoM_272 hM) rfl inlX11 (by decide) rfl rfl xrM_272_0 xw_219 dX11_nightStep_239 ?_
    refine lv_iload_n hx hb dX11_nightStep_242 rfl (lv_at hl 3 rfl) ?_
    refine lv_iconst (v := 4) hx hb dX11_nightStep_243 (by decide) ?_
    refine lv_iadd hx hb dX11_nightStep_244 ?_
    refine lv_aload_n hx hb dX11_nightStep_245 rfl (lv_at hl 0 rfl) ?_
    refine x_getr (ci := 11) C hw 20 (xoM_272 hM) rfl inlX11 (by decide) rfl rfl xrM_272_20 xw_229 dX11_nightStep_246 ?_
    refine lv_aload_n hx hb dX11_nightStep_249 rfl (lv_at hl 0 rfl) ?_
    refine x_geti (ci := 11) C hw 21 (xoM_272 hM) rfl inlX11 (by decide) rfl rfl xw_824 dX11_nightStep_250 ?_
    have c5 := h.1
    have h := h.2
    refine x_iald C hw (xoM_280 hM) c5 dX11_nightStep_253 ?_
    have c6 := h.1
    have h := h.2
    obtain ⟨u7, eu7⟩ : ∃ q : xM, q = si u4 273 (v3 + (4 : Int32)).toNatClampNeg (gi u4 280 (gi u4 272 21).toNatClampNeg) := ⟨_, rfl⟩
    have h := h u7 eu7
    refine x_iast C hw (xoM_273 hM) c6 dX11_nightStep_254 eu7 (fun H locs hw => ?_)
    refine lv_aload_n hx hb dX11_nightStep_255 rfl (lv_at hl 0 rfl) ?_
    refine x_getr (ci := 11) C hw 0 (xoM_272 hM) rfl inlX11 (by decide) rfl rfl xrM_272_0 xw_219 dX11_nightStep_256 ?_
    refine lv_sipush (v := 2256) hx hb dX11_nightStep_259 (by decide) ?_
    refine lv_bipush (v := 6) hx hb dX11_nightStep_262 (by decide) ?_
    refine lv_aload_n hx hb dX11_nightStep_264 rfl (lv_at hl 0 rfl) ?_
    refine x_getr (ci := 11) C hw 20 (xoM_272 hM) rfl inlX11 (by decide) rfl rfl xrM_272_20 xw_229 dX11_nightStep_265 ?_
    refine lv_aload_n hx hb dX11_nightStep_268 rfl (lv_at hl 0 rfl) ?_
    refine x_geti (ci := 11) C hw 21 (xoM_272 hM) rfl inlX11 (by decide) rfl rfl xw_824 dX11_nightStep_269 ?_
    have c8 := h.1
    have h := h.2
    refine x_iald C hw (xoM_280 hM) c8 dX11_nightStep_272 ?_
    refine lv_imul hx hb dX11_nightStep_273 ?_
    refine lv_iadd hx hb dX11_nightStep_274 ?_
    refine lv_iconst (v := 4) hx hb dX11_nightStep_275 (by decide) ?_
    refine lv_iadd hx hb dX11_nightStep_276 ?_
    refine lv_iload_n hx hb dX11_nightStep_277 rfl (lv_at hl 2 rfl) ?_
    have c9 := h.1
    have h := h.2
    obtain ⟨u10, eu10⟩ : ∃ q : xM, q = si u7 273 (((2256 : Int32) + ((6 : Int32) * (gi u7 280 (gi u7 272 21).toNatClampNeg))) + (4 : Int32)).toNatClampNeg v2 := ⟨_, rfl⟩
    have h := h u10 eu10
    refine x_iast C hw (xoM_273 hM) c9 dX11_nightStep_278 eu10 (fun H locs hw => ?_)
    refine lv_aload_n hx hb dX11_nightStep_279 rfl (lv_at hl 0 rfl) ?_
    refine lv_bipush (v := 59) hx hb dX11_nightStep_280 (by decide) ?_
    refine x_callz hw (x_runV (ci := 11) C hw (m_X11_wantSign l C.2.2.2.2.2.2.2.2.1 hM h) (xoM_272 hM) rfl (x_gV xw_719 xw_720 xw_721 xw_5 xw_722) rfl rfl qX11_wantSign ⟨(Nat.le_of_ble_eq_true rfl), (Nat.le_of_ble_eq_true rfl)⟩ rfl hl.1 rfl (Nat.le_of_ble_eq_true rfl) dX11_nightStep_282) (fun r12 u11 H locs hw h => ?_)
    exact x_zret _ C hw h rfl dX11_nightStep_285
set_option maxHeartbeats 4000000 in
set_option maxRecDepth 100000 in
theorem s_X11_nightStep_L147 {Qf : Bool → xM → Prop} (C : x_C p s m args meth c g RX11 cX11_nightStep 6 (some .boolean)) (hM : xpM g) : ∀ (nn : Nat) {v1 : Int32} {v2 : Int32} {v3 : Int32} {v4 : Bool} {v5 : Int32} {u : xM} {H : Heap} {locs : List Loc} {ls : Array Slot} (hw : x_W g s.heap H locs u) (hl : lv_has ls 6 [(0, .ref (xad g 272)), (1, .int v1), (2, .int v2), (3, .int v3), (4, .int (xb v4)), (5, .int v5)]) (h : p_X11_nightStep_L147 Qf nn v1 v2 v3 v4 v5 u), W p l e (x_rm 11 316) s m args below meth c H locs 0 0 (MQ below (x_Qz g Qf) args s 0 0 (x_A g)) (F0 m 147 ls []) := by
  intro nn
  induction nn with
  | zero => intro v1 v2 v3 v4 v5 u H locs ls hw hl h; exact h.elim
  | succ nn ih =>
    intro v1 v2 v3 v4 v5 u H locs ls hw hl h
    unfold p_X11_nightStep_L147 at h
    have hx := C.1
    have hb := C.2.1
    refine lv_iload hx hb dX11_nightStep_147 (lv_at hl 5 rfl) ?_
    refine lv_bipush (v := 6) hx hb dX11_nightStep_149 (by decide) ?_
    refine lv_icmp_ge (tgt := 170) hx hb dX11_nightStep_151 (by decide) (fun c1 => ?_) (fun c1 => ?_)
    · have h := h.1 c1
      refine lv_aload_n hx hb dX11_nightStep_170 rfl (lv_at hl 0 rfl) ?_
      refine x_getr (ci := 11) C hw 0 (xoM_272 hM) rfl inlX11 (by decide) rfl rfl xrM_272_0 xw_219 dX11_nightStep_171 ?_
      refine lv_sipush (v := 2100) hx hb dX11_nightStep_174 (by decide) ?_
      refine lv_dup2_11 hx hb dX11_nightStep_177 rfl rfl ?_
      have c2 := h.1
      have h := h.2
      refine x_iald C hw (xoM_273 hM) c2 dX11_nightStep_178 ?_
      refine lv_iconst (v := 1) hx hb dX11_nightStep_179 (by decide) ?_
      refine lv_iadd hx hb dX11_nightStep_180 ?_
      have c3 := h.1
      have h := h.2
      obtain ⟨u4, eu4⟩ : ∃ q : xM, q = si u 273 (2100 : Int32).toNatClampNeg ((gi u 273 (2100 : Int32).toNatClampNeg) + (1 : Int32)) := ⟨_, rfl⟩
      have h := h u4 eu4
      refine x_iast C hw (xoM_273 hM) c3 dX11_nightStep_181 eu4 (fun H locs hw => ?_)
      refine lv_aload_n hx hb dX11_nightStep_182 rfl (lv_at hl 0 rfl) ?_
      refine x_callv hw (x_runV (ci := 11) C hw (m_X11_ahead l C.2.2.2.2.2.2.2.2.1 hM h) (xoM_272 hM) rfl (x_gV xw_639 xw_640 xw_641 xw_5 xw_642) rfl rfl qX11_ahead ⟨(Nat.le_of_ble_eq_true rfl), (Nat.le_of_ble_eq_true rfl)⟩ rfl hl.1 rfl (Nat.le_of_ble_eq_true rfl) dX11_nightStep_183) (fun u5 H locs hw h => ?_)
      refine lv_aload_n hx hb dX11_nightStep_186 rfl (lv_at hl 0 rfl) ?_
      refine lv_iload_n hx hb dX11_nightStep_187 rfl (lv_at hl 1 rfl) ?_
      refine lv_iload_n hx hb dX11_nightStep_188 rfl (lv_at hl 3 rfl) ?_
      refine x_callz hw (x_runV (ci := 11) C hw (m_X11_nightOrder l C.2.2.2.2.2.2.2.2.1 hM h) (xoM_272 hM) rfl (x_gV xw_830 xw_831 xw_832 xw_5 xw_833) rfl rfl qX11_nightOrder ⟨(Nat.le_of_ble_eq_true rfl), (Nat.le_of_ble_eq_true rfl)⟩ rfl hl.1 rfl (Nat.le_of_ble_eq_true rfl) dX11_nightStep_189) (fun r7 u6 H locs hw h => ?_)
      refine lv_if_ne (tgt := 197) hx hb dX11_nightStep_192 (by decide) (fun c8 => ?_) (fun c8 => ?_)
      · have h := h.1 (xb_t c8)
        refine lv_iload hx hb dX11_nightStep_197 (lv_at hl 4 rfl) ?_
        refine lv_if_eq (tgt := 222) hx hb dX11_nightStep_199 (by decide) (fun c9 => ?_) (fun c9 => ?_)
        · have h := h.1 (xb_f c9)
          exact s_X11_nightStep_L222 C hM hw (lv_sub hl [0, 1, 2, 3] rfl) h
        · have h := h.2 (xb_t c9)
          refine lv_aload_n hx hb dX11_nightStep_202 rfl (lv_at hl 0 rfl) ?_
          refine x_getr (ci := 11) C hw 20 (xoM_272 hM) rfl inlX11 (by decide) rfl rfl xrM_272_20 xw_229 dX11_nightStep_203 ?_
          refine lv_aload_n hx hb dX11_nightStep_206 rfl (lv_at hl 0 rfl) ?_
          refine x_geti (ci := 11) C hw 21 (xoM_272 hM) rfl inlX11 (by decide) rfl rfl xw_824 dX11_nightStep_207 ?_
          refine lv_iload_n hx hb dX11_nightStep_210 rfl (lv_at hl 2 rfl) ?_
          have c10 := h.1
          have h := h.2
          obtain ⟨u11, eu11⟩ : ∃ q : xM, q = si u6 280 (gi u6 272 21).toNatClampNeg v2 := ⟨_, rfl⟩
          have h := h u11 eu11
          refine x_iast C hw (xoM_280 hM) c10 dX11_nightStep_211 eu11 (fun H locs hw => ?_)
          refine lv_aload_n hx hb dX11_nightStep_212 rfl (lv_at hl 0 rfl) ?_
          refine lv_dup hx hb dX11_nightStep_213 rfl ?_
          refine x_geti (ci := 11) C hw 21 (xoM_272 hM) rfl inlX11 (by decide) rfl rfl xw_824 dX11_nightStep_214 ?_
          refine lv_iconst (v := 1) hx hb dX11_nightStep_217 (by decide) ?_
          refine lv_iadd hx hb dX11_nightStep_218 ?_
          obtain ⟨u12, eu12⟩ : ∃ q : xM, q = si u11 272 21 ((gi u11 272 21) + (1 : Int32)) := ⟨_, rfl⟩
          have h := h u12 eu12
          refine x_puti (ci := 11) (ty := .int) C hw 21 (xoM_272 hM) rfl inlX11 tyX11_ok nmX11 (by decide) rfl rfl xw_824 rfl (by decide +kernel) rfl rfl dX11_nightStep_219 eu12 (fun H locs hw => ?_)
          exact s_X11_nightStep_L222 C hM hw (lv_sub hl [0, 1, 2, 3] rfl) h
      · have h := h.2 (xb_f c8)
        refine lv_iconst (v := 0) hx hb dX11_nightStep_195 (by decide) ?_
        exact x_zret false C hw h rfl dX11_nightStep_196
    · have h := h.2 c1
      refine lv_aload_n hx hb dX11_nightStep_154 rfl (lv_at hl 0 rfl) ?_
      refine x_getr (ci := 11) C hw 0 (xoM_272 hM) rfl inlX11 (by decide) rfl rfl xrM_272_0 xw_219 dX11_nightStep_155 ?_
      refine lv_iload_n hx hb dX11_nightStep_158 rfl (lv_at hl 3 rfl) ?_
      refine lv_iload hx hb dX11_nightStep_159 (lv_at hl 5 rfl) ?_
      refine lv_iadd hx hb dX11_nightStep_161 ?_
      refine lv_iconst (v := 0) hx hb dX11_nightStep_162 (by decide) ?_
      have c13 := h.1
      have h := h.2
      obtain ⟨u14, eu14⟩ : ∃ q : xM, q = si u 273 (v3 + v5).toNatClampNeg (0 : Int32) := ⟨_, rfl⟩
      have h := h u14 eu14
      refine x_iast C hw (xoM_273 hM) c13 dX11_nightStep_163 eu14 (fun H locs hw => ?_)
      obtain ⟨x15, ex15⟩ : ∃ y : Int32, y = v5 + 1 := ⟨_, rfl⟩
      have h := h x15 ex15
      refine lv_iinc (v := x15) (lv' := [(5, .int x15), (0, .ref (xad g 272)), (1, .int v1), (2, .int v2), (3, .int v3), (4, .int (xb v4))]) hx hb dX11_nightStep_164 hl (k := 5) rfl (by rw [ex15]; rfl) (by decide) rfl (fun ls hl => ?_)
      refine lv_goto (tgt := 147) hx hb dX11_nightStep_167 (by decide) ?_
      exact ih hw (lv_sub hl [1, 2, 3, 4, 5, 0] rfl) h
set_option maxHeartbeats 4000000 in
set_option maxRecDepth 100000 in
theorem s_X11_nightStep_L133 {Qf : Bool → xM → Prop} (C : x_C p s m args meth c g RX11 cX11_nightStep 6 (some .boolean)) (hM : xpM g) {v1 : Int32} {v2 : Int32} {v3 : Int32} {v4 : Bool} {w1 : Int32} {w2 : Bool} {u : xM} {H : Heap} {locs : List Loc} {ls : Array Slot} (hw : x_W g s.heap H locs u) (hl : lv_has ls 6 [(0, .ref (xad g 272)), (1, .int v1), (2, .int v2), (3, .int v3), (4, .int (xb v4))]) (h : p_X11_nightStep_L133 Qf v1 v2 v3 v4 w1 w2 u) : W p l e (x_rm 11 316) s m args below meth c H locs 0 0 (MQ below (x_Qz g Qf) args s 0 0 (x_A g)) (F0 m 133 ls [.int (xb w2), .int w1, .ref (xad g 272)]) := by
  unfold p_X11_nightStep_L133 at h
  have hx := C.1
  have hb := C.2.1
  refine lv_iadd hx hb dX11_nightStep_133 ?_
  obtain ⟨u1, eu1⟩ : ∃ q : xM, q = si u 272 22 (w1 + (xb w2)) := ⟨_, rfl⟩
  have h := h u1 eu1
  refine x_puti (ci := 11) (ty := .int) C hw 22 (xoM_272 hM) rfl inlX11 tyX11_ok nmX11 (by decide) rfl rfl xw_825 rfl (by decide +kernel) rfl rfl dX11_nightStep_134 eu1 (fun H locs hw => ?_)
  refine lv_aload_n hx hb dX11_nightStep_137 rfl (lv_at hl 0 rfl) ?_
  refine x_getr (ci := 11) C hw 0 (xoM_272 hM) rfl inlX11 (by decide) rfl rfl xrM_272_0 xw_219 dX11_nightStep_138 ?_
  refine lv_iload_n hx hb dX11_nightStep_141 rfl (lv_at hl 3 rfl) ?_
  refine lv_iload_n hx hb dX11_nightStep_142 rfl (lv_at hl 1 rfl) ?_
  have c2 := h.1
  have h := h.2
  obtain ⟨u3, eu3⟩ : ∃ q : xM, q = si u1 273 v3.toNatClampNeg v1 := ⟨_, rfl⟩
  have h := h u3 eu3
  refine x_iast C hw (xoM_273 hM) c2 dX11_nightStep_143 eu3 (fun H locs hw => ?_)
  refine lv_iconst (v := 1) hx hb dX11_nightStep_144 (by decide) ?_
  refine lv_istore (lv' := [(5, .int 1), (0, .ref (xad g 272)), (1, .int v1), (2, .int v2), (3, .int v3), (4, .int (xb v4))]) hx hb dX11_nightStep_145 hl (by decide) rfl (fun ls hl => ?_)
  obtain ⟨n9, h⟩ := h
  exact s_X11_nightStep_L147 C hM n9 hw (lv_sub hl [1, 2, 3, 4, 5, 0] rfl) h
set_option maxHeartbeats 4000000 in
set_option maxRecDepth 100000 in
theorem s_X11_nightStep_L117 {Qf : Bool → xM → Prop} (C : x_C p s m args meth c g RX11 cX11_nightStep 6 (some .boolean)) (hM : xpM g) {v1 : Int32} {v2 : Int32} {v3 : Int32} {v4 : Bool} {u : xM} {H : Heap} {locs : List Loc} {ls : Array Slot} (hw : x_W g s.heap H locs u) (hl : lv_has ls 6 [(0, .ref (xad g 272)), (1, .int v1), (2, .int v2), (3, .int v3), (4, .int (xb v4))]) (h : p_X11_nightStep_L117 Qf v1 v2 v3 v4 u) : W p l e (x_rm 11 316) s m args below meth c H locs 0 0 (MQ below (x_Qz g Qf) args s 0 0 (x_A g)) (F0 m 117 ls []) := by
  unfold p_X11_nightStep_L117 at h
  have hx := C.1
  have hb := C.2.1
  refine lv_aload_n hx hb dX11_nightStep_117 rfl (lv_at hl 0 rfl) ?_
  refine lv_dup hx hb dX11_nightStep_118 rfl ?_
  refine x_geti (ci := 11) C hw 22 (xoM_272 hM) rfl inlX11 (by decide) rfl rfl xw_825 dX11_nightStep_119 ?_
  refine lv_iload_n hx hb dX11_nightStep_122 rfl (lv_at hl 1 rfl) ?_
  refine lv_bipush (v := 24) hx hb dX11_nightStep_123 (by decide) ?_
  refine lv_icmp_ne (tgt := 132) hx hb dX11_nightStep_125 (by decide) (fun c1 => ?_) (fun c1 => ?_)
  · have h := h.1 c1
    refine lv_iconst (v := 1) hx hb dX11_nightStep_132 (by decide) ?_
    exact s_X11_nightStep_L133 C hM hw (lv_sub hl [0, 1, 2, 3, 4] rfl) h
  · have h := h.2 c1
    refine lv_iconst (v := 0) hx hb dX11_nightStep_128 (by decide) ?_
    refine lv_goto (tgt := 133) hx hb dX11_nightStep_129 (by decide) ?_
    exact s_X11_nightStep_L133 C hM hw (lv_sub hl [0, 1, 2, 3, 4] rfl) h
set_option maxHeartbeats 4000000 in
set_option maxRecDepth 100000 in
theorem s_X11_nightStep_L97 {Qf : Bool → xM → Prop} (C : x_C p s m args meth c g RX11 cX11_nightStep 6 (some .boolean)) (hM : xpM g) {v1 : Int32} {v2 : Int32} {v3 : Int32} {v4 : Bool} {u : xM} {H : Heap} {locs : List Loc} {ls : Array Slot} (hw : x_W g s.heap H locs u) (hl : lv_has ls 6 [(0, .ref (xad g 272)), (1, .int v1), (2, .int v2), (3, .int v3), (4, .int (xb v4))]) (h : p_X11_nightStep_L97 Qf v1 v2 v3 v4 u) : W p l e (x_rm 11 316) s m args below meth c H locs 0 0 (MQ below (x_Qz g Qf) args s 0 0 (x_A g)) (F0 m 97 ls []) := by
  unfold p_X11_nightStep_L97 at h
  have hx := C.1
  have hb := C.2.1
  refine lv_iload hx hb dX11_nightStep_97 (lv_at hl 4 rfl) ?_
  refine lv_if_eq (tgt := 117) hx hb dX11_nightStep_99 (by decide) (fun c1 => ?_) (fun c1 => ?_)
  · have h := h.1 (xb_f c1)
    exact s_X11_nightStep_L117 C hM hw (lv_sub hl [0, 1, 2, 3, 4] rfl) h
  · have h := h.2 (xb_t c1)
    refine lv_aload_n hx hb dX11_nightStep_102 rfl (lv_at hl 0 rfl) ?_
    refine x_geti (ci := 11) C hw 21 (xoM_272 hM) rfl inlX11 (by decide) rfl rfl xw_824 dX11_nightStep_103 ?_
    refine lv_iconst (v := 3) hx hb dX11_nightStep_106 (by decide) ?_
    refine lv_icmp_ne (tgt := 117) hx hb dX11_nightStep_107 (by decide) (fun c2 => ?_) (fun c2 => ?_)
    · have h := h.1 c2
      exact s_X11_nightStep_L117 C hM hw (lv_sub hl [0, 1, 2, 3, 4] rfl) h
    · have h := h.2 c2
      refine lv_aload_n hx hb dX11_nightStep_110 rfl (lv_at hl 0 rfl) ?_
      refine lv_bipush (v := 7) hx hb dX11_nightStep_111 (by decide) ?_
      refine x_callz hw (x_runV (ci := 11) C hw (m_X11_errs l C.2.2.2.2.2.2.2.2.1 hM h) (xoM_272 hM) rfl (x_gV xw_679 xw_680 xw_681 xw_5 xw_682) rfl rfl qX11_errs ⟨(Nat.le_of_ble_eq_true rfl), (Nat.le_of_ble_eq_true rfl)⟩ rfl hl.1 rfl (Nat.le_of_ble_eq_true rfl) dX11_nightStep_113) (fun r4 u3 H locs hw h => ?_)
      exact x_zret _ C hw h rfl dX11_nightStep_116
set_option maxHeartbeats 4000000 in
set_option maxRecDepth 100000 in
theorem s_X11_nightStep_L75 {Qf : Bool → xM → Prop} (C : x_C p s m args meth c g RX11 cX11_nightStep 6 (some .boolean)) (hM : xpM g) {v1 : Int32} {v2 : Int32} {v3 : Int32} {v4 : Bool} {u : xM} {H : Heap} {locs : List Loc} {ls : Array Slot} (hw : x_W g s.heap H locs u) (hl : lv_has ls 6 [(0, .ref (xad g 272)), (1, .int v1), (2, .int v2), (3, .int v3), (4, .int (xb v4))]) (h : p_X11_nightStep_L75 Qf v1 v2 v3 v4 u) : W p l e (x_rm 11 316) s m args below meth c H locs 0 0 (MQ below (x_Qz g Qf) args s 0 0 (x_A g)) (F0 m 75 ls []) := by
  unfold p_X11_nightStep_L75 at h
  have hx := C.1
  have hb := C.2.1
  refine lv_iload_n hx hb dX11_nightStep_75 rfl (lv_at hl 1 rfl) ?_
  refine lv_bipush (v := 24) hx hb dX11_nightStep_76 (by decide) ?_
  refine lv_icmp_eq (tgt := 97) hx hb dX11_nightStep_78 (by decide) (fun c1 => ?_) (fun c1 => ?_)
  · have h := h.1 c1
    exact s_X11_nightStep_L97 C hM hw (lv_sub hl [0, 1, 2, 3, 4] rfl) h
  · have h := h.2 c1
    refine lv_aload_n hx hb dX11_nightStep_81 rfl (lv_at hl 0 rfl) ?_
    refine x_geti (ci := 11) C hw 22 (xoM_272 hM) rfl inlX11 (by decide) rfl rfl xw_825 dX11_nightStep_82 ?_
    refine lv_bipush (v := 30) hx hb dX11_nightStep_85 (by decide) ?_
    refine lv_icmp_ne (tgt := 97) hx hb dX11_nightStep_87 (by decide) (fun c2 => ?_) (fun c2 => ?_)
    · have h := h.1 c2
      exact s_X11_nightStep_L97 C hM hw (lv_sub hl [0, 1, 2, 3, 4] rfl) h
    · have h := h.2 c2
      refine lv_aload_n hx hb dX11_nightStep_90 rfl (lv_at hl 0 rfl) ?_
      refine lv_bipush (v := 6) hx hb dX11_nightStep_91 (by decide) ?_
      refine x_callz hw (x_runV (ci := 11) C hw (m_X11_errs l C.2.2.2.2.2.2.2.2.1 hM h) (xoM_272 hM) rfl (x_gV xw_679 xw_680 xw_681 xw_5 xw_682) rfl rfl qX11_errs ⟨(Nat.le_of_ble_eq_true rfl), (Nat.le_of_ble_eq_true rfl)⟩ rfl hl.1 rfl (Nat.le_of_ble_eq_true rfl) dX11_nightStep_93) (fun r4 u3 H locs hw h => ?_)
      exact x_zret _ C hw h rfl dX11_nightStep_96
set_option maxHeartbeats 4000000 in
set_option maxRecDepth 100000 in
theorem s_X11_nightStep_L42 {Qf : Bool → xM → Prop} (C : x_C p s m args meth c g RX11 cX11_nightStep 6 (some .boolean)) (hM : xpM g) {v1 : Int32} {v2 : Int32} {v3 : Int32} {w0 : Bool} {u : xM} {H : Heap} {locs : List Loc} {ls : Array Slot} (hw : x_W g s.heap H locs u) (hl : lv_has ls 6 [(0, .ref (xad g 272)), (1, .int v1), (2, .int v2), (3, .int v3)]) (h : p_X11_nightStep_L42 Qf v1 v2 v3 w0 u) : W p l e (x_rm 11 316) s m args below meth c H locs 0 0 (MQ below (x_Qz g Qf) args s 0 0 (x_A g)) (F0 m 42 ls [.int (xb w0)]) := by
  unfold p_X11_nightStep_L42 at h
  have hx := C.1
  have hb := C.2.1
  refine lv_istore (lv' := [(4, .int (xb w0)), (0, .ref (xad g 272)), (1, .int v1), (2, .int v2), (3, .int v3)]) hx hb dX11_nightStep_42 hl (by decide) rfl (fun ls hl => ?_)
  refine lv_iload_n hx hb dX11_nightStep_44 rfl (lv_at hl 2 rfl) ?_
  refine lv_bipush (v := 17) hx hb dX11_nightStep_45 (by decide) ?_
  refine lv_icmp_lt (tgt := 69) hx hb dX11_nightStep_47 (by decide) (fun c1 => ?_) (fun c1 => ?_)
  · have h := h.1 c1
    refine lv_aload_n hx hb dX11_nightStep_69 rfl (lv_at hl 1 rfl) ?_
    refine lv_iconst (v := 2) hx hb dX11_nightStep_70 (by decide) ?_
    refine x_callz hw (x_runV (ci := 11) C hw (m_X11_errs l C.2.2.2.2.2.2.2.2.1 hM h) (xoM_272 hM) rfl (x_gV xw_679 xw_680 xw_681 xw_5 xw_682) rfl rfl qX11_errs ⟨(Nat.le_of_ble_eq_true rfl), (Nat.le_of_ble_eq_true rfl)⟩ rfl hl.1 rfl (Nat.le_of_ble_eq_true rfl) dX11_nightStep_71) (fun r3 u2 H locs hw h => ?_)
    exact x_zret _ C hw h rfl dX11_nightStep_74
  · have h := h.2 c1
    refine lv_iload_n hx hb dX11_nightStep_50 rfl (lv_at hl 2 rfl) ?_
    refine lv_bipush (v := 25) hx hb dX11_nightStep_51 (by decide) ?_
    refine lv_icmp_gt (tgt := 69) hx hb dX11_nightStep_53 (by decide) (fun c4 => ?_) (fun c4 => ?_)
    · have h := h.1 c4
      refine lv_aload_n hx hb dX11_nightStep_69 rfl (lv_at hl 1 rfl) ?_
      refine lv_iconst (v := 2) hx hb dX11_nightStep_70 (by decide) ?_
      refine x_callz hw (x_runV (ci := 11) C hw (m_X11_errs l C.2.2.2.2.2.2.2.2.1 hM h) (xoM_272 hM) rfl (x_gV xw_679 xw_680 xw_681 xw_5 xw_682) rfl rfl qX11_errs ⟨(Nat.le_of_ble_eq_true rfl), (Nat.le_of_ble_eq_true rfl)⟩ rfl hl.1 rfl (Nat.le_of_ble_eq_true rfl) dX11_nightStep_71) (fun r6 u5 H locs hw h => ?_)
      exact x_zret _ C hw h rfl dX11_nightStep_74
    · have h := h.2 c4
      refine lv_iload_n hx hb dX11_nightStep_56 rfl (lv_at hl 2 rfl) ?_
      refine lv_bipush (v := 24) hx hb dX11_nightStep_57 (by decide) ?_
      refine lv_icmp_ne (tgt := 75) hx hb dX11_nightStep_59 (by decide) (fun c7 => ?_) (fun c7 => ?_)
      · have h := h.1 c7
        exact s_X11_nightStep_L75 C hM hw (lv_sub hl [1, 2, 3, 4, 0] rfl) h
      · have h := h.2 c7
        refine lv_aload_n hx hb dX11_nightStep_62 rfl (lv_at hl 1 rfl) ?_
        refine x_geti (ci := 11) C hw 21 (xoM_272 hM) rfl inlX11 (by decide) rfl rfl xw_824 dX11_nightStep_63 ?_
        refine lv_if_ne (tgt := 75) hx hb dX11_nightStep_66 (by decide) (fun c8 => ?_) (fun c8 => ?_)
        · have h := h.1 c8
          exact s_X11_nightStep_L75 C hM hw (lv_sub hl [1, 2, 3, 4, 0] rfl) h
        · have h := h.2 c8
          refine lv_aload_n hx hb dX11_nightStep_69 rfl (lv_at hl 1 rfl) ?_
          refine lv_iconst (v := 2) hx hb dX11_nightStep_70 (by decide) ?_
          refine x_callz hw (x_runV (ci := 11) C hw (m_X11_errs l C.2.2.2.2.2.2.2.2.1 hM h) (xoM_272 hM) rfl (x_gV xw_679 xw_680 xw_681 xw_5 xw_682) rfl rfl qX11_errs ⟨(Nat.le_of_ble_eq_true rfl), (Nat.le_of_ble_eq_true rfl)⟩ rfl hl.1 rfl (Nat.le_of_ble_eq_true rfl) dX11_nightStep_71) (fun r10 u9 H locs hw h => ?_)
          exact x_zret _ C hw h rfl dX11_nightStep_74
set_option maxHeartbeats 4000000 in
set_option maxRecDepth 100000 in
theorem s_X11_nightStep_L37 {Qf : Bool → xM → Prop} (C : x_C p s m args meth c g RX11 cX11_nightStep 6 (some .boolean)) (hM : xpM g) {v1 : Int32} {v2 : Int32} {v3 : Int32} {u : xM} {H : Heap} {locs : List Loc} {ls : Array Slot} (hw : x_W g s.heap H locs u) (hl : lv_has ls 6 [(0, .ref (xad g 272)), (1, .int v1), (2, .int v2), (3, .int v3)]) (h : p_X11_nightStep_L37 Qf v1 v2 v3 u) : W p l e (x_rm 11 316) s m args below meth c H locs 0 0 (MQ below (x_Qz g Qf) args s 0 0 (x_A g)) (F0 m 37 ls []) := by
  unfold p_X11_nightStep_L37 at h
  have hx := C.1
  have hb := C.2.1
  refine lv_iconst (v := 1) hx hb dX11_nightStep_37 (by decide) ?_
  refine lv_goto (tgt := 42) hx hb dX11_nightStep_38 (by decide) ?_
  exact s_X11_nightStep_L42 C hM hw (lv_sub hl [0, 1, 2, 3] rfl) h
set_option maxHeartbeats 4000000 in
set_option maxRecDepth 100000 in
theorem s_X11_nightStep {Qf : Bool → xM → Prop} (C : x_C p s m args meth c g RX11 cX11_nightStep 6 (some .boolean)) (hM : xpM g) {u : xM} {H : Heap} {locs : List Loc} {ls : Array Slot} (hw : x_W g s.heap H locs u) (hl : lv_has ls 6 [(0, .ref (xad g 272))]) (h : p_X11_nightStep  u Qf) : W p l e (x_rm 11 316) s m args below meth c H locs 0 0 (MQ below (x_Qz g Qf) args s 0 0 (x_A g)) (F0 m 0 ls []) := by
  unfold p_X11_nightStep at h
  have hx := C.1
  have hb := C.2.1
  refine lv_aload_n hx hb dX11_nightStep_0 rfl (lv_at hl 0 rfl) ?_
  refine va_ldcS hx hb C.2.2.2.1 C.2.2.2.2.2.2.2.2.2.2.2.2.2 dX11_nightStep_1 ?_
  refine x_calli hw (x_runV (ci := 11) C hw (m_X11_inWords l C.2.2.2.2.2.2.2.2.1 hM h) (xoM_272 hM) rfl (x_gV xw_665 xw_666 xw_667 xw_5 xw_668) rfl rfl qX11_inWords ⟨(Nat.le_of_ble_eq_true rfl), (Nat.le_of_ble_eq_true rfl)⟩ rfl hl.1 rfl (Nat.le_of_ble_eq_true rfl) dX11_nightStep_3) (fun r2 u1 H locs hw h => ?_)
  refine lv_istore_n (lv' := [(1, .int r2), (0, .ref (xad g 272))]) hx hb dX11_nightStep_6 rfl hl (by decide) rfl (fun ls hl => ?_)
  refine lv_aload_n hx hb dX11_nightStep_7 rfl (lv_at hl 1 rfl) ?_
  refine x_getr (ci := 11) C hw 0 (xoM_272 hM) rfl inlX11 (by decide) rfl rfl xrM_272_0 xw_219 dX11_nightStep_8 ?_
  refine lv_sipush (v := 2100) hx hb dX11_nightStep_11 (by decide) ?_
  have c3 := h.1
  have h := h.2
  refine x_iald C hw (xoM_273 hM) c3 dX11_nightStep_14 ?_
  refine lv_topi (fun x4 ex4 => ?_)
  have h := h x4 ex4
  refine lv_istore_n (lv' := [(2, .int x4), (1, .int r2), (0, .ref (xad g 272))]) hx hb dX11_nightStep_15 rfl hl (by decide) rfl (fun ls hl => ?_)
  refine lv_sipush (v := 2256) hx hb dX11_nightStep_16 (by decide) ?_
  refine lv_bipush (v := 6) hx hb dX11_nightStep_19 (by decide) ?_
  refine lv_iload_n hx hb dX11_nightStep_21 rfl (lv_at hl 0 rfl) ?_
  refine lv_imul hx hb dX11_nightStep_22 ?_
  refine lv_iadd hx hb dX11_nightStep_23 ?_
  refine lv_topi (fun x5 ex5 => ?_)
  have h := h x5 ex5
  refine lv_istore_n (lv' := [(3, .int x5), (2, .int x4), (1, .int r2), (0, .ref (xad g 272))]) hx hb dX11_nightStep_24 rfl hl (by decide) rfl (fun ls hl => ?_)
  refine lv_iload_n hx hb dX11_nightStep_25 rfl (lv_at hl 2 rfl) ?_
  refine lv_bipush (v := 22) hx hb dX11_nightStep_26 (by decide) ?_
  refine lv_icmp_eq (tgt := 37) hx hb dX11_nightStep_28 (by decide) (fun c6 => ?_) (fun c6 => ?_)
  · have h := h.1 c6
    exact s_X11_nightStep_L37 C hM hw (lv_sub hl [3, 2, 1, 0] rfl) h
  · have h := h.2 c6
    refine lv_iload_n hx hb dX11_nightStep_31 rfl (lv_at hl 2 rfl) ?_
    refine lv_bipush (v := 23) hx hb dX11_nightStep_32 (by decide) ?_
    refine lv_icmp_ne (tgt := 41) hx hb dX11_nightStep_34 (by decide) (fun c7 => ?_) (fun c7 => ?_)
    · have h := h.1 c7
      refine lv_iconst (v := 0) hx hb dX11_nightStep_41 (by decide) ?_
      exact s_X11_nightStep_L42 C hM hw (lv_sub hl [3, 2, 1, 0] rfl) h
    · have h := h.2 c7
      exact s_X11_nightStep_L37 C hM hw (lv_sub hl [3, 2, 1, 0] rfl) h
set_option maxHeartbeats 4000000 in
set_option maxRecDepth 100000 in
theorem m_X11_nightStep (l : Launch) {g : xG} (hD : x_D g) (hM : xpM g) {u : xM} {Qf : Bool → xM → Prop} (h : p_X11_nightStep  u Qf) : Met l yX11_nightStep (Cond.code yX11_nightStep cX11_nightStep 6 (some .boolean) :: wsL_law) (x_rm 11 316) (va_Pc [.ref (xad g 272)] (x_B g u)) (x_Qz g Qf) 0 0 (x_A g) := by
  refine Met.ofW (cc := cX11_nightStep) (maxL := 6) (ret := (some .boolean)) (by decide) rfl ?_
  intro p e s m args below meth c s₁ B hml hv
  obtain ⟨rfl, hB⟩ := hv
  obtain ⟨C, hw⟩ := x_start B hml hD hB
  have hl := lv_entry [.ref (xad g 272)] (n := 6) (Nat.le_of_ble_eq_true rfl)
  rw [lg_entry_eq]
  exact s_X11_nightStep C hM hw hl h
set_option maxHeartbeats 4000000 in
set_option maxRecDepth 100000 in
theorem s_X11_nights_L102 {Qf : Int32 → xM → Prop} (C : x_C p s m args meth c g RX11 cX11_nights 4 (some .int)) (hM : xpM g) : ∀ (nn : Nat) {v3 : Int32} {u : xM} {H : Heap} {locs : List Loc} {ls : Array Slot} (hw : x_W g s.heap H locs u) (hl : lv_has ls 4 [(0, .ref (xad g 272)), (3, .int v3)]) (h : p_X11_nights_L102 Qf nn v3 u), W p l e (x_rm 12 341) s m args below meth c H locs 0 0 (MQ below (x_Qi g Qf) args s 0 0 (x_A g)) (F0 m 102 ls []) := by
  intro nn
  induction nn with
  | zero => intro v3 u H locs ls hw hl h; exact h.elim
  | succ nn ih =>
    intro v3 u H locs ls hw hl h
    unfold p_X11_nights_L102 at h
    have hx := C.1
    have hb := C.2.1
    refine lv_iload_n hx hb dX11_nights_102 rfl (lv_at hl 1 rfl) ?_
    refine lv_sipush (v := 520) hx hb dX11_nights_103 (by decide) ?_
    refine lv_icmp_ge (tgt := 131) hx hb dX11_nights_106 (by decide) (fun c1 => ?_) (fun c1 => ?_)
    · have h := h.1 c1
      refine lv_aload_n hx hb dX11_nights_131 rfl (lv_at hl 0 rfl) ?_
      refine lv_aload_n hx hb dX11_nights_132 rfl (lv_at hl 0 rfl) ?_
      refine x_geti (ci := 11) C hw 22 (xoM_272 hM) rfl inlX11 (by decide) rfl rfl xw_825 dX11_nights_133 ?_
      refine x_calli hw (x_runV (ci := 11) C hw (m_X11_taken l C.2.2.2.2.2.2.2.2.1 hM h) (xoM_272 hM) rfl (x_gV xw_727 xw_728 xw_729 xw_5 xw_730) rfl rfl qX11_taken ⟨(Nat.le_of_ble_eq_true rfl), (Nat.le_of_ble_eq_true rfl)⟩ rfl hl.1 rfl (Nat.le_of_ble_eq_true rfl) dX11_nights_136) (fun r3 u2 H locs hw h => ?_)
      exact x_iret C hw h dX11_nights_139
    · have h := h.2 c1
      refine lv_aload_n hx hb dX11_nights_109 rfl (lv_at hl 0 rfl) ?_
      refine x_getr (ci := 11) C hw 0 (xoM_272 hM) rfl inlX11 (by decide) rfl rfl xrM_272_0 xw_219 dX11_nights_110 ?_
      refine lv_iload_n hx hb dX11_nights_113 rfl (lv_at hl 1 rfl) ?_
      refine lv_aload_n hx hb dX11_nights_114 rfl (lv_at hl 0 rfl) ?_
      refine x_getr (ci := 11) C hw 0 (xoM_272 hM) rfl inlX11 (by decide) rfl rfl xrM_272_0 xw_219 dX11_nights_115 ?_
      refine lv_sipush (v := 2096) hx hb dX11_nights_118 (by decide) ?_
      refine lv_iload_n hx hb dX11_nights_121 rfl (lv_at hl 1 rfl) ?_
      refine lv_iadd hx hb dX11_nights_122 ?_
      have c4 := h.1
      have h := h.2
      refine x_iald C hw (xoM_273 hM) c4 dX11_nights_123 ?_
      have c5 := h.1
      have h := h.2
      obtain ⟨u6, eu6⟩ : ∃ q : xM, q = si u 273 v3.toNatClampNeg (gi u 273 ((2096 : Int32) + v3).toNatClampNeg) := ⟨_, rfl⟩
      have h := h u6 eu6
      refine x_iast C hw (xoM_273 hM) c5 dX11_nights_124 eu6 (fun H locs hw => ?_)
      obtain ⟨x7, ex7⟩ : ∃ y : Int32, y = v3 + 1 := ⟨_, rfl⟩
      have h := h x7 ex7
      refine lv_iinc (v := x7) (lv' := [(3, .int x7), (0, .ref (xad g 272))]) hx hb dX11_nights_125 hl (k := 1) rfl (by rw [ex7]; rfl) (by decide) rfl (fun ls hl => ?_)
      refine lv_goto (tgt := 102) hx hb dX11_nights_128 (by decide) ?_
      exact ih hw (lv_sub hl [1, 0] rfl) h
set_option maxHeartbeats 4000000 in
set_option maxRecDepth 100000 in
theorem s_X11_nights_L77 {Qf : Int32 → xM → Prop} (C : x_C p s m args meth c g RX11 cX11_nights 4 (some .int)) (hM : xpM g) {u : xM} {H : Heap} {locs : List Loc} {ls : Array Slot} (hw : x_W g s.heap H locs u) (hl : lv_has ls 4 [(0, .ref (xad g 272))]) (h : p_X11_nights_L77 Qf  u) : W p l e (x_rm 12 341) s m args below meth c H locs 0 0 (MQ below (x_Qi g Qf) args s 0 0 (x_A g)) (F0 m 77 ls []) := by
  unfold p_X11_nights_L77 at h
  have hx := C.1
  have hb := C.2.1
  refine lv_aload_n hx hb dX11_nights_77 rfl (lv_at hl 0 rfl) ?_
  refine x_geti (ci := 11) C hw 18 (xoM_272 hM) rfl inlX11 (by decide) rfl rfl xw_631 dX11_nights_78 ?_
  refine lv_if_ne (tgt := 131) hx hb dX11_nights_81 (by decide) (fun c1 => ?_) (fun c1 => ?_)
  · have h := h.1 c1
    refine lv_aload_n hx hb dX11_nights_131 rfl (lv_at hl 0 rfl) ?_
    refine lv_aload_n hx hb dX11_nights_132 rfl (lv_at hl 0 rfl) ?_
    refine x_geti (ci := 11) C hw 22 (xoM_272 hM) rfl inlX11 (by decide) rfl rfl xw_825 dX11_nights_133 ?_
    refine x_calli hw (x_runV (ci := 11) C hw (m_X11_taken l C.2.2.2.2.2.2.2.2.1 hM h) (xoM_272 hM) rfl (x_gV xw_727 xw_728 xw_729 xw_5 xw_730) rfl rfl qX11_taken ⟨(Nat.le_of_ble_eq_true rfl), (Nat.le_of_ble_eq_true rfl)⟩ rfl hl.1 rfl (Nat.le_of_ble_eq_true rfl) dX11_nights_136) (fun r3 u2 H locs hw h => ?_)
    exact x_iret C hw h dX11_nights_139
  · have h := h.2 c1
    refine lv_aload_n hx hb dX11_nights_84 rfl (lv_at hl 0 rfl) ?_
    refine x_getr (ci := 11) C hw 0 (xoM_272 hM) rfl inlX11 (by decide) rfl rfl xrM_272_0 xw_219 dX11_nights_85 ?_
    refine lv_iconst (v := 4) hx hb dX11_nights_88 (by decide) ?_
    refine lv_aload_n hx hb dX11_nights_89 rfl (lv_at hl 0 rfl) ?_
    refine x_getr (ci := 11) C hw 0 (xoM_272 hM) rfl inlX11 (by decide) rfl rfl xrM_272_0 xw_219 dX11_nights_90 ?_
    refine lv_sipush (v := 2100) hx hb dX11_nights_93 (by decide) ?_
    have c4 := h.1
    have h := h.2
    refine x_iald C hw (xoM_273 hM) c4 dX11_nights_96 ?_
    have c5 := h.1
    have h := h.2
    obtain ⟨u6, eu6⟩ : ∃ q : xM, q = si u 273 (4 : Int32).toNatClampNeg (gi u 273 (2100 : Int32).toNatClampNeg) := ⟨_, rfl⟩
    have h := h u6 eu6
    refine x_iast C hw (xoM_273 hM) c5 dX11_nights_97 eu6 (fun H locs hw => ?_)
    refine lv_sipush (v := 160) hx hb dX11_nights_98 (by decide) ?_
    refine lv_istore_n (lv' := [(3, .int 160), (0, .ref (xad g 272))]) hx hb dX11_nights_101 rfl hl (by decide) rfl (fun ls hl => ?_)
    obtain ⟨n9, h⟩ := h
    exact s_X11_nights_L102 C hM n9 hw (lv_sub hl [1, 0] rfl) h
set_option maxHeartbeats 4000000 in
set_option maxRecDepth 100000 in
theorem s_X11_nights_L57 {Qf : Int32 → xM → Prop} (C : x_C p s m args meth c g RX11 cX11_nights 4 (some .int)) (hM : xpM g) {u : xM} {H : Heap} {locs : List Loc} {ls : Array Slot} (hw : x_W g s.heap H locs u) (hl : lv_has ls 4 [(0, .ref (xad g 272))]) (h : p_X11_nights_L57 Qf  u) : W p l e (x_rm 12 341) s m args below meth c H locs 0 0 (MQ below (x_Qi g Qf) args s 0 0 (x_A g)) (F0 m 57 ls []) := by
  unfold p_X11_nights_L57 at h
  have hx := C.1
  have hb := C.2.1
  refine lv_aload_n hx hb dX11_nights_57 rfl (lv_at hl 0 rfl) ?_
  refine x_geti (ci := 11) C hw 18 (xoM_272 hM) rfl inlX11 (by decide) rfl rfl xw_631 dX11_nights_58 ?_
  refine lv_if_ne (tgt := 77) hx hb dX11_nights_61 (by decide) (fun c1 => ?_) (fun c1 => ?_)
  · have h := h.1 c1
    exact s_X11_nights_L77 C hM hw (lv_sub hl [0] rfl) h
  · have h := h.2 c1
    refine lv_aload_n hx hb dX11_nights_64 rfl (lv_at hl 0 rfl) ?_
    refine x_geti (ci := 11) C hw 21 (xoM_272 hM) rfl inlX11 (by decide) rfl rfl xw_824 dX11_nights_65 ?_
    refine lv_if_le (tgt := 77) hx hb dX11_nights_68 (by decide) (fun c2 => ?_) (fun c2 => ?_)
    · have h := h.1 c2
      exact s_X11_nights_L77 C hM hw (lv_sub hl [0] rfl) h
    · have h := h.2 c2
      refine lv_aload_n hx hb dX11_nights_71 rfl (lv_at hl 0 rfl) ?_
      refine lv_iconst (v := 2) hx hb dX11_nights_72 (by decide) ?_
      refine x_callz hw (x_runV (ci := 11) C hw (m_X11_errs l C.2.2.2.2.2.2.2.2.1 hM h) (xoM_272 hM) rfl (x_gV xw_679 xw_680 xw_681 xw_5 xw_682) rfl rfl qX11_errs ⟨(Nat.le_of_ble_eq_true rfl), (Nat.le_of_ble_eq_true rfl)⟩ rfl hl.1 rfl (Nat.le_of_ble_eq_true rfl) dX11_nights_73) (fun r4 u3 H locs hw h => ?_)
      refine lv_pop hx hb dX11_nights_76 rfl ?_
      exact s_X11_nights_L77 C hM hw (lv_sub hl [0] rfl) h
set_option maxHeartbeats 4000000 in
set_option maxRecDepth 100000 in
theorem s_X11_nights_L38 {Qf : Int32 → xM → Prop} (C : x_C p s m args meth c g RX11 cX11_nights 4 (some .int)) (hM : xpM g) : ∀ (nn : Nat) {v2 : Bool} {u : xM} {H : Heap} {locs : List Loc} {ls : Array Slot} (hw : x_W g s.heap H locs u) (hl : lv_has ls 4 [(0, .ref (xad g 272)), (2, .int (xb v2))]) (h : p_X11_nights_L38 Qf nn v2 u), W p l e (x_rm 12 341) s m args below meth c H locs 0 0 (MQ below (x_Qi g Qf) args s 0 0 (x_A g)) (F0 m 38 ls []) := by
  intro nn
  induction nn with
  | zero => intro v2 u H locs ls hw hl h; exact h.elim
  | succ nn ih =>
    intro v2 u H locs ls hw hl h
    unfold p_X11_nights_L38 at h
    have hx := C.1
    have hb := C.2.1
    refine lv_iload_n hx hb dX11_nights_38 rfl (lv_at hl 1 rfl) ?_
    refine lv_if_eq (tgt := 57) hx hb dX11_nights_39 (by decide) (fun c1 => ?_) (fun c1 => ?_)
    · have h := h.1 (xb_f c1)
      exact s_X11_nights_L57 C hM hw (lv_sub hl [0] rfl) h
    · have h := h.2 (xb_t c1)
      refine lv_aload_n hx hb dX11_nights_42 rfl (lv_at hl 0 rfl) ?_
      refine x_geti (ci := 11) C hw 12 (xoM_272 hM) rfl inlX11 (by decide) rfl rfl xw_630 dX11_nights_43 ?_
      refine lv_if_eq (tgt := 57) hx hb dX11_nights_46 (by decide) (fun c2 => ?_) (fun c2 => ?_)
      · have h := h.1 c2
        exact s_X11_nights_L57 C hM hw (lv_sub hl [0] rfl) h
      · have h := h.2 c2
        refine lv_aload_n hx hb dX11_nights_49 rfl (lv_at hl 0 rfl) ?_
        refine x_callz hw (x_runV (ci := 11) C hw (m_X11_nightStep l C.2.2.2.2.2.2.2.2.1 hM h) (xoM_272 hM) rfl (x_gV xw_826 xw_827 xw_828 xw_5 xw_829) rfl rfl qX11_nightStep ⟨(Nat.le_of_ble_eq_true rfl), (Nat.le_of_ble_eq_true rfl)⟩ rfl hl.1 rfl (Nat.le_of_ble_eq_true rfl) dX11_nights_50) (fun r4 u3 H locs hw h => ?_)
        refine lv_istore_n (lv' := [(2, .int (xb r4)), (0, .ref (xad g 272))]) hx hb dX11_nights_53 rfl hl (by decide) rfl (fun ls hl => ?_)
        refine lv_goto (tgt := 38) hx hb dX11_nights_54 (by decide) ?_
        exact ih hw (lv_sub hl [1, 0] rfl) h
set_option maxHeartbeats 4000000 in
set_option maxRecDepth 100000 in
theorem s_X11_nights {Qf : Int32 → xM → Prop} {a1 : Int32} (C : x_C p s m args meth c g RX11 cX11_nights 4 (some .int)) (hM : xpM g) {u : xM} {H : Heap} {locs : List Loc} {ls : Array Slot} (hw : x_W g s.heap H locs u) (hl : lv_has ls 4 [(0, .ref (xad g 272)), (1, .int a1)]) (h : p_X11_nights a1 u Qf) : W p l e (x_rm 12 341) s m args below meth c H locs 0 0 (MQ below (x_Qi g Qf) args s 0 0 (x_A g)) (F0 m 0 ls []) := by
  unfold p_X11_nights at h
  have hx := C.1
  have hb := C.2.1
  refine lv_aload_n hx hb dX11_nights_0 rfl (lv_at hl 0 rfl) ?_
  refine lv_iload_n hx hb dX11_nights_1 rfl (lv_at hl 1 rfl) ?_
  refine lv_sipush (v := 300) hx hb dX11_nights_2 (by decide) ?_
  refine x_callz hw (x_runV (ci := 11) C hw (m_X11_begins l C.2.2.2.2.2.2.2.2.1 hM h) (xoM_272 hM) rfl (x_gV xw_632 xw_633 xw_634 xw_5 xw_635) rfl rfl qX11_begins ⟨(Nat.le_of_ble_eq_true rfl), (Nat.le_of_ble_eq_true rfl)⟩ rfl hl.1 rfl (Nat.le_of_ble_eq_true rfl) dX11_nights_5) (fun r2 u1 H locs hw h => ?_)
  refine lv_if_ne (tgt := 17) hx hb dX11_nights_8 (by decide) (fun c3 => ?_) (fun c3 => ?_)
  · have h := h.1 (xb_t c3)
    refine lv_aload_n hx hb dX11_nights_17 rfl (lv_at hl 0 rfl) ?_
    refine x_getr (ci := 11) C hw 0 (xoM_272 hM) rfl inlX11 (by decide) rfl rfl xrM_272_0 xw_219 dX11_nights_18 ?_
    refine lv_sipush (v := 2100) hx hb dX11_nights_21 (by decide) ?_
    refine lv_iconst (v := 0) hx hb dX11_nights_24 (by decide) ?_
    have c4 := h.1
    have h := h.2
    obtain ⟨u5, eu5⟩ : ∃ q : xM, q = si u1 273 (2100 : Int32).toNatClampNeg (0 : Int32) := ⟨_, rfl⟩
    have h := h u5 eu5
    refine x_iast C hw (xoM_273 hM) c4 dX11_nights_25 eu5 (fun H locs hw => ?_)
    refine lv_aload_n hx hb dX11_nights_26 rfl (lv_at hl 0 rfl) ?_
    refine lv_iconst (v := 0) hx hb dX11_nights_27 (by decide) ?_
    obtain ⟨u6, eu6⟩ : ∃ q : xM, q = si u5 272 21 (0 : Int32) := ⟨_, rfl⟩
    have h := h u6 eu6
    refine x_puti (ci := 11) (ty := .int) C hw 21 (xoM_272 hM) rfl inlX11 tyX11_ok nmX11 (by decide) rfl rfl xw_824 rfl (by decide +kernel) rfl rfl dX11_nights_28 eu6 (fun H locs hw => ?_)
    refine lv_aload_n hx hb dX11_nights_31 rfl (lv_at hl 0 rfl) ?_
    refine lv_iconst (v := 0) hx hb dX11_nights_32 (by decide) ?_
    obtain ⟨u7, eu7⟩ : ∃ q : xM, q = si u6 272 22 (0 : Int32) := ⟨_, rfl⟩
    have h := h u7 eu7
    refine x_puti (ci := 11) (ty := .int) C hw 22 (xoM_272 hM) rfl inlX11 tyX11_ok nmX11 (by decide) rfl rfl xw_825 rfl (by decide +kernel) rfl rfl dX11_nights_33 eu7 (fun H locs hw => ?_)
    refine lv_iconst (v := 1) hx hb dX11_nights_36 (by decide) ?_
    refine lv_istore_n (lv' := [(2, .int 1), (0, .ref (xad g 272)), (1, .int a1)]) hx hb dX11_nights_37 rfl hl (by decide) rfl (fun ls hl => ?_)
    obtain ⟨n9, h⟩ := h
    exact s_X11_nights_L38 C hM n9 hw (lv_sub hl [1, 0] rfl) h
  · have h := h.2 (xb_f c3)
    refine lv_aload_n hx hb dX11_nights_11 rfl (lv_at hl 0 rfl) ?_
    refine lv_iconst (v := 1) hx hb dX11_nights_12 (by decide) ?_
    refine x_calli hw (x_runV (ci := 11) C hw (m_X11_refuse l C.2.2.2.2.2.2.2.2.1 hM h) (xoM_272 hM) rfl (x_gV xw_657 xw_658 xw_659 xw_5 xw_660) rfl rfl qX11_refuse ⟨(Nat.le_of_ble_eq_true rfl), (Nat.le_of_ble_eq_true rfl)⟩ rfl hl.1 rfl (Nat.le_of_ble_eq_true rfl) dX11_nights_13) (fun r9 u8 H locs hw h => ?_)
    exact x_iret C hw h dX11_nights_16
set_option maxHeartbeats 4000000 in
set_option maxRecDepth 100000 in
theorem m_X11_nights (l : Launch) {g : xG} (hD : x_D g) (hM : xpM g) {a1 : Int32} {u : xM} {Qf : Int32 → xM → Prop} (h : p_X11_nights a1 u Qf) : Met l yX11_nights (Cond.code yX11_nights cX11_nights 4 (some .int) :: wsL_law) (x_rm 12 341) (va_Pc [.ref (xad g 272), .int a1] (x_B g u)) (x_Qi g Qf) 0 0 (x_A g) := by
  refine Met.ofW (cc := cX11_nights) (maxL := 4) (ret := (some .int)) (by decide) rfl ?_
  intro p e s m args below meth c s₁ B hml hv
  obtain ⟨rfl, hB⟩ := hv
  obtain ⟨C, hw⟩ := x_start B hml hD hB
  have hl := lv_entry [.ref (xad g 272), .int a1] (n := 4) (Nat.le_of_ble_eq_true rfl)
  rw [lg_entry_eq]
  exact s_X11_nights C hM hw hl h
set_option maxHeartbeats 4000000 in
set_option maxRecDepth 100000 in
theorem s_X11_roomRow {Qf : Int32 → xM → Prop} {a1 : Int32} (C : x_C p s m args meth c g RX11 cX11_roomRow 1 (some .int)) {u : xM} {H : Heap} {locs : List Loc} {ls : Array Slot} (hw : x_W g s.heap H locs u) (hl : lv_has ls 1 [(0, .int a1)]) (h : p_X11_roomRow a1 u Qf) : W p l e (x_rm 0 0) s m args below meth c H locs 0 0 (MQ below (x_Qi g Qf) args s 0 0 (x_A g)) (F0 m 0 ls []) := by
  unfold p_X11_roomRow at h
  have hx := C.1
  have hb := C.2.1
  refine lv_bipush (v := 6) hx hb dX11_roomRow_0 (by decide) ?_
  refine lv_bipush (v := 7) hx hb dX11_roomRow_2 (by decide) ?_
  refine lv_iload_n hx hb dX11_roomRow_4 rfl (lv_at hl 0 rfl) ?_
  refine lv_imul hx hb dX11_roomRow_5 ?_
  refine lv_iadd hx hb dX11_roomRow_6 ?_
  exact x_iret C hw h dX11_roomRow_7
set_option maxHeartbeats 4000000 in
set_option maxRecDepth 100000 in
theorem m_X11_roomRow (l : Launch) {g : xG} (hD : x_D g) {a1 : Int32} {u : xM} {Qf : Int32 → xM → Prop} (h : p_X11_roomRow a1 u Qf) : Met l yX11_roomRow (Cond.code yX11_roomRow cX11_roomRow 1 (some .int) :: wsL_law) (x_rm 0 0) (va_Pc [.int a1] (x_B g u)) (x_Qi g Qf) 0 0 (x_A g) := by
  refine Met.ofW (cc := cX11_roomRow) (maxL := 1) (ret := (some .int)) (by decide) rfl ?_
  intro p e s m args below meth c s₁ B hml hv
  obtain ⟨rfl, hB⟩ := hv
  obtain ⟨C, hw⟩ := x_start B hml hD hB
  have hl := lv_entry [.int a1] (n := 1) (Nat.le_of_ble_eq_true rfl)
  rw [lg_entry_eq]
  exact s_X11_roomRow C hw hl h
set_option maxHeartbeats 4000000 in
set_option maxRecDepth 100000 in
theorem s_X11_doorRow {Qf : Int32 → xM → Prop} {a1 : Int32} (C : x_C p s m args meth c g RX11 cX11_doorRow 1 (some .int)) {u : xM} {H : Heap} {locs : List Loc} {ls : Array Slot} (hw : x_W g s.heap H locs u) (hl : lv_has ls 1 [(0, .int a1)]) (h : p_X11_doorRow a1 u Qf) : W p l e (x_rm 0 0) s m args below meth c H locs 0 0 (MQ below (x_Qi g Qf) args s 0 0 (x_A g)) (F0 m 0 ls []) := by
  unfold p_X11_doorRow at h
  have hx := C.1
  have hb := C.2.1
  refine lv_bipush (v := 55) hx hb dX11_doorRow_0 (by decide) ?_
  refine lv_bipush (v := 8) hx hb dX11_doorRow_2 (by decide) ?_
  refine lv_iload_n hx hb dX11_doorRow_4 rfl (lv_at hl 0 rfl) ?_
  refine lv_imul hx hb dX11_doorRow_5 ?_
  refine lv_iadd hx hb dX11_doorRow_6 ?_
  exact x_iret C hw h dX11_doorRow_7
set_option maxHeartbeats 4000000 in
set_option maxRecDepth 100000 in
theorem m_X11_doorRow (l : Launch) {g : xG} (hD : x_D g) {a1 : Int32} {u : xM} {Qf : Int32 → xM → Prop} (h : p_X11_doorRow a1 u Qf) : Met l yX11_doorRow (Cond.code yX11_doorRow cX11_doorRow 1 (some .int) :: wsL_law) (x_rm 0 0) (va_Pc [.int a1] (x_B g u)) (x_Qi g Qf) 0 0 (x_A g) := by
  refine Met.ofW (cc := cX11_doorRow) (maxL := 1) (ret := (some .int)) (by decide) rfl ?_
  intro p e s m args below meth c s₁ B hml hv
  obtain ⟨rfl, hB⟩ := hv
  obtain ⟨C, hw⟩ := x_start B hml hD hB
  have hl := lv_entry [.int a1] (n := 1) (Nat.le_of_ble_eq_true rfl)
  rw [lg_entry_eq]
  exact s_X11_doorRow C hw hl h
set_option maxHeartbeats 4000000 in
set_option maxRecDepth 100000 in
theorem s_X11_isRoom {Qf : Bool → xM → Prop} {a1 : Int32} (C : x_C p s m args meth c g RX11 cX11_isRoom 2 (some .boolean)) (hM : xpM g) {u : xM} {H : Heap} {locs : List Loc} {ls : Array Slot} (hw : x_W g s.heap H locs u) (hl : lv_has ls 2 [(0, .ref (xad g 272)), (1, .int a1)]) (h : p_X11_isRoom a1 u Qf) : W p l e (x_rm 0 0) s m args below meth c H locs 0 0 (MQ below (x_Qz g Qf) args s 0 0 (x_A g)) (F0 m 0 ls []) := by
  unfold p_X11_isRoom at h
  have hx := C.1
  have hb := C.2.1
  refine lv_iload_n hx hb dX11_isRoom_0 rfl (lv_at hl 1 rfl) ?_
  refine lv_if_lt (tgt := 18) hx hb dX11_isRoom_1 (by decide) (fun c1 => ?_) (fun c1 => ?_)
  · have h := h.1 c1
    refine lv_iconst (v := 0) hx hb dX11_isRoom_18 (by decide) ?_
    exact x_zret false C hw h rfl dX11_isRoom_19
  · have h := h.2 c1
    refine lv_iload_n hx hb dX11_isRoom_4 rfl (lv_at hl 1 rfl) ?_
    refine lv_aload_n hx hb dX11_isRoom_5 rfl (lv_at hl 0 rfl) ?_
    refine x_getr (ci := 11) C hw 0 (xoM_272 hM) rfl inlX11 (by decide) rfl rfl xrM_272_0 xw_219 dX11_isRoom_6 ?_
    refine lv_iconst (v := 0) hx hb dX11_isRoom_9 (by decide) ?_
    have c2 := h.1
    have h := h.2
    refine x_iald C hw (xoM_273 hM) c2 dX11_isRoom_10 ?_
    refine lv_icmp_ge (tgt := 18) hx hb dX11_isRoom_11 (by decide) (fun c3 => ?_) (fun c3 => ?_)
    · have h := h.1 c3
      refine lv_iconst (v := 0) hx hb dX11_isRoom_18 (by decide) ?_
      exact x_zret false C hw h rfl dX11_isRoom_19
    · have h := h.2 c3
      refine lv_iconst (v := 1) hx hb dX11_isRoom_14 (by decide) ?_
      refine lv_goto (tgt := 19) hx hb dX11_isRoom_15 (by decide) ?_
      exact x_zret true C hw h rfl dX11_isRoom_19
set_option maxHeartbeats 4000000 in
set_option maxRecDepth 100000 in
theorem m_X11_isRoom (l : Launch) {g : xG} (hD : x_D g) (hM : xpM g) {a1 : Int32} {u : xM} {Qf : Bool → xM → Prop} (h : p_X11_isRoom a1 u Qf) : Met l yX11_isRoom (Cond.code yX11_isRoom cX11_isRoom 2 (some .boolean) :: wsL_law) (x_rm 0 0) (va_Pc [.ref (xad g 272), .int a1] (x_B g u)) (x_Qz g Qf) 0 0 (x_A g) := by
  refine Met.ofW (cc := cX11_isRoom) (maxL := 2) (ret := (some .boolean)) (by decide) rfl ?_
  intro p e s m args below meth c s₁ B hml hv
  obtain ⟨rfl, hB⟩ := hv
  obtain ⟨C, hw⟩ := x_start B hml hD hB
  have hl := lv_entry [.ref (xad g 272), .int a1] (n := 2) (Nat.le_of_ble_eq_true rfl)
  rw [lg_entry_eq]
  exact s_X11_isRoom C hM hw hl h
set_option maxHeartbeats 4000000 in
set_option maxRecDepth 100000 in
theorem s_X11_isDoor {Qf : Bool → xM → Prop} {a1 : Int32} (C : x_C p s m args meth c g RX11 cX11_isDoor 2 (some .boolean)) (hM : xpM g) {u : xM} {H : Heap} {locs : List Loc} {ls : Array Slot} (hw : x_W g s.heap H locs u) (hl : lv_has ls 2 [(0, .ref (xad g 272)), (1, .int a1)]) (h : p_X11_isDoor a1 u Qf) : W p l e (x_rm 0 0) s m args below meth c H locs 0 0 (MQ below (x_Qz g Qf) args s 0 0 (x_A g)) (F0 m 0 ls []) := by
  unfold p_X11_isDoor at h
  have hx := C.1
  have hb := C.2.1
  refine lv_iload_n hx hb dX11_isDoor_0 rfl (lv_at hl 1 rfl) ?_
  refine lv_if_lt (tgt := 18) hx hb dX11_isDoor_1 (by decide) (fun c1 => ?_) (fun c1 => ?_)
  · have h := h.1 c1
    refine lv_iconst (v := 0) hx hb dX11_isDoor_18 (by decide) ?_
    exact x_zret false C hw h rfl dX11_isDoor_19
  · have h := h.2 c1
    refine lv_iload_n hx hb dX11_isDoor_4 rfl (lv_at hl 1 rfl) ?_
    refine lv_aload_n hx hb dX11_isDoor_5 rfl (lv_at hl 0 rfl) ?_
    refine x_getr (ci := 11) C hw 0 (xoM_272 hM) rfl inlX11 (by decide) rfl rfl xrM_272_0 xw_219 dX11_isDoor_6 ?_
    refine lv_iconst (v := 1) hx hb dX11_isDoor_9 (by decide) ?_
    have c2 := h.1
    have h := h.2
    refine x_iald C hw (xoM_273 hM) c2 dX11_isDoor_10 ?_
    refine lv_icmp_ge (tgt := 18) hx hb dX11_isDoor_11 (by decide) (fun c3 => ?_) (fun c3 => ?_)
    · have h := h.1 c3
      refine lv_iconst (v := 0) hx hb dX11_isDoor_18 (by decide) ?_
      exact x_zret false C hw h rfl dX11_isDoor_19
    · have h := h.2 c3
      refine lv_iconst (v := 1) hx hb dX11_isDoor_14 (by decide) ?_
      refine lv_goto (tgt := 19) hx hb dX11_isDoor_15 (by decide) ?_
      exact x_zret true C hw h rfl dX11_isDoor_19
set_option maxHeartbeats 4000000 in
set_option maxRecDepth 100000 in
theorem m_X11_isDoor (l : Launch) {g : xG} (hD : x_D g) (hM : xpM g) {a1 : Int32} {u : xM} {Qf : Bool → xM → Prop} (h : p_X11_isDoor a1 u Qf) : Met l yX11_isDoor (Cond.code yX11_isDoor cX11_isDoor 2 (some .boolean) :: wsL_law) (x_rm 0 0) (va_Pc [.ref (xad g 272), .int a1] (x_B g u)) (x_Qz g Qf) 0 0 (x_A g) := by
  refine Met.ofW (cc := cX11_isDoor) (maxL := 2) (ret := (some .boolean)) (by decide) rfl ?_
  intro p e s m args below meth c s₁ B hml hv
  obtain ⟨rfl, hB⟩ := hv
  obtain ⟨C, hw⟩ := x_start B hml hD hB
  have hl := lv_entry [.ref (xad g 272), .int a1] (n := 2) (Nat.le_of_ble_eq_true rfl)
  rw [lg_entry_eq]
  exact s_X11_isDoor C hM hw hl h
set_option maxHeartbeats 4000000 in
set_option maxRecDepth 100000 in
theorem s_X11_isHour {Qf : Bool → xM → Prop} {a1 : Int32} (C : x_C p s m args meth c g RX11 cX11_isHour 1 (some .boolean)) {u : xM} {H : Heap} {locs : List Loc} {ls : Array Slot} (hw : x_W g s.heap H locs u) (hl : lv_has ls 1 [(0, .int a1)]) (h : p_X11_isHour a1 u Qf) : W p l e (x_rm 0 0) s m args below meth c H locs 0 0 (MQ below (x_Qz g Qf) args s 0 0 (x_A g)) (F0 m 0 ls []) := by
  unfold p_X11_isHour at h
  have hx := C.1
  have hb := C.2.1
  refine lv_iload_n hx hb dX11_isHour_0 rfl (lv_at hl 0 rfl) ?_
  refine lv_if_lt (tgt := 14) hx hb dX11_isHour_1 (by decide) (fun c1 => ?_) (fun c1 => ?_)
  · have h := h.1 c1
    refine lv_iconst (v := 0) hx hb dX11_isHour_14 (by decide) ?_
    exact x_zret false C hw h rfl dX11_isHour_15
  · have h := h.2 c1
    refine lv_iload_n hx hb dX11_isHour_4 rfl (lv_at hl 0 rfl) ?_
    refine lv_bipush (v := 12) hx hb dX11_isHour_5 (by decide) ?_
    refine lv_icmp_ge (tgt := 14) hx hb dX11_isHour_7 (by decide) (fun c2 => ?_) (fun c2 => ?_)
    · have h := h.1 c2
      refine lv_iconst (v := 0) hx hb dX11_isHour_14 (by decide) ?_
      exact x_zret false C hw h rfl dX11_isHour_15
    · have h := h.2 c2
      refine lv_iconst (v := 1) hx hb dX11_isHour_10 (by decide) ?_
      refine lv_goto (tgt := 15) hx hb dX11_isHour_11 (by decide) ?_
      exact x_zret true C hw h rfl dX11_isHour_15
set_option maxHeartbeats 4000000 in
set_option maxRecDepth 100000 in
theorem m_X11_isHour (l : Launch) {g : xG} (hD : x_D g) {a1 : Int32} {u : xM} {Qf : Bool → xM → Prop} (h : p_X11_isHour a1 u Qf) : Met l yX11_isHour (Cond.code yX11_isHour cX11_isHour 1 (some .boolean) :: wsL_law) (x_rm 0 0) (va_Pc [.int a1] (x_B g u)) (x_Qz g Qf) 0 0 (x_A g) := by
  refine Met.ofW (cc := cX11_isHour) (maxL := 1) (ret := (some .boolean)) (by decide) rfl ?_
  intro p e s m args below meth c s₁ B hml hv
  obtain ⟨rfl, hB⟩ := hv
  obtain ⟨C, hw⟩ := x_start B hml hD hB
  have hl := lv_entry [.int a1] (n := 1) (Nat.le_of_ble_eq_true rfl)
  rw [lg_entry_eq]
  exact s_X11_isHour C hw hl h
set_option maxHeartbeats 4000000 in
set_option maxRecDepth 100000 in
theorem s_X11_isIn {Qf : Bool → xM → Prop} {a1 : Int32} {a2 : Int32} (C : x_C p s m args meth c g RX11 cX11_isIn 3 (some .boolean)) (hM : xpM g) {u : xM} {H : Heap} {locs : List Loc} {ls : Array Slot} (hw : x_W g s.heap H locs u) (hl : lv_has ls 3 [(0, .ref (xad g 272)), (1, .int a1), (2, .int a2)]) (h : p_X11_isIn a1 a2 u Qf) : W p l e (x_rm 0 0) s m args below meth c H locs 0 0 (MQ below (x_Qz g Qf) args s 0 0 (x_A g)) (F0 m 0 ls []) := by
  unfold p_X11_isIn at h
  have hx := C.1
  have hb := C.2.1
  refine lv_iload_n hx hb dX11_isIn_0 rfl (lv_at hl 1 rfl) ?_
  refine lv_iload_n hx hb dX11_isIn_1 rfl (lv_at hl 2 rfl) ?_
  refine lv_ishr hx hb dX11_isIn_2 ?_
  refine lv_iconst (v := 1) hx hb dX11_isIn_3 (by decide) ?_
  refine lv_iand hx hb dX11_isIn_4 ?_
  refine lv_iconst (v := 1) hx hb dX11_isIn_5 (by decide) ?_
  refine lv_icmp_ne (tgt := 13) hx hb dX11_isIn_6 (by decide) (fun c1 => ?_) (fun c1 => ?_)
  · have h := h.1 c1
    refine lv_iconst (v := 0) hx hb dX11_isIn_13 (by decide) ?_
    exact x_zret false C hw h rfl dX11_isIn_14
  · have h := h.2 c1
    refine lv_iconst (v := 1) hx hb dX11_isIn_9 (by decide) ?_
    refine lv_goto (tgt := 14) hx hb dX11_isIn_10 (by decide) ?_
    exact x_zret true C hw h rfl dX11_isIn_14
set_option maxHeartbeats 4000000 in
set_option maxRecDepth 100000 in
theorem m_X11_isIn (l : Launch) {g : xG} (hD : x_D g) (hM : xpM g) {a1 : Int32} {a2 : Int32} {u : xM} {Qf : Bool → xM → Prop} (h : p_X11_isIn a1 a2 u Qf) : Met l yX11_isIn (Cond.code yX11_isIn cX11_isIn 3 (some .boolean) :: wsL_law) (x_rm 0 0) (va_Pc [.ref (xad g 272), .int a1, .int a2] (x_B g u)) (x_Qz g Qf) 0 0 (x_A g) := by
  refine Met.ofW (cc := cX11_isIn) (maxL := 3) (ret := (some .boolean)) (by decide) rfl ?_
  intro p e s m args below meth c s₁ B hml hv
  obtain ⟨rfl, hB⟩ := hv
  obtain ⟨C, hw⟩ := x_start B hml hD hB
  have hl := lv_entry [.ref (xad g 272), .int a1, .int a2] (n := 3) (Nat.le_of_ble_eq_true rfl)
  rw [lg_entry_eq]
  exact s_X11_isIn C hM hw hl h
set_option maxHeartbeats 4000000 in
set_option maxRecDepth 100000 in
theorem s_X11_bits_L4 {Qf : Int32 → xM → Prop} (C : x_C p s m args meth c g RX11 cX11_bits 3 (some .int)) : ∀ (nn : Nat) {v1 : Int32} {v2 : Int32} {u : xM} {H : Heap} {locs : List Loc} {ls : Array Slot} (hw : x_W g s.heap H locs u) (hl : lv_has ls 3 [(1, .int v1), (2, .int v2)]) (h : p_X11_bits_L4 Qf nn v1 v2 u), W p l e (x_rm 0 0) s m args below meth c H locs 0 0 (MQ below (x_Qi g Qf) args s 0 0 (x_A g)) (F0 m 4 ls []) := by
  intro nn
  induction nn with
  | zero => intro v1 v2 u H locs ls hw hl h; exact h.elim
  | succ nn ih =>
    intro v1 v2 u H locs ls hw hl h
    unfold p_X11_bits_L4 at h
    have hx := C.1
    have hb := C.2.1
    refine lv_iload_n hx hb dX11_bits_4 rfl (lv_at hl 1 rfl) ?_
    refine lv_if_eq (tgt := 20) hx hb dX11_bits_5 (by decide) (fun c1 => ?_) (fun c1 => ?_)
    · have h := h.1 c1
      refine lv_iload_n hx hb dX11_bits_20 rfl (lv_at hl 0 rfl) ?_
      exact x_iret C hw h dX11_bits_21
    · have h := h.2 c1
      obtain ⟨x2, ex2⟩ : ∃ y : Int32, y = v1 + 1 := ⟨_, rfl⟩
      have h := h x2 ex2
      refine lv_iinc (v := x2) (lv' := [(1, .int x2), (2, .int v2)]) hx hb dX11_bits_8 hl (k := 0) rfl (by rw [ex2]; rfl) (by decide) rfl (fun ls hl => ?_)
      refine lv_iload_n hx hb dX11_bits_11 rfl (lv_at hl 1 rfl) ?_
      refine lv_iload_n hx hb dX11_bits_12 rfl (lv_at hl 1 rfl) ?_
      refine lv_iconst (v := 1) hx hb dX11_bits_13 (by decide) ?_
      refine lv_isub hx hb dX11_bits_14 ?_
      refine lv_iand hx hb dX11_bits_15 ?_
      refine lv_topi (fun x3 ex3 => ?_)
      have h := h x3 ex3
      refine lv_istore_n (lv' := [(2, .int x3), (1, .int x2)]) hx hb dX11_bits_16 rfl hl (by decide) rfl (fun ls hl => ?_)
      refine lv_goto (tgt := 4) hx hb dX11_bits_17 (by decide) ?_
      exact ih hw (lv_sub hl [1, 0] rfl) h
set_option maxHeartbeats 4000000 in
set_option maxRecDepth 100000 in
theorem s_X11_bits {Qf : Int32 → xM → Prop} {a1 : Int32} (C : x_C p s m args meth c g RX11 cX11_bits 3 (some .int)) {u : xM} {H : Heap} {locs : List Loc} {ls : Array Slot} (hw : x_W g s.heap H locs u) (hl : lv_has ls 3 [(0, .int a1)]) (h : p_X11_bits a1 u Qf) : W p l e (x_rm 0 0) s m args below meth c H locs 0 0 (MQ below (x_Qi g Qf) args s 0 0 (x_A g)) (F0 m 0 ls []) := by
  unfold p_X11_bits at h
  have hx := C.1
  have hb := C.2.1
  refine lv_iconst (v := 0) hx hb dX11_bits_0 (by decide) ?_
  refine lv_istore_n (lv' := [(1, .int 0), (0, .int a1)]) hx hb dX11_bits_1 rfl hl (by decide) rfl (fun ls hl => ?_)
  refine lv_iload_n hx hb dX11_bits_2 rfl (lv_at hl 1 rfl) ?_
  refine lv_istore_n (lv' := [(2, .int a1), (1, .int 0), (0, .int a1)]) hx hb dX11_bits_3 rfl hl (by decide) rfl (fun ls hl => ?_)
  obtain ⟨n9, h⟩ := h
  exact s_X11_bits_L4 C n9 hw (lv_sub hl [1, 0] rfl) h
set_option maxHeartbeats 4000000 in
set_option maxRecDepth 100000 in
theorem m_X11_bits (l : Launch) {g : xG} (hD : x_D g) {a1 : Int32} {u : xM} {Qf : Int32 → xM → Prop} (h : p_X11_bits a1 u Qf) : Met l yX11_bits (Cond.code yX11_bits cX11_bits 3 (some .int) :: wsL_law) (x_rm 0 0) (va_Pc [.int a1] (x_B g u)) (x_Qi g Qf) 0 0 (x_A g) := by
  refine Met.ofW (cc := cX11_bits) (maxL := 3) (ret := (some .int)) (by decide) rfl ?_
  intro p e s m args below meth c s₁ B hml hv
  obtain ⟨rfl, hB⟩ := hv
  obtain ⟨C, hw⟩ := x_start B hml hD hB
  have hl := lv_entry [.int a1] (n := 3) (Nat.le_of_ble_eq_true rfl)
  rw [lg_entry_eq]
  exact s_X11_bits C hw hl h
set_option maxHeartbeats 4000000 in
set_option maxRecDepth 100000 in
theorem s_X11_roomOf {Qf : Int32 → xM → Prop} {a1 : Int32} {a2 : Int32} (C : x_C p s m args meth c g RX11 cX11_roomOf 3 (some .int)) (hM : xpM g) {u : xM} {H : Heap} {locs : List Loc} {ls : Array Slot} (hw : x_W g s.heap H locs u) (hl : lv_has ls 3 [(0, .ref (xad g 272)), (1, .int a1), (2, .int a2)]) (h : p_X11_roomOf a1 a2 u Qf) : W p l e (x_rm 1 20) s m args below meth c H locs 0 0 (MQ below (x_Qi g Qf) args s 0 0 (x_A g)) (F0 m 0 ls []) := by
  unfold p_X11_roomOf at h
  have hx := C.1
  have hb := C.2.1
  refine lv_aload_n hx hb dX11_roomOf_0 rfl (lv_at hl 0 rfl) ?_
  refine x_getr (ci := 11) C hw 0 (xoM_272 hM) rfl inlX11 (by decide) rfl rfl xrM_272_0 xw_219 dX11_roomOf_1 ?_
  refine lv_iload_n hx hb dX11_roomOf_4 rfl (lv_at hl 1 rfl) ?_
  refine x_calli hw (x_runS C hw (m_X11_roomRow l C.2.2.2.2.2.2.2.2.1  h) (x_gS xw_896 xw_897 xw_5 xw_898) rfl rfl qX11_roomRow ⟨(Nat.le_of_ble_eq_true rfl), (Nat.le_of_ble_eq_true rfl)⟩ rfl hl.1 rfl (Nat.le_of_ble_eq_true rfl) dX11_roomOf_5) (fun r2 u1 H locs hw h => ?_)
  refine lv_iload_n hx hb dX11_roomOf_8 rfl (lv_at hl 2 rfl) ?_
  refine lv_iadd hx hb dX11_roomOf_9 ?_
  have c3 := h.1
  have h := h.2
  refine x_iald C hw (xoM_273 hM) c3 dX11_roomOf_10 ?_
  exact x_iret C hw h dX11_roomOf_11
set_option maxHeartbeats 4000000 in
set_option maxRecDepth 100000 in
theorem m_X11_roomOf (l : Launch) {g : xG} (hD : x_D g) (hM : xpM g) {a1 : Int32} {a2 : Int32} {u : xM} {Qf : Int32 → xM → Prop} (h : p_X11_roomOf a1 a2 u Qf) : Met l yX11_roomOf (Cond.code yX11_roomOf cX11_roomOf 3 (some .int) :: wsL_law) (x_rm 1 20) (va_Pc [.ref (xad g 272), .int a1, .int a2] (x_B g u)) (x_Qi g Qf) 0 0 (x_A g) := by
  refine Met.ofW (cc := cX11_roomOf) (maxL := 3) (ret := (some .int)) (by decide) rfl ?_
  intro p e s m args below meth c s₁ B hml hv
  obtain ⟨rfl, hB⟩ := hv
  obtain ⟨C, hw⟩ := x_start B hml hD hB
  have hl := lv_entry [.ref (xad g 272), .int a1, .int a2] (n := 3) (Nat.le_of_ble_eq_true rfl)
  rw [lg_entry_eq]
  exact s_X11_roomOf C hM hw hl h
set_option maxHeartbeats 4000000 in
set_option maxRecDepth 100000 in
theorem s_X11_doorOf {Qf : Int32 → xM → Prop} {a1 : Int32} {a2 : Int32} (C : x_C p s m args meth c g RX11 cX11_doorOf 3 (some .int)) (hM : xpM g) {u : xM} {H : Heap} {locs : List Loc} {ls : Array Slot} (hw : x_W g s.heap H locs u) (hl : lv_has ls 3 [(0, .ref (xad g 272)), (1, .int a1), (2, .int a2)]) (h : p_X11_doorOf a1 a2 u Qf) : W p l e (x_rm 1 20) s m args below meth c H locs 0 0 (MQ below (x_Qi g Qf) args s 0 0 (x_A g)) (F0 m 0 ls []) := by
  unfold p_X11_doorOf at h
  have hx := C.1
  have hb := C.2.1
  refine lv_aload_n hx hb dX11_doorOf_0 rfl (lv_at hl 0 rfl) ?_
  refine x_getr (ci := 11) C hw 0 (xoM_272 hM) rfl inlX11 (by decide) rfl rfl xrM_272_0 xw_219 dX11_doorOf_1 ?_
  refine lv_iload_n hx hb dX11_doorOf_4 rfl (lv_at hl 1 rfl) ?_
  refine x_calli hw (x_runS C hw (m_X11_doorRow l C.2.2.2.2.2.2.2.2.1  h) (x_gS xw_915 xw_916 xw_5 xw_917) rfl rfl qX11_doorRow ⟨(Nat.le_of_ble_eq_true rfl), (Nat.le_of_ble_eq_true rfl)⟩ rfl hl.1 rfl (Nat.le_of_ble_eq_true rfl) dX11_doorOf_5) (fun r2 u1 H locs hw h => ?_)
  refine lv_iload_n hx hb dX11_doorOf_8 rfl (lv_at hl 2 rfl) ?_
  refine lv_iadd hx hb dX11_doorOf_9 ?_
  have c3 := h.1
  have h := h.2
  refine x_iald C hw (xoM_273 hM) c3 dX11_doorOf_10 ?_
  exact x_iret C hw h dX11_doorOf_11
set_option maxHeartbeats 4000000 in
set_option maxRecDepth 100000 in
theorem m_X11_doorOf (l : Launch) {g : xG} (hD : x_D g) (hM : xpM g) {a1 : Int32} {a2 : Int32} {u : xM} {Qf : Int32 → xM → Prop} (h : p_X11_doorOf a1 a2 u Qf) : Met l yX11_doorOf (Cond.code yX11_doorOf cX11_doorOf 3 (some .int) :: wsL_law) (x_rm 1 20) (va_Pc [.ref (xad g 272), .int a1, .int a2] (x_B g u)) (x_Qi g Qf) 0 0 (x_A g) := by
  refine Met.ofW (cc := cX11_doorOf) (maxL := 3) (ret := (some .int)) (by decide) rfl ?_
  intro p e s m args below meth c s₁ B hml hv
  obtain ⟨rfl, hB⟩ := hv
  obtain ⟨C, hw⟩ := x_start B hml hD hB
  have hl := lv_entry [.ref (xad g 272), .int a1, .int a2] (n := 3) (Nat.le_of_ble_eq_true rfl)
  rw [lg_entry_eq]
  exact s_X11_doorOf C hM hw hl h
set_option maxHeartbeats 4000000 in
set_option maxRecDepth 100000 in
theorem s_X11_now {Qf : Int32 → xM → Prop} (C : x_C p s m args meth c g RX11 cX11_now 1 (some .int)) (hM : xpM g) {u : xM} {H : Heap} {locs : List Loc} {ls : Array Slot} (hw : x_W g s.heap H locs u) (hl : lv_has ls 1 [(0, .ref (xad g 272))]) (h : p_X11_now  u Qf) : W p l e (x_rm 0 0) s m args below meth c H locs 0 0 (MQ below (x_Qi g Qf) args s 0 0 (x_A g)) (F0 m 0 ls []) := by
  unfold p_X11_now at h
  have hx := C.1
  have hb := C.2.1
  refine lv_aload_n hx hb dX11_now_0 rfl (lv_at hl 0 rfl) ?_
  refine x_getr (ci := 11) C hw 0 (xoM_272 hM) rfl inlX11 (by decide) rfl rfl xrM_272_0 xw_219 dX11_now_1 ?_
  refine lv_iconst (v := 3) hx hb dX11_now_4 (by decide) ?_
  have c1 := h.1
  have h := h.2
  refine x_iald C hw (xoM_273 hM) c1 dX11_now_5 ?_
  refine lv_bipush (v := 12) hx hb dX11_now_6 (by decide) ?_
  refine lv_irem hx hb dX11_now_8 (by decide) ?_
  refine lv_topi (fun x2 ex2 => ?_)
  have h := h x2 ex2
  exact x_iret C hw h dX11_now_9
set_option maxHeartbeats 4000000 in
set_option maxRecDepth 100000 in
theorem m_X11_now (l : Launch) {g : xG} (hD : x_D g) (hM : xpM g) {u : xM} {Qf : Int32 → xM → Prop} (h : p_X11_now  u Qf) : Met l yX11_now (Cond.code yX11_now cX11_now 1 (some .int) :: wsL_law) (x_rm 0 0) (va_Pc [.ref (xad g 272)] (x_B g u)) (x_Qi g Qf) 0 0 (x_A g) := by
  refine Met.ofW (cc := cX11_now) (maxL := 1) (ret := (some .int)) (by decide) rfl ?_
  intro p e s m args below meth c s₁ B hml hv
  obtain ⟨rfl, hB⟩ := hv
  obtain ⟨C, hw⟩ := x_start B hml hD hB
  have hl := lv_entry [.ref (xad g 272)] (n := 1) (Nat.le_of_ble_eq_true rfl)
  rw [lg_entry_eq]
  exact s_X11_now C hM hw hl h
set_option maxHeartbeats 4000000 in
set_option maxRecDepth 100000 in
theorem s_X11_depthOf {Qf : Int32 → xM → Prop} {a1 : Int32} (C : x_C p s m args meth c g RX11 cX11_depthOf 2 (some .int)) (hM : xpM g) {u : xM} {H : Heap} {locs : List Loc} {ls : Array Slot} (hw : x_W g s.heap H locs u) (hl : lv_has ls 2 [(0, .ref (xad g 272)), (1, .int a1)]) (h : p_X11_depthOf a1 u Qf) : W p l e (x_rm 2 42) s m args below meth c H locs 0 0 (MQ below (x_Qi g Qf) args s 0 0 (x_A g)) (F0 m 0 ls []) := by
  unfold p_X11_depthOf at h
  have hx := C.1
  have hb := C.2.1
  refine lv_aload_n hx hb dX11_depthOf_0 rfl (lv_at hl 0 rfl) ?_
  refine lv_iload_n hx hb dX11_depthOf_1 rfl (lv_at hl 1 rfl) ?_
  refine lv_iconst (v := 4) hx hb dX11_depthOf_2 (by decide) ?_
  refine x_calli hw (x_runV (ci := 11) C hw (m_X11_roomOf l C.2.2.2.2.2.2.2.2.1 hM h) (xoM_272 hM) rfl (x_gV xw_892 xw_893 xw_894 xw_5 xw_895) rfl rfl qX11_roomOf ⟨(Nat.le_of_ble_eq_true rfl), (Nat.le_of_ble_eq_true rfl)⟩ rfl hl.1 rfl (Nat.le_of_ble_eq_true rfl) dX11_depthOf_3) (fun r2 u1 H locs hw h => ?_)
  refine lv_aload_n hx hb dX11_depthOf_6 rfl (lv_at hl 0 rfl) ?_
  refine lv_iload_n hx hb dX11_depthOf_7 rfl (lv_at hl 1 rfl) ?_
  refine lv_iconst (v := 1) hx hb dX11_depthOf_8 (by decide) ?_
  refine x_calli hw (x_runV (ci := 11) C hw (m_X11_roomOf l C.2.2.2.2.2.2.2.2.1 hM h) (xoM_272 hM) rfl (x_gV xw_892 xw_893 xw_894 xw_5 xw_895) rfl rfl qX11_roomOf ⟨(Nat.le_of_ble_eq_true rfl), (Nat.le_of_ble_eq_true rfl)⟩ rfl hl.1 rfl (Nat.le_of_ble_eq_true rfl) dX11_depthOf_9) (fun r4 u3 H locs hw h => ?_)
  have c5 := h.1
  have h := h.2
  refine lv_idiv hx hb dX11_depthOf_12 c5 ?_
  exact x_iret C hw h dX11_depthOf_13
set_option maxHeartbeats 4000000 in
set_option maxRecDepth 100000 in
theorem m_X11_depthOf (l : Launch) {g : xG} (hD : x_D g) (hM : xpM g) {a1 : Int32} {u : xM} {Qf : Int32 → xM → Prop} (h : p_X11_depthOf a1 u Qf) : Met l yX11_depthOf (Cond.code yX11_depthOf cX11_depthOf 2 (some .int) :: wsL_law) (x_rm 2 42) (va_Pc [.ref (xad g 272), .int a1] (x_B g u)) (x_Qi g Qf) 0 0 (x_A g) := by
  refine Met.ofW (cc := cX11_depthOf) (maxL := 2) (ret := (some .int)) (by decide) rfl ?_
  intro p e s m args below meth c s₁ B hml hv
  obtain ⟨rfl, hB⟩ := hv
  obtain ⟨C, hw⟩ := x_start B hml hD hB
  have hl := lv_entry [.ref (xad g 272), .int a1] (n := 2) (Nat.le_of_ble_eq_true rfl)
  rw [lg_entry_eq]
  exact s_X11_depthOf C hM hw hl h
set_option maxHeartbeats 4000000 in
set_option maxRecDepth 100000 in
theorem s_X11_surfaceOf {Qf : Int32 → xM → Prop} {a1 : Int32} (C : x_C p s m args meth c g RX11 cX11_surfaceOf 2 (some .int)) (hM : xpM g) {u : xM} {H : Heap} {locs : List Loc} {ls : Array Slot} (hw : x_W g s.heap H locs u) (hl : lv_has ls 2 [(0, .ref (xad g 272)), (1, .int a1)]) (h : p_X11_surfaceOf a1 u Qf) : W p l e (x_rm 3 63) s m args below meth c H locs 0 0 (MQ below (x_Qi g Qf) args s 0 0 (x_A g)) (F0 m 0 ls []) := by
  unfold p_X11_surfaceOf at h
  have hx := C.1
  have hb := C.2.1
  refine lv_iload_n hx hb dX11_surfaceOf_0 rfl (lv_at hl 1 rfl) ?_
  refine lv_iconst (v := -1) hx hb dX11_surfaceOf_1 (by decide) ?_
  refine lv_icmp_ne (tgt := 21) hx hb dX11_surfaceOf_2 (by decide) (fun c1 => ?_) (fun c1 => ?_)
  · have h := h.1 c1
    refine lv_aload_n hx hb dX11_surfaceOf_21 rfl (lv_at hl 0 rfl) ?_
    refine lv_iload_n hx hb dX11_surfaceOf_22 rfl (lv_at hl 1 rfl) ?_
    refine lv_iconst (v := 0) hx hb dX11_surfaceOf_23 (by decide) ?_
    refine x_calli hw (x_runV (ci := 11) C hw (m_X11_roomOf l C.2.2.2.2.2.2.2.2.1 hM h) (xoM_272 hM) rfl (x_gV xw_892 xw_893 xw_894 xw_5 xw_895) rfl rfl qX11_roomOf ⟨(Nat.le_of_ble_eq_true rfl), (Nat.le_of_ble_eq_true rfl)⟩ rfl hl.1 rfl (Nat.le_of_ble_eq_true rfl) dX11_surfaceOf_24) (fun r3 u2 H locs hw h => ?_)
    refine lv_aload_n hx hb dX11_surfaceOf_27 rfl (lv_at hl 0 rfl) ?_
    refine lv_iload_n hx hb dX11_surfaceOf_28 rfl (lv_at hl 1 rfl) ?_
    refine x_calli hw (x_runV (ci := 11) C hw (m_X11_depthOf l C.2.2.2.2.2.2.2.2.1 hM h) (xoM_272 hM) rfl (x_gV xw_903 xw_904 xw_905 xw_5 xw_906) rfl rfl qX11_depthOf ⟨(Nat.le_of_ble_eq_true rfl), (Nat.le_of_ble_eq_true rfl)⟩ rfl hl.1 rfl (Nat.le_of_ble_eq_true rfl) dX11_surfaceOf_29) (fun r5 u4 H locs hw h => ?_)
    refine lv_iadd hx hb dX11_surfaceOf_32 ?_
    exact x_iret C hw h dX11_surfaceOf_33
  · have h := h.2 c1
    refine lv_aload_n hx hb dX11_surfaceOf_5 rfl (lv_at hl 0 rfl) ?_
    refine x_getr (ci := 11) C hw 0 (xoM_272 hM) rfl inlX11 (by decide) rfl rfl xrM_272_0 xw_219 dX11_surfaceOf_6 ?_
    refine lv_sipush (v := 135) hx hb dX11_surfaceOf_9 (by decide) ?_
    refine lv_aload_n hx hb dX11_surfaceOf_12 rfl (lv_at hl 0 rfl) ?_
    refine x_calli hw (x_runV (ci := 11) C hw (m_X11_now l C.2.2.2.2.2.2.2.2.1 hM h) (xoM_272 hM) rfl (x_gV xw_922 xw_923 xw_924 xw_5 xw_925) rfl rfl qX11_now ⟨(Nat.le_of_ble_eq_true rfl), (Nat.le_of_ble_eq_true rfl)⟩ rfl hl.1 rfl (Nat.le_of_ble_eq_true rfl) dX11_surfaceOf_13) (fun r7 u6 H locs hw h => ?_)
    refine lv_iadd hx hb dX11_surfaceOf_16 ?_
    have c8 := h.1
    have h := h.2
    refine x_iald C hw (xoM_273 hM) c8 dX11_surfaceOf_17 ?_
    refine lv_goto (tgt := 33) hx hb dX11_surfaceOf_18 (by decide) ?_
    exact x_iret C hw h dX11_surfaceOf_33
set_option maxHeartbeats 4000000 in
set_option maxRecDepth 100000 in
theorem m_X11_surfaceOf (l : Launch) {g : xG} (hD : x_D g) (hM : xpM g) {a1 : Int32} {u : xM} {Qf : Int32 → xM → Prop} (h : p_X11_surfaceOf a1 u Qf) : Met l yX11_surfaceOf (Cond.code yX11_surfaceOf cX11_surfaceOf 2 (some .int) :: wsL_law) (x_rm 3 63) (va_Pc [.ref (xad g 272), .int a1] (x_B g u)) (x_Qi g Qf) 0 0 (x_A g) := by
  refine Met.ofW (cc := cX11_surfaceOf) (maxL := 2) (ret := (some .int)) (by decide) rfl ?_
  intro p e s m args below meth c s₁ B hml hv
  obtain ⟨rfl, hB⟩ := hv
  obtain ⟨C, hw⟩ := x_start B hml hD hB
  have hl := lv_entry [.ref (xad g 272), .int a1] (n := 2) (Nat.le_of_ble_eq_true rfl)
  rw [lg_entry_eq]
  exact s_X11_surfaceOf C hM hw hl h
set_option maxHeartbeats 4000000 in
set_option maxRecDepth 100000 in
theorem s_X11_isOpen {Qf : Bool → xM → Prop} {a1 : Int32} (C : x_C p s m args meth c g RX11 cX11_isOpen 2 (some .boolean)) (hM : xpM g) {u : xM} {H : Heap} {locs : List Loc} {ls : Array Slot} (hw : x_W g s.heap H locs u) (hl : lv_has ls 2 [(0, .ref (xad g 272)), (1, .int a1)]) (h : p_X11_isOpen a1 u Qf) : W p l e (x_rm 2 42) s m args below meth c H locs 0 0 (MQ below (x_Qz g Qf) args s 0 0 (x_A g)) (F0 m 0 ls []) := by
  unfold p_X11_isOpen at h
  have hx := C.1
  have hb := C.2.1
  refine lv_aload_n hx hb dX11_isOpen_0 rfl (lv_at hl 0 rfl) ?_
  refine lv_iload_n hx hb dX11_isOpen_1 rfl (lv_at hl 1 rfl) ?_
  refine lv_bipush (v := 7) hx hb dX11_isOpen_2 (by decide) ?_
  refine x_calli hw (x_runV (ci := 11) C hw (m_X11_doorOf l C.2.2.2.2.2.2.2.2.1 hM h) (xoM_272 hM) rfl (x_gV xw_911 xw_912 xw_913 xw_5 xw_914) rfl rfl qX11_doorOf ⟨(Nat.le_of_ble_eq_true rfl), (Nat.le_of_ble_eq_true rfl)⟩ rfl hl.1 rfl (Nat.le_of_ble_eq_true rfl) dX11_isOpen_4) (fun r2 u1 H locs hw h => ?_)
  refine lv_iconst (v := 1) hx hb dX11_isOpen_7 (by decide) ?_
  refine lv_icmp_ne (tgt := 13) hx hb dX11_isOpen_8 (by decide) (fun c3 => ?_) (fun c3 => ?_)
  · have h := h.1 c3
    refine lv_aload_n hx hb dX11_isOpen_13 rfl (lv_at hl 0 rfl) ?_
    refine x_geti (ci := 11) C hw 23 (xoM_272 hM) rfl inlX11 (by decide) rfl rfl xw_230 dX11_isOpen_14 ?_
    refine lv_iconst (v := -1) hx hb dX11_isOpen_17 (by decide) ?_
    refine lv_icmp_eq (tgt := 31) hx hb dX11_isOpen_18 (by decide) (fun c4 => ?_) (fun c4 => ?_)
    · have h := h.1 c4
      refine lv_aload_n hx hb dX11_isOpen_31 rfl (lv_at hl 0 rfl) ?_
      refine x_geti (ci := 11) C hw 24 (xoM_272 hM) rfl inlX11 (by decide) rfl rfl xw_231 dX11_isOpen_32 ?_
      refine lv_iconst (v := -1) hx hb dX11_isOpen_35 (by decide) ?_
      refine lv_icmp_eq (tgt := 68) hx hb dX11_isOpen_36 (by decide) (fun c5 => ?_) (fun c5 => ?_)
      · have h := h.1 c5
        refine lv_aload_n hx hb dX11_isOpen_68 rfl (lv_at hl 0 rfl) ?_
        refine lv_iload_n hx hb dX11_isOpen_69 rfl (lv_at hl 1 rfl) ?_
        refine lv_bipush (v := 6) hx hb dX11_isOpen_70 (by decide) ?_
        refine x_calli hw (x_runV (ci := 11) C hw (m_X11_doorOf l C.2.2.2.2.2.2.2.2.1 hM h) (xoM_272 hM) rfl (x_gV xw_911 xw_912 xw_913 xw_5 xw_914) rfl rfl qX11_doorOf ⟨(Nat.le_of_ble_eq_true rfl), (Nat.le_of_ble_eq_true rfl)⟩ rfl hl.1 rfl (Nat.le_of_ble_eq_true rfl) dX11_isOpen_72) (fun r7 u6 H locs hw h => ?_)
        refine lv_iconst (v := 1) hx hb dX11_isOpen_75 (by decide) ?_
        refine lv_icmp_eq (tgt := 96) hx hb dX11_isOpen_76 (by decide) (fun c8 => ?_) (fun c8 => ?_)
        · have h := h.1 c8
          refine lv_iconst (v := 1) hx hb dX11_isOpen_96 (by decide) ?_
          refine lv_goto (tgt := 101) hx hb dX11_isOpen_97 (by decide) ?_
          exact x_zret true C hw h rfl dX11_isOpen_101
        · have h := h.2 c8
          refine lv_aload_n hx hb dX11_isOpen_79 rfl (lv_at hl 0 rfl) ?_
          refine lv_aload_n hx hb dX11_isOpen_80 rfl (lv_at hl 0 rfl) ?_
          refine lv_iload_n hx hb dX11_isOpen_81 rfl (lv_at hl 1 rfl) ?_
          refine lv_iconst (v := 5) hx hb dX11_isOpen_82 (by decide) ?_
          refine x_calli hw (x_runV (ci := 11) C hw (m_X11_doorOf l C.2.2.2.2.2.2.2.2.1 hM h) (xoM_272 hM) rfl (x_gV xw_911 xw_912 xw_913 xw_5 xw_914) rfl rfl qX11_doorOf ⟨(Nat.le_of_ble_eq_true rfl), (Nat.le_of_ble_eq_true rfl)⟩ rfl hl.1 rfl (Nat.le_of_ble_eq_true rfl) dX11_isOpen_83) (fun r10 u9 H locs hw h => ?_)
          refine lv_aload_n hx hb dX11_isOpen_86 rfl (lv_at hl 0 rfl) ?_
          refine x_calli hw (x_runV (ci := 11) C hw (m_X11_now l C.2.2.2.2.2.2.2.2.1 hM h) (xoM_272 hM) rfl (x_gV xw_922 xw_923 xw_924 xw_5 xw_925) rfl rfl qX11_now ⟨(Nat.le_of_ble_eq_true rfl), (Nat.le_of_ble_eq_true rfl)⟩ rfl hl.1 rfl (Nat.le_of_ble_eq_true rfl) dX11_isOpen_87) (fun r12 u11 H locs hw h => ?_)
          refine x_callz hw (x_runV (ci := 11) C hw (m_X11_isIn l C.2.2.2.2.2.2.2.2.1 hM h) (xoM_272 hM) rfl (x_gV xw_918 xw_919 xw_920 xw_5 xw_921) rfl rfl qX11_isIn ⟨(Nat.le_of_ble_eq_true rfl), (Nat.le_of_ble_eq_true rfl)⟩ rfl hl.1 rfl (Nat.le_of_ble_eq_true rfl) dX11_isOpen_90) (fun r14 u13 H locs hw h => ?_)
          refine lv_if_eq (tgt := 100) hx hb dX11_isOpen_93 (by decide) (fun c15 => ?_) (fun c15 => ?_)
          · have h := h.1 (xb_f c15)
            refine lv_iconst (v := 0) hx hb dX11_isOpen_100 (by decide) ?_
            exact x_zret false C hw h rfl dX11_isOpen_101
          · have h := h.2 (xb_t c15)
            refine lv_iconst (v := 1) hx hb dX11_isOpen_96 (by decide) ?_
            refine lv_goto (tgt := 101) hx hb dX11_isOpen_97 (by decide) ?_
            exact x_zret true C hw h rfl dX11_isOpen_101
      · have h := h.2 c5
        refine lv_aload_n hx hb dX11_isOpen_39 rfl (lv_at hl 0 rfl) ?_
        refine lv_iload_n hx hb dX11_isOpen_40 rfl (lv_at hl 1 rfl) ?_
        refine lv_bipush (v := 6) hx hb dX11_isOpen_41 (by decide) ?_
        refine x_calli hw (x_runV (ci := 11) C hw (m_X11_doorOf l C.2.2.2.2.2.2.2.2.1 hM h) (xoM_272 hM) rfl (x_gV xw_911 xw_912 xw_913 xw_5 xw_914) rfl rfl qX11_doorOf ⟨(Nat.le_of_ble_eq_true rfl), (Nat.le_of_ble_eq_true rfl)⟩ rfl hl.1 rfl (Nat.le_of_ble_eq_true rfl) dX11_isOpen_43) (fun r17 u16 H locs hw h => ?_)
        refine lv_iconst (v := 1) hx hb dX11_isOpen_46 (by decide) ?_
        refine lv_icmp_eq (tgt := 62) hx hb dX11_isOpen_47 (by decide) (fun c18 => ?_) (fun c18 => ?_)
        · have h := h.1 c18
          refine lv_iconst (v := 1) hx hb dX11_isOpen_62 (by decide) ?_
          refine lv_goto (tgt := 67) hx hb dX11_isOpen_63 (by decide) ?_
          exact x_zret true C hw h rfl dX11_isOpen_67
        · have h := h.2 c18
          refine lv_aload_n hx hb dX11_isOpen_50 rfl (lv_at hl 0 rfl) ?_
          refine lv_aload_n hx hb dX11_isOpen_51 rfl (lv_at hl 0 rfl) ?_
          refine x_geti (ci := 11) C hw 24 (xoM_272 hM) rfl inlX11 (by decide) rfl rfl xw_231 dX11_isOpen_52 ?_
          refine lv_iload_n hx hb dX11_isOpen_55 rfl (lv_at hl 1 rfl) ?_
          refine x_callz hw (x_runV (ci := 11) C hw (m_X11_isIn l C.2.2.2.2.2.2.2.2.1 hM h) (xoM_272 hM) rfl (x_gV xw_918 xw_919 xw_920 xw_5 xw_921) rfl rfl qX11_isIn ⟨(Nat.le_of_ble_eq_true rfl), (Nat.le_of_ble_eq_true rfl)⟩ rfl hl.1 rfl (Nat.le_of_ble_eq_true rfl) dX11_isOpen_56) (fun r20 u19 H locs hw h => ?_)
          refine lv_if_eq (tgt := 66) hx hb dX11_isOpen_59 (by decide) (fun c21 => ?_) (fun c21 => ?_)
          · have h := h.1 (xb_f c21)
            refine lv_iconst (v := 0) hx hb dX11_isOpen_66 (by decide) ?_
            exact x_zret false C hw h rfl dX11_isOpen_67
          · have h := h.2 (xb_t c21)
            refine lv_iconst (v := 1) hx hb dX11_isOpen_62 (by decide) ?_
            refine lv_goto (tgt := 67) hx hb dX11_isOpen_63 (by decide) ?_
            exact x_zret true C hw h rfl dX11_isOpen_67
    · have h := h.2 c4
      refine lv_aload_n hx hb dX11_isOpen_21 rfl (lv_at hl 0 rfl) ?_
      refine lv_aload_n hx hb dX11_isOpen_22 rfl (lv_at hl 0 rfl) ?_
      refine x_geti (ci := 11) C hw 23 (xoM_272 hM) rfl inlX11 (by decide) rfl rfl xw_230 dX11_isOpen_23 ?_
      refine lv_iload_n hx hb dX11_isOpen_26 rfl (lv_at hl 1 rfl) ?_
      refine x_callz hw (x_runV (ci := 11) C hw (m_X11_isIn l C.2.2.2.2.2.2.2.2.1 hM h) (xoM_272 hM) rfl (x_gV xw_918 xw_919 xw_920 xw_5 xw_921) rfl rfl qX11_isIn ⟨(Nat.le_of_ble_eq_true rfl), (Nat.le_of_ble_eq_true rfl)⟩ rfl hl.1 rfl (Nat.le_of_ble_eq_true rfl) dX11_isOpen_27) (fun r23 u22 H locs hw h => ?_)
      exact x_zret _ C hw h rfl dX11_isOpen_30
  · have h := h.2 c3
    refine lv_iconst (v := 0) hx hb dX11_isOpen_11 (by decide) ?_
    exact x_zret false C hw h rfl dX11_isOpen_12
set_option maxHeartbeats 4000000 in
set_option maxRecDepth 100000 in
theorem m_X11_isOpen (l : Launch) {g : xG} (hD : x_D g) (hM : xpM g) {a1 : Int32} {u : xM} {Qf : Bool → xM → Prop} (h : p_X11_isOpen a1 u Qf) : Met l yX11_isOpen (Cond.code yX11_isOpen cX11_isOpen 2 (some .boolean) :: wsL_law) (x_rm 2 42) (va_Pc [.ref (xad g 272), .int a1] (x_B g u)) (x_Qz g Qf) 0 0 (x_A g) := by
  refine Met.ofW (cc := cX11_isOpen) (maxL := 2) (ret := (some .boolean)) (by decide) rfl ?_
  intro p e s m args below meth c s₁ B hml hv
  obtain ⟨rfl, hB⟩ := hv
  obtain ⟨C, hw⟩ := x_start B hml hD hB
  have hl := lv_entry [.ref (xad g 272), .int a1] (n := 2) (Nat.le_of_ble_eq_true rfl)
  rw [lg_entry_eq]
  exact s_X11_isOpen C hM hw hl h
set_option maxHeartbeats 4000000 in
set_option maxRecDepth 100000 in
theorem s_X11_driveOf {Qf : Int32 → xM → Prop} {a1 : Int32} (C : x_C p s m args meth c g RX11 cX11_driveOf 4 (some .int)) (hM : xpM g) {u : xM} {H : Heap} {locs : List Loc} {ls : Array Slot} (hw : x_W g s.heap H locs u) (hl : lv_has ls 4 [(0, .ref (xad g 272)), (1, .int a1)]) (h : p_X11_driveOf a1 u Qf) : W p l e (x_rm 4 84) s m args below meth c H locs 0 0 (MQ below (x_Qi g Qf) args s 0 0 (x_A g)) (F0 m 0 ls []) := by
  unfold p_X11_driveOf at h
  have hx := C.1
  have hb := C.2.1
  refine lv_aload_n hx hb dX11_driveOf_0 rfl (lv_at hl 0 rfl) ?_
  refine lv_aload_n hx hb dX11_driveOf_1 rfl (lv_at hl 0 rfl) ?_
  refine lv_iload_n hx hb dX11_driveOf_2 rfl (lv_at hl 1 rfl) ?_
  refine lv_iconst (v := 0) hx hb dX11_driveOf_3 (by decide) ?_
  refine x_calli hw (x_runV (ci := 11) C hw (m_X11_doorOf l C.2.2.2.2.2.2.2.2.1 hM h) (xoM_272 hM) rfl (x_gV xw_911 xw_912 xw_913 xw_5 xw_914) rfl rfl qX11_doorOf ⟨(Nat.le_of_ble_eq_true rfl), (Nat.le_of_ble_eq_true rfl)⟩ rfl hl.1 rfl (Nat.le_of_ble_eq_true rfl) dX11_driveOf_4) (fun r2 u1 H locs hw h => ?_)
  refine x_calli hw (x_runV (ci := 11) C hw (m_X11_surfaceOf l C.2.2.2.2.2.2.2.2.1 hM h) (xoM_272 hM) rfl (x_gV xw_949 xw_950 xw_951 xw_5 xw_952) rfl rfl qX11_surfaceOf ⟨(Nat.le_of_ble_eq_true rfl), (Nat.le_of_ble_eq_true rfl)⟩ rfl hl.1 rfl (Nat.le_of_ble_eq_true rfl) dX11_driveOf_7) (fun r4 u3 H locs hw h => ?_)
  refine lv_istore_n (lv' := [(2, .int r4), (0, .ref (xad g 272)), (1, .int a1)]) hx hb dX11_driveOf_10 rfl hl (by decide) rfl (fun ls hl => ?_)
  refine lv_aload_n hx hb dX11_driveOf_11 rfl (lv_at hl 1 rfl) ?_
  refine lv_aload_n hx hb dX11_driveOf_12 rfl (lv_at hl 1 rfl) ?_
  refine lv_iload_n hx hb dX11_driveOf_13 rfl (lv_at hl 2 rfl) ?_
  refine lv_iconst (v := 1) hx hb dX11_driveOf_14 (by decide) ?_
  refine x_calli hw (x_runV (ci := 11) C hw (m_X11_doorOf l C.2.2.2.2.2.2.2.2.1 hM h) (xoM_272 hM) rfl (x_gV xw_911 xw_912 xw_913 xw_5 xw_914) rfl rfl qX11_doorOf ⟨(Nat.le_of_ble_eq_true rfl), (Nat.le_of_ble_eq_true rfl)⟩ rfl hl.1 rfl (Nat.le_of_ble_eq_true rfl) dX11_driveOf_15) (fun r6 u5 H locs hw h => ?_)
  refine x_calli hw (x_runV (ci := 11) C hw (m_X11_surfaceOf l C.2.2.2.2.2.2.2.2.1 hM h) (xoM_272 hM) rfl (x_gV xw_949 xw_950 xw_951 xw_5 xw_952) rfl rfl qX11_surfaceOf ⟨(Nat.le_of_ble_eq_true rfl), (Nat.le_of_ble_eq_true rfl)⟩ rfl hl.1 rfl (Nat.le_of_ble_eq_true rfl) dX11_driveOf_18) (fun r8 u7 H locs hw h => ?_)
  refine lv_istore_n (lv' := [(3, .int r8), (2, .int r4), (0, .ref (xad g 272)), (1, .int a1)]) hx hb dX11_driveOf_21 rfl hl (by decide) rfl (fun ls hl => ?_)
  refine lv_iconst (v := 0) hx hb dX11_driveOf_22 (by decide) ?_
  refine lv_iload_n hx hb dX11_driveOf_23 rfl (lv_at hl 1 rfl) ?_
  refine lv_iload_n hx hb dX11_driveOf_24 rfl (lv_at hl 0 rfl) ?_
  refine x_mmax C hl.1 xw_1056 (Nat.le_of_ble_eq_true rfl) (Nat.le_of_ble_eq_true rfl) dX11_driveOf_25 ?_
  refine lv_topi (fun x9 ex9 => ?_)
  have h := h x9 ex9
  refine lv_aload_n hx hb dX11_driveOf_28 rfl (lv_at hl 2 rfl) ?_
  refine lv_iload_n hx hb dX11_driveOf_29 rfl (lv_at hl 3 rfl) ?_
  refine lv_iconst (v := 2) hx hb dX11_driveOf_30 (by decide) ?_
  refine x_calli hw (x_runV (ci := 11) C hw (m_X11_doorOf l C.2.2.2.2.2.2.2.2.1 hM h) (xoM_272 hM) rfl (x_gV xw_911 xw_912 xw_913 xw_5 xw_914) rfl rfl qX11_doorOf ⟨(Nat.le_of_ble_eq_true rfl), (Nat.le_of_ble_eq_true rfl)⟩ rfl hl.1 rfl (Nat.le_of_ble_eq_true rfl) dX11_driveOf_31) (fun r11 u10 H locs hw h => ?_)
  refine lv_isub hx hb dX11_driveOf_34 ?_
  refine lv_iload_n hx hb dX11_driveOf_35 rfl (lv_at hl 1 rfl) ?_
  refine lv_iload_n hx hb dX11_driveOf_36 rfl (lv_at hl 0 rfl) ?_
  refine lv_isub hx hb dX11_driveOf_37 ?_
  refine x_mabs C hl.1 xw_1057 (Nat.le_of_ble_eq_true rfl) (Nat.le_of_ble_eq_true rfl) dX11_driveOf_38 ?_
  refine lv_topi (fun x12 ex12 => ?_)
  have h := h x12 ex12
  refine x_mmin C hl.1 xw_646 (Nat.le_of_ble_eq_true rfl) (Nat.le_of_ble_eq_true rfl) dX11_driveOf_41 ?_
  refine lv_topi (fun x13 ex13 => ?_)
  have h := h x13 ex13
  refine x_mmax C hl.1 xw_1056 (Nat.le_of_ble_eq_true rfl) (Nat.le_of_ble_eq_true rfl) dX11_driveOf_44 ?_
  refine lv_topi (fun x14 ex14 => ?_)
  have h := h x14 ex14
  exact x_iret C hw h dX11_driveOf_47
set_option maxHeartbeats 4000000 in
set_option maxRecDepth 100000 in
theorem m_X11_driveOf (l : Launch) {g : xG} (hD : x_D g) (hM : xpM g) {a1 : Int32} {u : xM} {Qf : Int32 → xM → Prop} (h : p_X11_driveOf a1 u Qf) : Met l yX11_driveOf (Cond.code yX11_driveOf cX11_driveOf 4 (some .int) :: wsL_law) (x_rm 4 84) (va_Pc [.ref (xad g 272), .int a1] (x_B g u)) (x_Qi g Qf) 0 0 (x_A g) := by
  refine Met.ofW (cc := cX11_driveOf) (maxL := 4) (ret := (some .int)) (by decide) rfl ?_
  intro p e s m args below meth c s₁ B hml hv
  obtain ⟨rfl, hB⟩ := hv
  obtain ⟨C, hw⟩ := x_start B hml hD hB
  have hl := lv_entry [.ref (xad g 272), .int a1] (n := 4) (Nat.le_of_ble_eq_true rfl)
  rw [lg_entry_eq]
  exact s_X11_driveOf C hM hw hl h
set_option maxHeartbeats 4000000 in
set_option maxRecDepth 100000 in
theorem s_X11_flowBy_L43 {Qf : Int32 → xM → Prop} (C : x_C p s m args meth c g RX11 cX11_flowBy 4 (some .int)) (hM : xpM g) {v1 : Int32} {v3 : Int32} {u : xM} {H : Heap} {locs : List Loc} {ls : Array Slot} (hw : x_W g s.heap H locs u) (hl : lv_has ls 4 [(0, .ref (xad g 272)), (1, .int v1), (3, .int v3)]) (h : p_X11_flowBy_L43 Qf v1 v3 u) : W p l e (x_rm 5 107) s m args below meth c H locs 0 0 (MQ below (x_Qi g Qf) args s 0 0 (x_A g)) (F0 m 43 ls []) := by
  unfold p_X11_flowBy_L43 at h
  have hx := C.1
  have hb := C.2.1
  refine lv_aload_n hx hb dX11_flowBy_43 rfl (lv_at hl 0 rfl) ?_
  refine lv_aload_n hx hb dX11_flowBy_44 rfl (lv_at hl 0 rfl) ?_
  refine lv_iload_n hx hb dX11_flowBy_45 rfl (lv_at hl 1 rfl) ?_
  refine lv_iconst (v := 0) hx hb dX11_flowBy_46 (by decide) ?_
  refine x_calli hw (x_runV (ci := 11) C hw (m_X11_doorOf l C.2.2.2.2.2.2.2.2.1 hM h) (xoM_272 hM) rfl (x_gV xw_911 xw_912 xw_913 xw_5 xw_914) rfl rfl qX11_doorOf ⟨(Nat.le_of_ble_eq_true rfl), (Nat.le_of_ble_eq_true rfl)⟩ rfl hl.1 rfl (Nat.le_of_ble_eq_true rfl) dX11_flowBy_47) (fun r2 u1 H locs hw h => ?_)
  refine x_calli hw (x_runV (ci := 11) C hw (m_X11_surfaceOf l C.2.2.2.2.2.2.2.2.1 hM h) (xoM_272 hM) rfl (x_gV xw_949 xw_950 xw_951 xw_5 xw_952) rfl rfl qX11_surfaceOf ⟨(Nat.le_of_ble_eq_true rfl), (Nat.le_of_ble_eq_true rfl)⟩ rfl hl.1 rfl (Nat.le_of_ble_eq_true rfl) dX11_flowBy_50) (fun r4 u3 H locs hw h => ?_)
  refine lv_aload_n hx hb dX11_flowBy_53 rfl (lv_at hl 0 rfl) ?_
  refine lv_aload_n hx hb dX11_flowBy_54 rfl (lv_at hl 0 rfl) ?_
  refine lv_iload_n hx hb dX11_flowBy_55 rfl (lv_at hl 1 rfl) ?_
  refine lv_iconst (v := 1) hx hb dX11_flowBy_56 (by decide) ?_
  refine x_calli hw (x_runV (ci := 11) C hw (m_X11_doorOf l C.2.2.2.2.2.2.2.2.1 hM h) (xoM_272 hM) rfl (x_gV xw_911 xw_912 xw_913 xw_5 xw_914) rfl rfl qX11_doorOf ⟨(Nat.le_of_ble_eq_true rfl), (Nat.le_of_ble_eq_true rfl)⟩ rfl hl.1 rfl (Nat.le_of_ble_eq_true rfl) dX11_flowBy_57) (fun r6 u5 H locs hw h => ?_)
  refine x_calli hw (x_runV (ci := 11) C hw (m_X11_surfaceOf l C.2.2.2.2.2.2.2.2.1 hM h) (xoM_272 hM) rfl (x_gV xw_949 xw_950 xw_951 xw_5 xw_952) rfl rfl qX11_surfaceOf ⟨(Nat.le_of_ble_eq_true rfl), (Nat.le_of_ble_eq_true rfl)⟩ rfl hl.1 rfl (Nat.le_of_ble_eq_true rfl) dX11_flowBy_60) (fun r8 u7 H locs hw h => ?_)
  refine lv_icmp_lt (tgt := 70) hx hb dX11_flowBy_63 (by decide) (fun c9 => ?_) (fun c9 => ?_)
  · have h := h.1 c9
    refine lv_iload_n hx hb dX11_flowBy_70 rfl (lv_at hl 2 rfl) ?_
    refine lv_ineg hx hb dX11_flowBy_71 ?_
    exact x_iret C hw h dX11_flowBy_72
  · have h := h.2 c9
    refine lv_iload_n hx hb dX11_flowBy_66 rfl (lv_at hl 2 rfl) ?_
    refine lv_goto (tgt := 72) hx hb dX11_flowBy_67 (by decide) ?_
    exact x_iret C hw h dX11_flowBy_72
set_option maxHeartbeats 4000000 in
set_option maxRecDepth 100000 in
theorem s_X11_flowBy_L42 {Qf : Int32 → xM → Prop} (C : x_C p s m args meth c g RX11 cX11_flowBy 4 (some .int)) (hM : xpM g) {v1 : Int32} {w0 : Int32} {u : xM} {H : Heap} {locs : List Loc} {ls : Array Slot} (hw : x_W g s.heap H locs u) (hl : lv_has ls 4 [(0, .ref (xad g 272)), (1, .int v1)]) (h : p_X11_flowBy_L42 Qf v1 w0 u) : W p l e (x_rm 5 107) s m args below meth c H locs 0 0 (MQ below (x_Qi g Qf) args s 0 0 (x_A g)) (F0 m 42 ls [.int w0]) := by
  unfold p_X11_flowBy_L42 at h
  have hx := C.1
  have hb := C.2.1
  refine lv_istore_n (lv' := [(3, .int w0), (0, .ref (xad g 272)), (1, .int v1)]) hx hb dX11_flowBy_42 rfl hl (by decide) rfl (fun ls hl => ?_)
  exact s_X11_flowBy_L43 C hM hw (lv_sub hl [1, 2, 0] rfl) h
set_option maxHeartbeats 4000000 in
set_option maxRecDepth 100000 in
theorem s_X11_flowBy {Qf : Int32 → xM → Prop} {a1 : Int32} {a2 : Bool} (C : x_C p s m args meth c g RX11 cX11_flowBy 4 (some .int)) (hM : xpM g) {u : xM} {H : Heap} {locs : List Loc} {ls : Array Slot} (hw : x_W g s.heap H locs u) (hl : lv_has ls 4 [(0, .ref (xad g 272)), (1, .int a1), (2, .int (xb a2))]) (h : p_X11_flowBy a1 a2 u Qf) : W p l e (x_rm 5 107) s m args below meth c H locs 0 0 (MQ below (x_Qi g Qf) args s 0 0 (x_A g)) (F0 m 0 ls []) := by
  unfold p_X11_flowBy at h
  have hx := C.1
  have hb := C.2.1
  refine lv_aload_n hx hb dX11_flowBy_0 rfl (lv_at hl 0 rfl) ?_
  refine lv_iload_n hx hb dX11_flowBy_1 rfl (lv_at hl 1 rfl) ?_
  refine x_calli hw (x_runV (ci := 11) C hw (m_X11_driveOf l C.2.2.2.2.2.2.2.2.1 hM h) (xoM_272 hM) rfl (x_gV xw_1052 xw_1053 xw_1054 xw_5 xw_1055) rfl rfl qX11_driveOf ⟨(Nat.le_of_ble_eq_true rfl), (Nat.le_of_ble_eq_true rfl)⟩ rfl hl.1 rfl (Nat.le_of_ble_eq_true rfl) dX11_flowBy_2) (fun r2 u1 H locs hw h => ?_)
  refine lv_aload_n hx hb dX11_flowBy_5 rfl (lv_at hl 0 rfl) ?_
  refine lv_iload_n hx hb dX11_flowBy_6 rfl (lv_at hl 1 rfl) ?_
  refine lv_iconst (v := 3) hx hb dX11_flowBy_7 (by decide) ?_
  refine x_calli hw (x_runV (ci := 11) C hw (m_X11_doorOf l C.2.2.2.2.2.2.2.2.1 hM h) (xoM_272 hM) rfl (x_gV xw_911 xw_912 xw_913 xw_5 xw_914) rfl rfl qX11_doorOf ⟨(Nat.le_of_ble_eq_true rfl), (Nat.le_of_ble_eq_true rfl)⟩ rfl hl.1 rfl (Nat.le_of_ble_eq_true rfl) dX11_flowBy_8) (fun r4 u3 H locs hw h => ?_)
  refine lv_imul hx hb dX11_flowBy_11 ?_
  refine lv_topi (fun x5 ex5 => ?_)
  have h := h x5 ex5
  refine lv_istore_n (lv' := [(3, .int x5), (0, .ref (xad g 272)), (1, .int a1), (2, .int (xb a2))]) hx hb dX11_flowBy_12 rfl hl (by decide) rfl (fun ls hl => ?_)
  refine lv_iload_n hx hb dX11_flowBy_13 rfl (lv_at hl 3 rfl) ?_
  refine lv_if_ne (tgt := 43) hx hb dX11_flowBy_14 (by decide) (fun c6 => ?_) (fun c6 => ?_)
  · have h := h.1 (xb_t c6)
    exact s_X11_flowBy_L43 C hM hw (lv_sub hl [1, 2, 0] rfl) h
  · have h := h.2 (xb_f c6)
    refine lv_aload_n hx hb dX11_flowBy_17 rfl (lv_at hl 1 rfl) ?_
    refine lv_iload_n hx hb dX11_flowBy_18 rfl (lv_at hl 2 rfl) ?_
    refine lv_bipush (v := 7) hx hb dX11_flowBy_19 (by decide) ?_
    refine x_calli hw (x_runV (ci := 11) C hw (m_X11_doorOf l C.2.2.2.2.2.2.2.2.1 hM h) (xoM_272 hM) rfl (x_gV xw_911 xw_912 xw_913 xw_5 xw_914) rfl rfl qX11_doorOf ⟨(Nat.le_of_ble_eq_true rfl), (Nat.le_of_ble_eq_true rfl)⟩ rfl hl.1 rfl (Nat.le_of_ble_eq_true rfl) dX11_flowBy_21) (fun r8 u7 H locs hw h => ?_)
    refine lv_iconst (v := 1) hx hb dX11_flowBy_24 (by decide) ?_
    refine lv_icmp_ne (tgt := 32) hx hb dX11_flowBy_25 (by decide) (fun c9 => ?_) (fun c9 => ?_)
    · have h := h.1 c9
      refine lv_iload_n hx hb dX11_flowBy_32 rfl (lv_at hl 0 rfl) ?_
      refine lv_aload_n hx hb dX11_flowBy_33 rfl (lv_at hl 1 rfl) ?_
      refine lv_iload_n hx hb dX11_flowBy_34 rfl (lv_at hl 2 rfl) ?_
      refine lv_iconst (v := 4) hx hb dX11_flowBy_35 (by decide) ?_
      refine x_calli hw (x_runV (ci := 11) C hw (m_X11_doorOf l C.2.2.2.2.2.2.2.2.1 hM h) (xoM_272 hM) rfl (x_gV xw_911 xw_912 xw_913 xw_5 xw_914) rfl rfl qX11_doorOf ⟨(Nat.le_of_ble_eq_true rfl), (Nat.le_of_ble_eq_true rfl)⟩ rfl hl.1 rfl (Nat.le_of_ble_eq_true rfl) dX11_flowBy_36) (fun r11 u10 H locs hw h => ?_)
      refine x_mmin C hl.1 xw_646 (Nat.le_of_ble_eq_true rfl) (Nat.le_of_ble_eq_true rfl) dX11_flowBy_39 ?_
      refine lv_topi (fun x12 ex12 => ?_)
      have h := h x12 ex12
      exact s_X11_flowBy_L42 C hM hw (lv_sub hl [1, 2] rfl) h
    · have h := h.2 c9
      refine lv_iconst (v := 0) hx hb dX11_flowBy_28 (by decide) ?_
      refine lv_goto (tgt := 42) hx hb dX11_flowBy_29 (by decide) ?_
      exact s_X11_flowBy_L42 C hM hw (lv_sub hl [1, 2] rfl) h
set_option maxHeartbeats 4000000 in
set_option maxRecDepth 100000 in
theorem m_X11_flowBy (l : Launch) {g : xG} (hD : x_D g) (hM : xpM g) {a1 : Int32} {a2 : Bool} {u : xM} {Qf : Int32 → xM → Prop} (h : p_X11_flowBy a1 a2 u Qf) : Met l yX11_flowBy (Cond.code yX11_flowBy cX11_flowBy 4 (some .int) :: wsL_law) (x_rm 5 107) (va_Pc [.ref (xad g 272), .int a1, .int (xb a2)] (x_B g u)) (x_Qi g Qf) 0 0 (x_A g) := by
  refine Met.ofW (cc := cX11_flowBy) (maxL := 4) (ret := (some .int)) (by decide) rfl ?_
  intro p e s m args below meth c s₁ B hml hv
  obtain ⟨rfl, hB⟩ := hv
  obtain ⟨C, hw⟩ := x_start B hml hD hB
  have hl := lv_entry [.ref (xad g 272), .int a1, .int (xb a2)] (n := 4) (Nat.le_of_ble_eq_true rfl)
  rw [lg_entry_eq]
  exact s_X11_flowBy C hM hw hl h
set_option maxHeartbeats 4000000 in
set_option maxRecDepth 100000 in
theorem s_X11_flowOf {Qf : Int32 → xM → Prop} {a1 : Int32} (C : x_C p s m args meth c g RX11 cX11_flowOf 2 (some .int)) (hM : xpM g) {u : xM} {H : Heap} {locs : List Loc} {ls : Array Slot} (hw : x_W g s.heap H locs u) (hl : lv_has ls 2 [(0, .ref (xad g 272)), (1, .int a1)]) (h : p_X11_flowOf a1 u Qf) : W p l e (x_rm 6 130) s m args below meth c H locs 0 0 (MQ below (x_Qi g Qf) args s 0 0 (x_A g)) (F0 m 0 ls []) := by
  unfold p_X11_flowOf at h
  have hx := C.1
  have hb := C.2.1
  refine lv_aload_n hx hb dX11_flowOf_0 rfl (lv_at hl 0 rfl) ?_
  refine lv_iload_n hx hb dX11_flowOf_1 rfl (lv_at hl 1 rfl) ?_
  refine lv_aload_n hx hb dX11_flowOf_2 rfl (lv_at hl 0 rfl) ?_
  refine lv_iload_n hx hb dX11_flowOf_3 rfl (lv_at hl 1 rfl) ?_
  refine x_callz hw (x_runV (ci := 11) C hw (m_X11_isOpen l C.2.2.2.2.2.2.2.2.1 hM h) (xoM_272 hM) rfl (x_gV xw_907 xw_908 xw_909 xw_5 xw_910) rfl rfl qX11_isOpen ⟨(Nat.le_of_ble_eq_true rfl), (Nat.le_of_ble_eq_true rfl)⟩ rfl hl.1 rfl (Nat.le_of_ble_eq_true rfl) dX11_flowOf_4) (fun r2 u1 H locs hw h => ?_)
  refine x_calli hw (x_runV (ci := 11) C hw (m_X11_flowBy l C.2.2.2.2.2.2.2.2.1 hM h) (xoM_272 hM) rfl (x_gV xw_1073 xw_1074 xw_1075 xw_5 xw_1076) rfl rfl qX11_flowBy ⟨(Nat.le_of_ble_eq_true rfl), (Nat.le_of_ble_eq_true rfl)⟩ rfl hl.1 rfl (Nat.le_of_ble_eq_true rfl) dX11_flowOf_7) (fun r4 u3 H locs hw h => ?_)
  exact x_iret C hw h dX11_flowOf_10
set_option maxHeartbeats 4000000 in
set_option maxRecDepth 100000 in
theorem m_X11_flowOf (l : Launch) {g : xG} (hD : x_D g) (hM : xpM g) {a1 : Int32} {u : xM} {Qf : Int32 → xM → Prop} (h : p_X11_flowOf a1 u Qf) : Met l yX11_flowOf (Cond.code yX11_flowOf cX11_flowOf 2 (some .int) :: wsL_law) (x_rm 6 130) (va_Pc [.ref (xad g 272), .int a1] (x_B g u)) (x_Qi g Qf) 0 0 (x_A g) := by
  refine Met.ofW (cc := cX11_flowOf) (maxL := 2) (ret := (some .int)) (by decide) rfl ?_
  intro p e s m args below meth c s₁ B hml hv
  obtain ⟨rfl, hB⟩ := hv
  obtain ⟨C, hw⟩ := x_start B hml hD hB
  have hl := lv_entry [.ref (xad g 272), .int a1] (n := 2) (Nat.le_of_ble_eq_true rfl)
  rw [lg_entry_eq]
  exact s_X11_flowOf C hM hw hl h
set_option maxHeartbeats 4000000 in
set_option maxRecDepth 100000 in
theorem s_X11_allWater_L4 {Qf : Int32 → xM → Prop} (C : x_C p s m args meth c g RX11 cX11_allWater 3 (some .int)) (hM : xpM g) : ∀ (nn : Nat) {v1 : Int32} {v2 : Int32} {u : xM} {H : Heap} {locs : List Loc} {ls : Array Slot} (hw : x_W g s.heap H locs u) (hl : lv_has ls 3 [(0, .ref (xad g 272)), (1, .int v1), (2, .int v2)]) (h : p_X11_allWater_L4 Qf nn v1 v2 u), W p l e (x_rm 2 42) s m args below meth c H locs 0 0 (MQ below (x_Qi g Qf) args s 0 0 (x_A g)) (F0 m 4 ls []) := by
  intro nn
  induction nn with
  | zero => intro v1 v2 u H locs ls hw hl h; exact h.elim
  | succ nn ih =>
    intro v1 v2 u H locs ls hw hl h
    unfold p_X11_allWater_L4 at h
    have hx := C.1
    have hb := C.2.1
    refine lv_iload_n hx hb dX11_allWater_4 rfl (lv_at hl 2 rfl) ?_
    refine lv_aload_n hx hb dX11_allWater_5 rfl (lv_at hl 0 rfl) ?_
    refine x_getr (ci := 11) C hw 0 (xoM_272 hM) rfl inlX11 (by decide) rfl rfl xrM_272_0 xw_219 dX11_allWater_6 ?_
    refine lv_iconst (v := 0) hx hb dX11_allWater_9 (by decide) ?_
    have c1 := h.1
    have h := h.2
    refine x_iald C hw (xoM_273 hM) c1 dX11_allWater_10 ?_
    refine lv_icmp_ge (tgt := 29) hx hb dX11_allWater_11 (by decide) (fun c2 => ?_) (fun c2 => ?_)
    · have h := h.1 c2
      refine lv_iload_n hx hb dX11_allWater_29 rfl (lv_at hl 1 rfl) ?_
      exact x_iret C hw h dX11_allWater_30
    · have h := h.2 c2
      refine lv_iload_n hx hb dX11_allWater_14 rfl (lv_at hl 1 rfl) ?_
      refine lv_aload_n hx hb dX11_allWater_15 rfl (lv_at hl 0 rfl) ?_
      refine lv_iload_n hx hb dX11_allWater_16 rfl (lv_at hl 2 rfl) ?_
      refine lv_iconst (v := 4) hx hb dX11_allWater_17 (by decide) ?_
      refine x_calli hw (x_runV (ci := 11) C hw (m_X11_roomOf l C.2.2.2.2.2.2.2.2.1 hM h) (xoM_272 hM) rfl (x_gV xw_892 xw_893 xw_894 xw_5 xw_895) rfl rfl qX11_roomOf ⟨(Nat.le_of_ble_eq_true rfl), (Nat.le_of_ble_eq_true rfl)⟩ rfl hl.1 rfl (Nat.le_of_ble_eq_true rfl) dX11_allWater_18) (fun r4 u3 H locs hw h => ?_)
      refine lv_iadd hx hb dX11_allWater_21 ?_
      refine lv_topi (fun x5 ex5 => ?_)
      have h := h x5 ex5
      refine lv_istore_n (lv' := [(1, .int x5), (0, .ref (xad g 272)), (2, .int v2)]) hx hb dX11_allWater_22 rfl hl (by decide) rfl (fun ls hl => ?_)
      obtain ⟨x6, ex6⟩ : ∃ y : Int32, y = v2 + 1 := ⟨_, rfl⟩
      have h := h x6 ex6
      refine lv_iinc (v := x6) (lv' := [(2, .int x6), (1, .int x5), (0, .ref (xad g 272))]) hx hb dX11_allWater_23 hl (k := 2) rfl (by rw [ex6]; rfl) (by decide) rfl (fun ls hl => ?_)
      refine lv_goto (tgt := 4) hx hb dX11_allWater_26 (by decide) ?_
      exact ih hw (lv_sub hl [2, 1, 0] rfl) h
set_option maxHeartbeats 4000000 in
set_option maxRecDepth 100000 in
theorem s_X11_allWater {Qf : Int32 → xM → Prop} (C : x_C p s m args meth c g RX11 cX11_allWater 3 (some .int)) (hM : xpM g) {u : xM} {H : Heap} {locs : List Loc} {ls : Array Slot} (hw : x_W g s.heap H locs u) (hl : lv_has ls 3 [(0, .ref (xad g 272))]) (h : p_X11_allWater  u Qf) : W p l e (x_rm 2 42) s m args below meth c H locs 0 0 (MQ below (x_Qi g Qf) args s 0 0 (x_A g)) (F0 m 0 ls []) := by
  unfold p_X11_allWater at h
  have hx := C.1
  have hb := C.2.1
  refine lv_iconst (v := 0) hx hb dX11_allWater_0 (by decide) ?_
  refine lv_istore_n (lv' := [(1, .int 0), (0, .ref (xad g 272))]) hx hb dX11_allWater_1 rfl hl (by decide) rfl (fun ls hl => ?_)
  refine lv_iconst (v := 0) hx hb dX11_allWater_2 (by decide) ?_
  refine lv_istore_n (lv' := [(2, .int 0), (1, .int 0), (0, .ref (xad g 272))]) hx hb dX11_allWater_3 rfl hl (by decide) rfl (fun ls hl => ?_)
  obtain ⟨n9, h⟩ := h
  exact s_X11_allWater_L4 C hM n9 hw (lv_sub hl [2, 1, 0] rfl) h
set_option maxHeartbeats 4000000 in
set_option maxRecDepth 100000 in
theorem m_X11_allWater (l : Launch) {g : xG} (hD : x_D g) (hM : xpM g) {u : xM} {Qf : Int32 → xM → Prop} (h : p_X11_allWater  u Qf) : Met l yX11_allWater (Cond.code yX11_allWater cX11_allWater 3 (some .int) :: wsL_law) (x_rm 2 42) (va_Pc [.ref (xad g 272)] (x_B g u)) (x_Qi g Qf) 0 0 (x_A g) := by
  refine Met.ofW (cc := cX11_allWater) (maxL := 3) (ret := (some .int)) (by decide) rfl ?_
  intro p e s m args below meth c s₁ B hml hv
  obtain ⟨rfl, hB⟩ := hv
  obtain ⟨C, hw⟩ := x_start B hml hD hB
  have hl := lv_entry [.ref (xad g 272)] (n := 3) (Nat.le_of_ble_eq_true rfl)
  rw [lg_entry_eq]
  exact s_X11_allWater C hM hw hl h
end
