section
variable {p : Program} {l : Launch} {e : Env} {s : State} {m : MethodId} {args : Array Value} {below : List Frame} {meth : Method} {c : Code} {g : xG}
set_option maxHeartbeats 4000000 in
set_option maxRecDepth 100000 in
theorem s_X11_isSmall {Qf : Bool → xM → Prop} {a1 : Int32} (C : x_C p s m args meth c g RX11 cX11_isSmall 1 (some .boolean)) {u : xM} {H : Heap} {locs : List Loc} {ls : Array Slot} (hw : x_W g s.heap H locs u) (hl : lv_has ls 1 [(0, .int a1)]) (h : p_X11_isSmall a1 u Qf) : W p l e (x_rm 0 0) s m args below meth c H locs 0 0 (MQ below (x_Qz g Qf) args s 0 0 (x_A g)) (F0 m 0 ls []) := by
  unfold p_X11_isSmall at h
  have hx := C.1
  have hb := C.2.1
  refine lv_iload_n hx hb dX11_isSmall_0 rfl (lv_at hl 0 rfl) ?_
  refine lv_bipush (v := 97) hx hb dX11_isSmall_1 (by decide) ?_
  refine lv_icmp_lt (tgt := 16) hx hb dX11_isSmall_3 (by decide) (fun c1 => ?_) (fun c1 => ?_)
  · have h := h.1 c1
    refine lv_iconst (v := 0) hx hb dX11_isSmall_16 (by decide) ?_
    exact x_zret false C hw h rfl dX11_isSmall_17
  · have h := h.2 c1
    refine lv_iload_n hx hb dX11_isSmall_6 rfl (lv_at hl 0 rfl) ?_
    refine lv_bipush (v := 122) hx hb dX11_isSmall_7 (by decide) ?_
    refine lv_icmp_gt (tgt := 16) hx hb dX11_isSmall_9 (by decide) (fun c2 => ?_) (fun c2 => ?_)
    · have h := h.1 c2
      refine lv_iconst (v := 0) hx hb dX11_isSmall_16 (by decide) ?_
      exact x_zret false C hw h rfl dX11_isSmall_17
    · have h := h.2 c2
      refine lv_iconst (v := 1) hx hb dX11_isSmall_12 (by decide) ?_
      refine lv_goto (tgt := 17) hx hb dX11_isSmall_13 (by decide) ?_
      exact x_zret true C hw h rfl dX11_isSmall_17
set_option maxHeartbeats 4000000 in
set_option maxRecDepth 100000 in
theorem m_X11_isSmall (l : Launch) {g : xG} (hD : x_D g) {a1 : Int32} {u : xM} {Qf : Bool → xM → Prop} (h : p_X11_isSmall a1 u Qf) : Met l yX11_isSmall (Cond.code yX11_isSmall cX11_isSmall 1 (some .boolean) :: wsL_law) (x_rm 0 0) (va_Pc [.int a1] (x_B g u)) (x_Qz g Qf) 0 0 (x_A g) := by
  refine Met.ofW (cc := cX11_isSmall) (maxL := 1) (ret := (some .boolean)) (by decide) rfl ?_
  intro p e s m args below meth c s₁ B hml hv
  obtain ⟨rfl, hB⟩ := hv
  obtain ⟨C, hw⟩ := x_start B hml hD hB
  have hl := lv_entry [.int a1] (n := 1) (Nat.le_of_ble_eq_true rfl)
  rw [lg_entry_eq]
  exact s_X11_isSmall C hw hl h
set_option maxHeartbeats 4000000 in
set_option maxRecDepth 100000 in
theorem s_X11_isDigit {Qf : Bool → xM → Prop} {a1 : Int32} (C : x_C p s m args meth c g RX11 cX11_isDigit 1 (some .boolean)) {u : xM} {H : Heap} {locs : List Loc} {ls : Array Slot} (hw : x_W g s.heap H locs u) (hl : lv_has ls 1 [(0, .int a1)]) (h : p_X11_isDigit a1 u Qf) : W p l e (x_rm 0 0) s m args below meth c H locs 0 0 (MQ below (x_Qz g Qf) args s 0 0 (x_A g)) (F0 m 0 ls []) := by
  unfold p_X11_isDigit at h
  have hx := C.1
  have hb := C.2.1
  refine lv_iload_n hx hb dX11_isDigit_0 rfl (lv_at hl 0 rfl) ?_
  refine lv_bipush (v := 48) hx hb dX11_isDigit_1 (by decide) ?_
  refine lv_icmp_lt (tgt := 16) hx hb dX11_isDigit_3 (by decide) (fun c1 => ?_) (fun c1 => ?_)
  · have h := h.1 c1
    refine lv_iconst (v := 0) hx hb dX11_isDigit_16 (by decide) ?_
    exact x_zret false C hw h rfl dX11_isDigit_17
  · have h := h.2 c1
    refine lv_iload_n hx hb dX11_isDigit_6 rfl (lv_at hl 0 rfl) ?_
    refine lv_bipush (v := 57) hx hb dX11_isDigit_7 (by decide) ?_
    refine lv_icmp_gt (tgt := 16) hx hb dX11_isDigit_9 (by decide) (fun c2 => ?_) (fun c2 => ?_)
    · have h := h.1 c2
      refine lv_iconst (v := 0) hx hb dX11_isDigit_16 (by decide) ?_
      exact x_zret false C hw h rfl dX11_isDigit_17
    · have h := h.2 c2
      refine lv_iconst (v := 1) hx hb dX11_isDigit_12 (by decide) ?_
      refine lv_goto (tgt := 17) hx hb dX11_isDigit_13 (by decide) ?_
      exact x_zret true C hw h rfl dX11_isDigit_17
set_option maxHeartbeats 4000000 in
set_option maxRecDepth 100000 in
theorem m_X11_isDigit (l : Launch) {g : xG} (hD : x_D g) {a1 : Int32} {u : xM} {Qf : Bool → xM → Prop} (h : p_X11_isDigit a1 u Qf) : Met l yX11_isDigit (Cond.code yX11_isDigit cX11_isDigit 1 (some .boolean) :: wsL_law) (x_rm 0 0) (va_Pc [.int a1] (x_B g u)) (x_Qz g Qf) 0 0 (x_A g) := by
  refine Met.ofW (cc := cX11_isDigit) (maxL := 1) (ret := (some .boolean)) (by decide) rfl ?_
  intro p e s m args below meth c s₁ B hml hv
  obtain ⟨rfl, hB⟩ := hv
  obtain ⟨C, hw⟩ := x_start B hml hD hB
  have hl := lv_entry [.int a1] (n := 1) (Nat.le_of_ble_eq_true rfl)
  rw [lg_entry_eq]
  exact s_X11_isDigit C hw hl h
set_option maxHeartbeats 4000000 in
set_option maxRecDepth 100000 in
theorem s_X11_ahead_L26 {Qf : xM → Prop} {K0 : xM → Prop} (C : x_C p s m args meth c g RX11 cX11_ahead 2 none) (hM : xpM g) (hK0 : ∀ {u : xM} {H : Heap} {locs : List Loc} {ls : Array Slot}, x_W g s.heap H locs u → lv_has ls 2 [(0, .ref (xad g 272))] → K0  u → W p l e (x_rm 1 80) s m args below meth c H locs 0 0 (MQ below (x_Qv g Qf) args s 0 0 (x_A g)) (F0 m 0 ls [])) {u : xM} {H : Heap} {locs : List Loc} {ls : Array Slot} (hw : x_W g s.heap H locs u) (hl : lv_has ls 2 [(0, .ref (xad g 272))]) (h : p_X11_ahead_L26 Qf K0  u) : W p l e (x_rm 1 80) s m args below meth c H locs 0 0 (MQ below (x_Qv g Qf) args s 0 0 (x_A g)) (F0 m 26 ls []) := by
  unfold p_X11_ahead_L26 at h
  have hx := C.1
  have hb := C.2.1
  refine lv_aload_n hx hb dX11_ahead_26 rfl (lv_at hl 0 rfl) ?_
  refine lv_dup hx hb dX11_ahead_27 rfl ?_
  refine x_geti (ci := 11) C hw 14 (xoM_272 hM) rfl inlX11 (by decide) rfl rfl xw_637 dX11_ahead_28 ?_
  refine lv_iconst (v := 1) hx hb dX11_ahead_31 (by decide) ?_
  refine lv_iadd hx hb dX11_ahead_32 ?_
  obtain ⟨u1, eu1⟩ : ∃ q : xM, q = si u 272 14 ((gi u 272 14) + (1 : Int32)) := ⟨_, rfl⟩
  have h := h u1 eu1
  refine x_puti (ci := 11) (ty := .int) C hw 14 (xoM_272 hM) rfl inlX11 tyX11_ok nmX11 (by decide) rfl rfl xw_637 rfl (by decide +kernel) rfl rfl dX11_ahead_33 eu1 (fun H locs hw => ?_)
  refine lv_goto (tgt := 0) hx hb dX11_ahead_36 (by decide) ?_
  exact hK0 hw (lv_sub hl [0] rfl) h
set_option maxHeartbeats 4000000 in
set_option maxRecDepth 100000 in
theorem s_X11_ahead_L128 {Qf : xM → Prop} (C : x_C p s m args meth c g RX11 cX11_ahead 2 none) (hM : xpM g) : ∀ (nn : Nat) {u : xM} {H : Heap} {locs : List Loc} {ls : Array Slot} (hw : x_W g s.heap H locs u) (hl : lv_has ls 2 [(0, .ref (xad g 272))]) (h : p_X11_ahead_L128 Qf nn  u), W p l e (x_rm 1 80) s m args below meth c H locs 0 0 (MQ below (x_Qv g Qf) args s 0 0 (x_A g)) (F0 m 128 ls []) := by
  intro nn
  induction nn with
  | zero => intro u H locs ls hw hl h; exact h.elim
  | succ nn ih =>
    intro u H locs ls hw hl h
    unfold p_X11_ahead_L128 at h
    have hx := C.1
    have hb := C.2.1
    refine lv_aload_n hx hb dX11_ahead_128 rfl (lv_at hl 0 rfl) ?_
    refine lv_aload_n hx hb dX11_ahead_129 rfl (lv_at hl 0 rfl) ?_
    refine x_geti (ci := 11) C hw 14 (xoM_272 hM) rfl inlX11 (by decide) rfl rfl xw_637 dX11_ahead_130 ?_
    refine x_calli hw (x_runV (ci := 11) C hw (m_X11_byteAt l C.2.2.2.2.2.2.2.2.1 hM h) (xoM_272 hM) rfl (x_gV xw_647 xw_648 xw_649 xw_5 xw_650) rfl rfl qX11_byteAt ⟨(Nat.le_of_ble_eq_true rfl), (Nat.le_of_ble_eq_true rfl)⟩ rfl hl.1 rfl (Nat.le_of_ble_eq_true rfl) dX11_ahead_133) (fun r2 u1 H locs hw h => ?_)
    refine x_callz hw (x_runS C hw (m_X11_isDigit l C.2.2.2.2.2.2.2.2.1  h) (x_gS xw_654 xw_655 xw_5 xw_656) rfl rfl qX11_isDigit ⟨(Nat.le_of_ble_eq_true rfl), (Nat.le_of_ble_eq_true rfl)⟩ rfl hl.1 rfl (Nat.le_of_ble_eq_true rfl) dX11_ahead_136) (fun r4 u3 H locs hw h => ?_)
    refine lv_if_eq (tgt := 183) hx hb dX11_ahead_139 (by decide) (fun c5 => ?_) (fun c5 => ?_)
    · have h := h.1 (xb_f c5)
      refine lv_aload_n hx hb dX11_ahead_183 rfl (lv_at hl 0 rfl) ?_
      refine lv_aload_n hx hb dX11_ahead_184 rfl (lv_at hl 0 rfl) ?_
      refine x_geti (ci := 11) C hw 14 (xoM_272 hM) rfl inlX11 (by decide) rfl rfl xw_637 dX11_ahead_185 ?_
      refine lv_aload_n hx hb dX11_ahead_188 rfl (lv_at hl 0 rfl) ?_
      refine x_geti (ci := 11) C hw 13 (xoM_272 hM) rfl inlX11 (by decide) rfl rfl xw_643 dX11_ahead_189 ?_
      refine lv_isub hx hb dX11_ahead_192 ?_
      refine lv_iconst (v := 4) hx hb dX11_ahead_193 (by decide) ?_
      refine lv_icmp_le (tgt := 201) hx hb dX11_ahead_194 (by decide) (fun c6 => ?_) (fun c6 => ?_)
      · have h := h.1 c6
        refine lv_iconst (v := 3) hx hb dX11_ahead_201 (by decide) ?_
        obtain ⟨u7, eu7⟩ : ∃ q : xM, q = si u3 272 12 (3 : Int32) := ⟨_, rfl⟩
        have h := h u7 eu7
        refine x_puti (ci := 11) (ty := .int) C hw 12 (xoM_272 hM) rfl inlX11 tyX11_ok nmX11 (by decide) rfl rfl xw_630 rfl (by decide +kernel) rfl rfl dX11_ahead_202 eu7 (fun H locs hw => ?_)
        refine lv_goto (tgt := 251) hx hb dX11_ahead_205 (by decide) ?_
        exact x_vret C hw h dX11_ahead_251
      · have h := h.2 c6
        refine lv_iconst (v := 1) hx hb dX11_ahead_197 (by decide) ?_
        refine lv_goto (tgt := 202) hx hb dX11_ahead_198 (by decide) ?_
        obtain ⟨u8, eu8⟩ : ∃ q : xM, q = si u3 272 12 (1 : Int32) := ⟨_, rfl⟩
        have h := h u8 eu8
        refine x_puti (ci := 11) (ty := .int) C hw 12 (xoM_272 hM) rfl inlX11 tyX11_ok nmX11 (by decide) rfl rfl xw_630 rfl (by decide +kernel) rfl rfl dX11_ahead_202 eu8 (fun H locs hw => ?_)
        refine lv_goto (tgt := 251) hx hb dX11_ahead_205 (by decide) ?_
        exact x_vret C hw h dX11_ahead_251
    · have h := h.2 (xb_t c5)
      refine lv_aload_n hx hb dX11_ahead_142 rfl (lv_at hl 0 rfl) ?_
      refine lv_ldc (v := 100000) hx hb C.2.2.2.1 (C.2.2.2.2.1 _ xw_645) dX11_ahead_143 ?_
      refine lv_bipush (v := 10) hx hb dX11_ahead_145 (by decide) ?_
      refine lv_aload_n hx hb dX11_ahead_147 rfl (lv_at hl 0 rfl) ?_
      refine x_geti (ci := 11) C hw 15 (xoM_272 hM) rfl inlX11 (by decide) rfl rfl xw_644 dX11_ahead_148 ?_
      refine lv_imul hx hb dX11_ahead_151 ?_
      refine lv_aload_n hx hb dX11_ahead_152 rfl (lv_at hl 0 rfl) ?_
      refine lv_aload_n hx hb dX11_ahead_153 rfl (lv_at hl 0 rfl) ?_
      refine x_geti (ci := 11) C hw 14 (xoM_272 hM) rfl inlX11 (by decide) rfl rfl xw_637 dX11_ahead_154 ?_
      refine x_calli hw (x_runV (ci := 11) C hw (m_X11_byteAt l C.2.2.2.2.2.2.2.2.1 hM h) (xoM_272 hM) rfl (x_gV xw_647 xw_648 xw_649 xw_5 xw_650) rfl rfl qX11_byteAt ⟨(Nat.le_of_ble_eq_true rfl), (Nat.le_of_ble_eq_true rfl)⟩ rfl hl.1 rfl (Nat.le_of_ble_eq_true rfl) dX11_ahead_157) (fun r10 u9 H locs hw h => ?_)
      refine lv_iadd hx hb dX11_ahead_160 ?_
      refine lv_bipush (v := 48) hx hb dX11_ahead_161 (by decide) ?_
      refine lv_isub hx hb dX11_ahead_163 ?_
      refine x_mmin C hl.1 xw_646 (Nat.le_of_ble_eq_true rfl) (Nat.le_of_ble_eq_true rfl) dX11_ahead_164 ?_
      refine lv_topi (fun x11 ex11 => ?_)
      have h := h x11 ex11
      obtain ⟨u12, eu12⟩ : ∃ q : xM, q = si u9 272 15 x11 := ⟨_, rfl⟩
      have h := h u12 eu12
      refine x_puti (ci := 11) (ty := .int) C hw 15 (xoM_272 hM) rfl inlX11 tyX11_ok nmX11 (by decide) rfl rfl xw_644 rfl (by decide +kernel) rfl rfl dX11_ahead_167 eu12 (fun H locs hw => ?_)
      refine lv_aload_n hx hb dX11_ahead_170 rfl (lv_at hl 0 rfl) ?_
      refine lv_dup hx hb dX11_ahead_171 rfl ?_
      refine x_geti (ci := 11) C hw 14 (xoM_272 hM) rfl inlX11 (by decide) rfl rfl xw_637 dX11_ahead_172 ?_
      refine lv_iconst (v := 1) hx hb dX11_ahead_175 (by decide) ?_
      refine lv_iadd hx hb dX11_ahead_176 ?_
      obtain ⟨u13, eu13⟩ : ∃ q : xM, q = si u12 272 14 ((gi u12 272 14) + (1 : Int32)) := ⟨_, rfl⟩
      have h := h u13 eu13
      refine x_puti (ci := 11) (ty := .int) C hw 14 (xoM_272 hM) rfl inlX11 tyX11_ok nmX11 (by decide) rfl rfl xw_637 rfl (by decide +kernel) rfl rfl dX11_ahead_177 eu13 (fun H locs hw => ?_)
      refine lv_goto (tgt := 128) hx hb dX11_ahead_180 (by decide) ?_
      exact ih hw (lv_sub hl [0] rfl) h
set_option maxHeartbeats 4000000 in
set_option maxRecDepth 100000 in
theorem s_X11_ahead_L81 {Qf : xM → Prop} (C : x_C p s m args meth c g RX11 cX11_ahead 2 none) (hM : xpM g) : ∀ (nn : Nat) {u : xM} {H : Heap} {locs : List Loc} {ls : Array Slot} (hw : x_W g s.heap H locs u) (hl : lv_has ls 2 [(0, .ref (xad g 272))]) (h : p_X11_ahead_L81 Qf nn  u), W p l e (x_rm 1 80) s m args below meth c H locs 0 0 (MQ below (x_Qv g Qf) args s 0 0 (x_A g)) (F0 m 81 ls []) := by
  intro nn
  induction nn with
  | zero => intro u H locs ls hw hl h; exact h.elim
  | succ nn ih =>
    intro u H locs ls hw hl h
    unfold p_X11_ahead_L81 at h
    have hx := C.1
    have hb := C.2.1
    refine lv_aload_n hx hb dX11_ahead_81 rfl (lv_at hl 0 rfl) ?_
    refine lv_aload_n hx hb dX11_ahead_82 rfl (lv_at hl 0 rfl) ?_
    refine x_geti (ci := 11) C hw 14 (xoM_272 hM) rfl inlX11 (by decide) rfl rfl xw_637 dX11_ahead_83 ?_
    refine x_calli hw (x_runV (ci := 11) C hw (m_X11_byteAt l C.2.2.2.2.2.2.2.2.1 hM h) (xoM_272 hM) rfl (x_gV xw_647 xw_648 xw_649 xw_5 xw_650) rfl rfl qX11_byteAt ⟨(Nat.le_of_ble_eq_true rfl), (Nat.le_of_ble_eq_true rfl)⟩ rfl hl.1 rfl (Nat.le_of_ble_eq_true rfl) dX11_ahead_86) (fun r2 u1 H locs hw h => ?_)
    refine x_callz hw (x_runS C hw (m_X11_isSmall l C.2.2.2.2.2.2.2.2.1  h) (x_gS xw_651 xw_652 xw_5 xw_653) rfl rfl qX11_isSmall ⟨(Nat.le_of_ble_eq_true rfl), (Nat.le_of_ble_eq_true rfl)⟩ rfl hl.1 rfl (Nat.le_of_ble_eq_true rfl) dX11_ahead_89) (fun r4 u3 H locs hw h => ?_)
    refine lv_if_eq (tgt := 108) hx hb dX11_ahead_92 (by decide) (fun c5 => ?_) (fun c5 => ?_)
    · have h := h.1 (xb_f c5)
      refine lv_aload_n hx hb dX11_ahead_108 rfl (lv_at hl 0 rfl) ?_
      refine lv_iconst (v := 2) hx hb dX11_ahead_109 (by decide) ?_
      obtain ⟨u6, eu6⟩ : ∃ q : xM, q = si u3 272 12 (2 : Int32) := ⟨_, rfl⟩
      have h := h u6 eu6
      refine x_puti (ci := 11) (ty := .int) C hw 12 (xoM_272 hM) rfl inlX11 tyX11_ok nmX11 (by decide) rfl rfl xw_630 rfl (by decide +kernel) rfl rfl dX11_ahead_110 eu6 (fun H locs hw => ?_)
      refine lv_goto (tgt := 251) hx hb dX11_ahead_113 (by decide) ?_
      exact x_vret C hw h dX11_ahead_251
    · have h := h.2 (xb_t c5)
      refine lv_aload_n hx hb dX11_ahead_95 rfl (lv_at hl 0 rfl) ?_
      refine lv_dup hx hb dX11_ahead_96 rfl ?_
      refine x_geti (ci := 11) C hw 14 (xoM_272 hM) rfl inlX11 (by decide) rfl rfl xw_637 dX11_ahead_97 ?_
      refine lv_iconst (v := 1) hx hb dX11_ahead_100 (by decide) ?_
      refine lv_iadd hx hb dX11_ahead_101 ?_
      obtain ⟨u7, eu7⟩ : ∃ q : xM, q = si u3 272 14 ((gi u3 272 14) + (1 : Int32)) := ⟨_, rfl⟩
      have h := h u7 eu7
      refine x_puti (ci := 11) (ty := .int) C hw 14 (xoM_272 hM) rfl inlX11 tyX11_ok nmX11 (by decide) rfl rfl xw_637 rfl (by decide +kernel) rfl rfl dX11_ahead_102 eu7 (fun H locs hw => ?_)
      refine lv_goto (tgt := 81) hx hb dX11_ahead_105 (by decide) ?_
      exact ih hw (lv_sub hl [0] rfl) h
set_option maxHeartbeats 4000000 in
set_option maxRecDepth 100000 in
theorem s_X11_ahead_L0 {Qf : xM → Prop} (C : x_C p s m args meth c g RX11 cX11_ahead 2 none) (hM : xpM g) : ∀ (nn : Nat) {u : xM} {H : Heap} {locs : List Loc} {ls : Array Slot} (hw : x_W g s.heap H locs u) (hl : lv_has ls 2 [(0, .ref (xad g 272))]) (h : p_X11_ahead_L0 Qf nn  u), W p l e (x_rm 1 80) s m args below meth c H locs 0 0 (MQ below (x_Qv g Qf) args s 0 0 (x_A g)) (F0 m 0 ls []) := by
  intro nn
  induction nn with
  | zero => intro u H locs ls hw hl h; exact h.elim
  | succ nn ih =>
    intro u H locs ls hw hl h
    unfold p_X11_ahead_L0 at h
    have hx := C.1
    have hb := C.2.1
    refine lv_aload_n hx hb dX11_ahead_0 rfl (lv_at hl 0 rfl) ?_
    refine lv_aload_n hx hb dX11_ahead_1 rfl (lv_at hl 0 rfl) ?_
    refine x_geti (ci := 11) C hw 14 (xoM_272 hM) rfl inlX11 (by decide) rfl rfl xw_637 dX11_ahead_2 ?_
    refine x_calli hw (x_runV (ci := 11) C hw (m_X11_byteAt l C.2.2.2.2.2.2.2.2.1 hM h) (xoM_272 hM) rfl (x_gV xw_647 xw_648 xw_649 xw_5 xw_650) rfl rfl qX11_byteAt ⟨(Nat.le_of_ble_eq_true rfl), (Nat.le_of_ble_eq_true rfl)⟩ rfl hl.1 rfl (Nat.le_of_ble_eq_true rfl) dX11_ahead_5) (fun r2 u1 H locs hw h => ?_)
    refine lv_bipush (v := 32) hx hb dX11_ahead_8 (by decide) ?_
    refine lv_icmp_eq (tgt := 26) hx hb dX11_ahead_10 (by decide) (fun c3 => ?_) (fun c3 => ?_)
    · have h := h.1 c3
      exact s_X11_ahead_L26 C hM (fun hw hl h => ih hw hl h) hw (lv_sub hl [0] rfl) h
    · have h := h.2 c3
      refine lv_aload_n hx hb dX11_ahead_13 rfl (lv_at hl 0 rfl) ?_
      refine lv_aload_n hx hb dX11_ahead_14 rfl (lv_at hl 0 rfl) ?_
      refine x_geti (ci := 11) C hw 14 (xoM_272 hM) rfl inlX11 (by decide) rfl rfl xw_637 dX11_ahead_15 ?_
      refine x_calli hw (x_runV (ci := 11) C hw (m_X11_byteAt l C.2.2.2.2.2.2.2.2.1 hM h) (xoM_272 hM) rfl (x_gV xw_647 xw_648 xw_649 xw_5 xw_650) rfl rfl qX11_byteAt ⟨(Nat.le_of_ble_eq_true rfl), (Nat.le_of_ble_eq_true rfl)⟩ rfl hl.1 rfl (Nat.le_of_ble_eq_true rfl) dX11_ahead_18) (fun r5 u4 H locs hw h => ?_)
      refine lv_bipush (v := 10) hx hb dX11_ahead_21 (by decide) ?_
      refine lv_icmp_ne (tgt := 39) hx hb dX11_ahead_23 (by decide) (fun c6 => ?_) (fun c6 => ?_)
      · have h := h.1 c6
        refine lv_aload_n hx hb dX11_ahead_39 rfl (lv_at hl 0 rfl) ?_
        refine lv_aload_n hx hb dX11_ahead_40 rfl (lv_at hl 0 rfl) ?_
        refine x_geti (ci := 11) C hw 14 (xoM_272 hM) rfl inlX11 (by decide) rfl rfl xw_637 dX11_ahead_41 ?_
        obtain ⟨u7, eu7⟩ : ∃ q : xM, q = si u4 272 13 (gi u4 272 14) := ⟨_, rfl⟩
        have h := h u7 eu7
        refine x_puti (ci := 11) (ty := .int) C hw 13 (xoM_272 hM) rfl inlX11 tyX11_ok nmX11 (by decide) rfl rfl xw_643 rfl (by decide +kernel) rfl rfl dX11_ahead_44 eu7 (fun H locs hw => ?_)
        refine lv_aload_n hx hb dX11_ahead_47 rfl (lv_at hl 0 rfl) ?_
        refine lv_aload_n hx hb dX11_ahead_48 rfl (lv_at hl 0 rfl) ?_
        refine x_geti (ci := 11) C hw 14 (xoM_272 hM) rfl inlX11 (by decide) rfl rfl xw_637 dX11_ahead_49 ?_
        refine x_calli hw (x_runV (ci := 11) C hw (m_X11_byteAt l C.2.2.2.2.2.2.2.2.1 hM h) (xoM_272 hM) rfl (x_gV xw_647 xw_648 xw_649 xw_5 xw_650) rfl rfl qX11_byteAt ⟨(Nat.le_of_ble_eq_true rfl), (Nat.le_of_ble_eq_true rfl)⟩ rfl hl.1 rfl (Nat.le_of_ble_eq_true rfl) dX11_ahead_52) (fun r9 u8 H locs hw h => ?_)
        refine lv_istore_n (lv' := [(1, .int r9), (0, .ref (xad g 272))]) hx hb dX11_ahead_55 rfl hl (by decide) rfl (fun ls hl => ?_)
        refine lv_aload_n hx hb dX11_ahead_56 rfl (lv_at hl 1 rfl) ?_
        refine lv_iload_n hx hb dX11_ahead_57 rfl (lv_at hl 0 rfl) ?_
        obtain ⟨u10, eu10⟩ : ∃ q : xM, q = si u8 272 15 r9 := ⟨_, rfl⟩
        have h := h u10 eu10
        refine x_puti (ci := 11) (ty := .int) C hw 15 (xoM_272 hM) rfl inlX11 tyX11_ok nmX11 (by decide) rfl rfl xw_644 rfl (by decide +kernel) rfl rfl dX11_ahead_58 eu10 (fun H locs hw => ?_)
        refine lv_iload_n hx hb dX11_ahead_61 rfl (lv_at hl 0 rfl) ?_
        refine lv_iconst (v := -1) hx hb dX11_ahead_62 (by decide) ?_
        refine lv_icmp_ne (tgt := 74) hx hb dX11_ahead_63 (by decide) (fun c11 => ?_) (fun c11 => ?_)
        · have h := h.1 c11
          refine lv_iload_n hx hb dX11_ahead_74 rfl (lv_at hl 0 rfl) ?_
          refine x_callz hw (x_runS C hw (m_X11_isSmall l C.2.2.2.2.2.2.2.2.1  h) (x_gS xw_651 xw_652 xw_5 xw_653) rfl rfl qX11_isSmall ⟨(Nat.le_of_ble_eq_true rfl), (Nat.le_of_ble_eq_true rfl)⟩ rfl hl.1 rfl (Nat.le_of_ble_eq_true rfl) dX11_ahead_75) (fun r13 u12 H locs hw h => ?_)
          refine lv_if_eq (tgt := 116) hx hb dX11_ahead_78 (by decide) (fun c14 => ?_) (fun c14 => ?_)
          · have h := h.1 (xb_f c14)
            refine lv_iload_n hx hb dX11_ahead_116 rfl (lv_at hl 0 rfl) ?_
            refine x_callz hw (x_runS C hw (m_X11_isDigit l C.2.2.2.2.2.2.2.2.1  h) (x_gS xw_654 xw_655 xw_5 xw_656) rfl rfl qX11_isDigit ⟨(Nat.le_of_ble_eq_true rfl), (Nat.le_of_ble_eq_true rfl)⟩ rfl hl.1 rfl (Nat.le_of_ble_eq_true rfl) dX11_ahead_117) (fun r16 u15 H locs hw h => ?_)
            refine lv_if_eq (tgt := 208) hx hb dX11_ahead_120 (by decide) (fun c17 => ?_) (fun c17 => ?_)
            · have h := h.1 (xb_f c17)
              refine lv_aload_n hx hb dX11_ahead_208 rfl (lv_at hl 1 rfl) ?_
              refine lv_dup hx hb dX11_ahead_209 rfl ?_
              refine x_geti (ci := 11) C hw 14 (xoM_272 hM) rfl inlX11 (by decide) rfl rfl xw_637 dX11_ahead_210 ?_
              refine lv_iconst (v := 1) hx hb dX11_ahead_213 (by decide) ?_
              refine lv_iadd hx hb dX11_ahead_214 ?_
              obtain ⟨u18, eu18⟩ : ∃ q : xM, q = si u15 272 14 ((gi u15 272 14) + (1 : Int32)) := ⟨_, rfl⟩
              have h := h u18 eu18
              refine x_puti (ci := 11) (ty := .int) C hw 14 (xoM_272 hM) rfl inlX11 tyX11_ok nmX11 (by decide) rfl rfl xw_637 rfl (by decide +kernel) rfl rfl dX11_ahead_215 eu18 (fun H locs hw => ?_)
              refine lv_aload_n hx hb dX11_ahead_218 rfl (lv_at hl 1 rfl) ?_
              refine lv_iload_n hx hb dX11_ahead_219 rfl (lv_at hl 0 rfl) ?_
              refine lv_bipush (v := 59) hx hb dX11_ahead_220 (by decide) ?_
              refine lv_icmp_eq (tgt := 243) hx hb dX11_ahead_222 (by decide) (fun c19 => ?_) (fun c19 => ?_)
              · have h := h.1 c19
                refine lv_iconst (v := 4) hx hb dX11_ahead_243 (by decide) ?_
                refine lv_goto (tgt := 248) hx hb dX11_ahead_244 (by decide) ?_
                obtain ⟨u20, eu20⟩ : ∃ q : xM, q = si u18 272 12 (4 : Int32) := ⟨_, rfl⟩
                have h := h u20 eu20
                refine x_puti (ci := 11) (ty := .int) C hw 12 (xoM_272 hM) rfl inlX11 tyX11_ok nmX11 (by decide) rfl rfl xw_630 rfl (by decide +kernel) rfl rfl dX11_ahead_248 eu20 (fun H locs hw => ?_)
                exact x_vret C hw h dX11_ahead_251
              · have h := h.2 c19
                refine lv_iload_n hx hb dX11_ahead_225 rfl (lv_at hl 0 rfl) ?_
                refine lv_bipush (v := 60) hx hb dX11_ahead_226 (by decide) ?_
                refine lv_icmp_eq (tgt := 243) hx hb dX11_ahead_228 (by decide) (fun c21 => ?_) (fun c21 => ?_)
                · have h := h.1 c21
                  refine lv_iconst (v := 4) hx hb dX11_ahead_243 (by decide) ?_
                  refine lv_goto (tgt := 248) hx hb dX11_ahead_244 (by decide) ?_
                  obtain ⟨u22, eu22⟩ : ∃ q : xM, q = si u18 272 12 (4 : Int32) := ⟨_, rfl⟩
                  have h := h u22 eu22
                  refine x_puti (ci := 11) (ty := .int) C hw 12 (xoM_272 hM) rfl inlX11 tyX11_ok nmX11 (by decide) rfl rfl xw_630 rfl (by decide +kernel) rfl rfl dX11_ahead_248 eu22 (fun H locs hw => ?_)
                  exact x_vret C hw h dX11_ahead_251
                · have h := h.2 c21
                  refine lv_iload_n hx hb dX11_ahead_231 rfl (lv_at hl 0 rfl) ?_
                  refine lv_bipush (v := 62) hx hb dX11_ahead_232 (by decide) ?_
                  refine lv_icmp_eq (tgt := 243) hx hb dX11_ahead_234 (by decide) (fun c23 => ?_) (fun c23 => ?_)
                  · have h := h.1 c23
                    refine lv_iconst (v := 4) hx hb dX11_ahead_243 (by decide) ?_
                    refine lv_goto (tgt := 248) hx hb dX11_ahead_244 (by decide) ?_
                    obtain ⟨u24, eu24⟩ : ∃ q : xM, q = si u18 272 12 (4 : Int32) := ⟨_, rfl⟩
                    have h := h u24 eu24
                    refine x_puti (ci := 11) (ty := .int) C hw 12 (xoM_272 hM) rfl inlX11 tyX11_ok nmX11 (by decide) rfl rfl xw_630 rfl (by decide +kernel) rfl rfl dX11_ahead_248 eu24 (fun H locs hw => ?_)
                    exact x_vret C hw h dX11_ahead_251
                  · have h := h.2 c23
                    refine lv_iload_n hx hb dX11_ahead_237 rfl (lv_at hl 0 rfl) ?_
                    refine lv_bipush (v := 61) hx hb dX11_ahead_238 (by decide) ?_
                    refine lv_icmp_ne (tgt := 247) hx hb dX11_ahead_240 (by decide) (fun c25 => ?_) (fun c25 => ?_)
                    · have h := h.1 c25
                      refine lv_iconst (v := 1) hx hb dX11_ahead_247 (by decide) ?_
                      obtain ⟨u26, eu26⟩ : ∃ q : xM, q = si u18 272 12 (1 : Int32) := ⟨_, rfl⟩
                      have h := h u26 eu26
                      refine x_puti (ci := 11) (ty := .int) C hw 12 (xoM_272 hM) rfl inlX11 tyX11_ok nmX11 (by decide) rfl rfl xw_630 rfl (by decide +kernel) rfl rfl dX11_ahead_248 eu26 (fun H locs hw => ?_)
                      exact x_vret C hw h dX11_ahead_251
                    · have h := h.2 c25
                      refine lv_iconst (v := 4) hx hb dX11_ahead_243 (by decide) ?_
                      refine lv_goto (tgt := 248) hx hb dX11_ahead_244 (by decide) ?_
                      obtain ⟨u27, eu27⟩ : ∃ q : xM, q = si u18 272 12 (4 : Int32) := ⟨_, rfl⟩
                      have h := h u27 eu27
                      refine x_puti (ci := 11) (ty := .int) C hw 12 (xoM_272 hM) rfl inlX11 tyX11_ok nmX11 (by decide) rfl rfl xw_630 rfl (by decide +kernel) rfl rfl dX11_ahead_248 eu27 (fun H locs hw => ?_)
                      exact x_vret C hw h dX11_ahead_251
            · have h := h.2 (xb_t c17)
              refine lv_aload_n hx hb dX11_ahead_123 rfl (lv_at hl 1 rfl) ?_
              refine lv_iconst (v := 0) hx hb dX11_ahead_124 (by decide) ?_
              obtain ⟨u28, eu28⟩ : ∃ q : xM, q = si u15 272 15 (0 : Int32) := ⟨_, rfl⟩
              have h := h u28 eu28
              refine x_puti (ci := 11) (ty := .int) C hw 15 (xoM_272 hM) rfl inlX11 tyX11_ok nmX11 (by decide) rfl rfl xw_644 rfl (by decide +kernel) rfl rfl dX11_ahead_125 eu28 (fun H locs hw => ?_)
              obtain ⟨n9, h⟩ := h
              exact s_X11_ahead_L128 C hM n9 hw (lv_sub hl [1] rfl) h
          · have h := h.2 (xb_t c14)
            obtain ⟨n9, h⟩ := h
            exact s_X11_ahead_L81 C hM n9 hw (lv_sub hl [1] rfl) h
        · have h := h.2 c11
          refine lv_aload_n hx hb dX11_ahead_66 rfl (lv_at hl 1 rfl) ?_
          refine lv_iconst (v := 0) hx hb dX11_ahead_67 (by decide) ?_
          obtain ⟨u29, eu29⟩ : ∃ q : xM, q = si u10 272 12 (0 : Int32) := ⟨_, rfl⟩
          have h := h u29 eu29
          refine x_puti (ci := 11) (ty := .int) C hw 12 (xoM_272 hM) rfl inlX11 tyX11_ok nmX11 (by decide) rfl rfl xw_630 rfl (by decide +kernel) rfl rfl dX11_ahead_68 eu29 (fun H locs hw => ?_)
          refine lv_goto (tgt := 251) hx hb dX11_ahead_71 (by decide) ?_
          exact x_vret C hw h dX11_ahead_251
      · have h := h.2 c6
        exact s_X11_ahead_L26 C hM (fun hw hl h => ih hw hl h) hw (lv_sub hl [0] rfl) h
set_option maxHeartbeats 4000000 in
set_option maxRecDepth 100000 in
theorem s_X11_ahead {Qf : xM → Prop} (C : x_C p s m args meth c g RX11 cX11_ahead 2 none) (hM : xpM g) {u : xM} {H : Heap} {locs : List Loc} {ls : Array Slot} (hw : x_W g s.heap H locs u) (hl : lv_has ls 2 [(0, .ref (xad g 272))]) (h : p_X11_ahead  u Qf) : W p l e (x_rm 1 80) s m args below meth c H locs 0 0 (MQ below (x_Qv g Qf) args s 0 0 (x_A g)) (F0 m 0 ls []) := by
  unfold p_X11_ahead at h
  have hx := C.1
  have hb := C.2.1
  obtain ⟨n9, h⟩ := h
  exact s_X11_ahead_L0 C hM n9 hw (lv_sub hl [0] rfl) h
set_option maxHeartbeats 4000000 in
set_option maxRecDepth 100000 in
theorem m_X11_ahead (l : Launch) {g : xG} (hD : x_D g) (hM : xpM g) {u : xM} {Qf : xM → Prop} (h : p_X11_ahead  u Qf) : Met l yX11_ahead (Cond.code yX11_ahead cX11_ahead 2 none :: wsL_law) (x_rm 1 80) (va_Pc [.ref (xad g 272)] (x_B g u)) (x_Qv g Qf) 0 0 (x_A g) := by
  refine Met.ofW (cc := cX11_ahead) (maxL := 2) (ret := none) (by decide) rfl ?_
  intro p e s m args below meth c s₁ B hml hv
  obtain ⟨rfl, hB⟩ := hv
  obtain ⟨C, hw⟩ := x_start B hml hD hB
  have hl := lv_entry [.ref (xad g 272)] (n := 2) (Nat.le_of_ble_eq_true rfl)
  rw [lg_entry_eq]
  exact s_X11_ahead C hM hw hl h
set_option maxHeartbeats 4000000 in
set_option maxRecDepth 100000 in
theorem s_X11_isSign {Qf : Bool → xM → Prop} {a1 : Int32} (C : x_C p s m args meth c g RX11 cX11_isSign 2 (some .boolean)) (hM : xpM g) {u : xM} {H : Heap} {locs : List Loc} {ls : Array Slot} (hw : x_W g s.heap H locs u) (hl : lv_has ls 2 [(0, .ref (xad g 272)), (1, .int a1)]) (h : p_X11_isSign a1 u Qf) : W p l e (x_rm 0 0) s m args below meth c H locs 0 0 (MQ below (x_Qz g Qf) args s 0 0 (x_A g)) (F0 m 0 ls []) := by
  unfold p_X11_isSign at h
  have hx := C.1
  have hb := C.2.1
  refine lv_aload_n hx hb dX11_isSign_0 rfl (lv_at hl 0 rfl) ?_
  refine x_geti (ci := 11) C hw 12 (xoM_272 hM) rfl inlX11 (by decide) rfl rfl xw_630 dX11_isSign_1 ?_
  refine lv_iconst (v := 4) hx hb dX11_isSign_4 (by decide) ?_
  refine lv_icmp_ne (tgt := 20) hx hb dX11_isSign_5 (by decide) (fun c1 => ?_) (fun c1 => ?_)
  · have h := h.1 c1
    refine lv_iconst (v := 0) hx hb dX11_isSign_20 (by decide) ?_
    exact x_zret false C hw h rfl dX11_isSign_21
  · have h := h.2 c1
    refine lv_aload_n hx hb dX11_isSign_8 rfl (lv_at hl 0 rfl) ?_
    refine x_geti (ci := 11) C hw 15 (xoM_272 hM) rfl inlX11 (by decide) rfl rfl xw_644 dX11_isSign_9 ?_
    refine lv_iload_n hx hb dX11_isSign_12 rfl (lv_at hl 1 rfl) ?_
    refine lv_icmp_ne (tgt := 20) hx hb dX11_isSign_13 (by decide) (fun c2 => ?_) (fun c2 => ?_)
    · have h := h.1 c2
      refine lv_iconst (v := 0) hx hb dX11_isSign_20 (by decide) ?_
      exact x_zret false C hw h rfl dX11_isSign_21
    · have h := h.2 c2
      refine lv_iconst (v := 1) hx hb dX11_isSign_16 (by decide) ?_
      refine lv_goto (tgt := 21) hx hb dX11_isSign_17 (by decide) ?_
      exact x_zret true C hw h rfl dX11_isSign_21
set_option maxHeartbeats 4000000 in
set_option maxRecDepth 100000 in
theorem m_X11_isSign (l : Launch) {g : xG} (hD : x_D g) (hM : xpM g) {a1 : Int32} {u : xM} {Qf : Bool → xM → Prop} (h : p_X11_isSign a1 u Qf) : Met l yX11_isSign (Cond.code yX11_isSign cX11_isSign 2 (some .boolean) :: wsL_law) (x_rm 0 0) (va_Pc [.ref (xad g 272), .int a1] (x_B g u)) (x_Qz g Qf) 0 0 (x_A g) := by
  refine Met.ofW (cc := cX11_isSign) (maxL := 2) (ret := (some .boolean)) (by decide) rfl ?_
  intro p e s m args below meth c s₁ B hml hv
  obtain ⟨rfl, hB⟩ := hv
  obtain ⟨C, hw⟩ := x_start B hml hD hB
  have hl := lv_entry [.ref (xad g 272), .int a1] (n := 2) (Nat.le_of_ble_eq_true rfl)
  rw [lg_entry_eq]
  exact s_X11_isSign C hM hw hl h
set_option maxHeartbeats 4000000 in
set_option maxRecDepth 100000 in
theorem s_X11_inWords_L115 {Qf : Int32 → xM → Prop} {K14 : Int32 → Int32 → xM → Prop} (C : x_C p s m args meth c g RX11 cX11_inWords 7 (some .int)) (hM : xpM g) (hK14 : ∀ {v2 : Int32} {v3 : Int32} {u : xM} {H : Heap} {locs : List Loc} {ls : Array Slot}, x_W g s.heap H locs u → lv_has ls 7 [(0, .ref (xad g 272)), (1, .ref (xsK g 2)), (2, .int v2), (3, .int v3)] → K14 v2 v3 u → W p l e (x_rm 5 181) s m args below meth c H locs 0 0 (MQ below (x_Qi g Qf) args s 0 0 (x_A g)) (F0 m 14 ls [])) {v2 : Int32} {v4 : Int32} {v5 : Bool} {u : xM} {H : Heap} {locs : List Loc} {ls : Array Slot} (hw : x_W g s.heap H locs u) (hl : lv_has ls 7 [(0, .ref (xad g 272)), (1, .ref (xsK g 2)), (2, .int v2), (4, .int v4), (5, .int (xb v5))]) (h : p_X11_inWords_L115 Qf K14 v2 v4 v5 u) : W p l e (x_rm 5 181) s m args below meth c H locs 0 0 (MQ below (x_Qi g Qf) args s 0 0 (x_A g)) (F0 m 115 ls []) := by
  unfold p_X11_inWords_L115 at h
  have hx := C.1
  have hb := C.2.1
  refine lv_iload hx hb dX11_inWords_115 (lv_at hl 4 rfl) ?_
  refine lv_if_eq (tgt := 122) hx hb dX11_inWords_117 (by decide) (fun c1 => ?_) (fun c1 => ?_)
  · have h := h.1 (xb_f c1)
    obtain ⟨x2, ex2⟩ : ∃ y : Int32, y = v2 + 1 := ⟨_, rfl⟩
    have h := h x2 ex2
    refine lv_iinc (v := x2) (lv' := [(2, .int x2), (0, .ref (xad g 272)), (1, .ref (xsK g 2)), (4, .int v4), (5, .int (xb v5))]) hx hb dX11_inWords_122 hl (k := 2) rfl (by rw [ex2]; rfl) (by decide) rfl (fun ls hl => ?_)
    refine lv_iload hx hb dX11_inWords_125 (lv_at hl 3 rfl) ?_
    refine lv_iconst (v := 1) hx hb dX11_inWords_127 (by decide) ?_
    refine lv_iadd hx hb dX11_inWords_128 ?_
    refine lv_topi (fun x3 ex3 => ?_)
    have h := h x3 ex3
    refine lv_istore_n (lv' := [(3, .int x3), (2, .int x2), (0, .ref (xad g 272)), (1, .ref (xsK g 2)), (4, .int v4), (5, .int (xb v5))]) hx hb dX11_inWords_129 rfl hl (by decide) rfl (fun ls hl => ?_)
    refine lv_goto (tgt := 14) hx hb dX11_inWords_130 (by decide) ?_
    exact hK14 hw (lv_sub hl [2, 3, 1, 0] rfl) h
  · have h := h.2 (xb_t c1)
    refine lv_iload_n hx hb dX11_inWords_120 rfl (lv_at hl 2 rfl) ?_
    exact x_iret C hw h dX11_inWords_121
set_option maxHeartbeats 4000000 in
set_option maxRecDepth 100000 in
theorem s_X11_inWords_L68 {Qf : Int32 → xM → Prop} {K14 : Int32 → Int32 → xM → Prop} (C : x_C p s m args meth c g RX11 cX11_inWords 7 (some .int)) (hM : xpM g) (hK14 : ∀ {v2 : Int32} {v3 : Int32} {u : xM} {H : Heap} {locs : List Loc} {ls : Array Slot}, x_W g s.heap H locs u → lv_has ls 7 [(0, .ref (xad g 272)), (1, .ref (xsK g 2)), (2, .int v2), (3, .int v3)] → K14 v2 v3 u → W p l e (x_rm 5 181) s m args below meth c H locs 0 0 (MQ below (x_Qi g Qf) args s 0 0 (x_A g)) (F0 m 14 ls [])) : ∀ (nn : Nat) {v2 : Int32} {v3 : Int32} {v4 : Int32} {v5 : Bool} {v6 : Int32} {u : xM} {H : Heap} {locs : List Loc} {ls : Array Slot} (hw : x_W g s.heap H locs u) (hl : lv_has ls 7 [(0, .ref (xad g 272)), (1, .ref (xsK g 2)), (2, .int v2), (3, .int v3), (4, .int v4), (5, .int (xb v5)), (6, .int v6)]) (h : p_X11_inWords_L68 Qf K14 nn v2 v3 v4 v5 v6 u), W p l e (x_rm 5 181) s m args below meth c H locs 0 0 (MQ below (x_Qi g Qf) args s 0 0 (x_A g)) (F0 m 68 ls []) := by
  intro nn
  induction nn with
  | zero => intro v2 v3 v4 v5 v6 u H locs ls hw hl h; exact h.elim
  | succ nn ih =>
    intro v2 v3 v4 v5 v6 u H locs ls hw hl h
    unfold p_X11_inWords_L68 at h
    have hx := C.1
    have hb := C.2.1
    refine lv_iload hx hb dX11_inWords_68 (lv_at hl 6 rfl) ?_
    refine lv_iload hx hb dX11_inWords_70 (lv_at hl 4 rfl) ?_
    refine lv_icmp_ge (tgt := 115) hx hb dX11_inWords_72 (by decide) (fun c1 => ?_) (fun c1 => ?_)
    · have h := h.1 c1
      exact s_X11_inWords_L115 C hM hK14 hw (lv_sub hl [0, 1, 2, 4, 5] rfl) h
    · have h := h.2 c1
      refine lv_iload hx hb dX11_inWords_75 (lv_at hl 5 rfl) ?_
      refine lv_if_eq (tgt := 115) hx hb dX11_inWords_77 (by decide) (fun c2 => ?_) (fun c2 => ?_)
      · have h := h.1 (xb_f c2)
        exact s_X11_inWords_L115 C hM hK14 hw (lv_sub hl [0, 1, 2, 4, 5] rfl) h
      · have h := h.2 (xb_t c2)
        refine lv_aload_n hx hb dX11_inWords_80 rfl (lv_at hl 1 rfl) ?_
        refine lv_iload hx hb dX11_inWords_81 (lv_at hl 6 rfl) ?_
        have c3 := h.1
        have h := h.2
        refine x_strchar C hw (by decide) c3 hl.1 xw_670 (Nat.le_of_ble_eq_true rfl) (Nat.le_of_ble_eq_true rfl) (Nat.le_of_ble_eq_true rfl) dX11_inWords_83 (fun H locs hw => ?_)
        refine lv_aload_n hx hb dX11_inWords_86 rfl (lv_at hl 0 rfl) ?_
        refine lv_aload_n hx hb dX11_inWords_87 rfl (lv_at hl 0 rfl) ?_
        refine x_geti (ci := 11) C hw 13 (xoM_272 hM) rfl inlX11 (by decide) rfl rfl xw_643 dX11_inWords_88 ?_
        refine lv_iload hx hb dX11_inWords_91 (lv_at hl 6 rfl) ?_
        refine lv_iadd hx hb dX11_inWords_93 ?_
        refine lv_iload_n hx hb dX11_inWords_94 rfl (lv_at hl 3 rfl) ?_
        refine lv_isub hx hb dX11_inWords_95 ?_
        refine x_calli hw (x_runV (ci := 11) C hw (m_X11_byteAt l C.2.2.2.2.2.2.2.2.1 hM h) (xoM_272 hM) rfl (x_gV xw_647 xw_648 xw_649 xw_5 xw_650) rfl rfl qX11_byteAt ⟨(Nat.le_of_ble_eq_true rfl), (Nat.le_of_ble_eq_true rfl)⟩ rfl hl.1 rfl (Nat.le_of_ble_eq_true rfl) dX11_inWords_96) (fun r5 u4 H locs hw h => ?_)
        refine lv_icmp_ne (tgt := 106) hx hb dX11_inWords_99 (by decide) (fun c6 => ?_) (fun c6 => ?_)
        · have h := h.1 c6
          refine lv_iconst (v := 0) hx hb dX11_inWords_106 (by decide) ?_
          refine lv_istore (lv' := [(5, .int 0), (0, .ref (xad g 272)), (1, .ref (xsK g 2)), (2, .int v2), (3, .int v3), (4, .int v4), (6, .int v6)]) hx hb dX11_inWords_107 hl (by decide) rfl (fun ls hl => ?_)
          obtain ⟨x7, ex7⟩ : ∃ y : Int32, y = v6 + 1 := ⟨_, rfl⟩
          have h := h x7 ex7
          refine lv_iinc (v := x7) (lv' := [(6, .int x7), (5, .int 0), (0, .ref (xad g 272)), (1, .ref (xsK g 2)), (2, .int v2), (3, .int v3), (4, .int v4)]) hx hb dX11_inWords_109 hl (k := 6) rfl (by rw [ex7]; rfl) (by decide) rfl (fun ls hl => ?_)
          refine lv_goto (tgt := 68) hx hb dX11_inWords_112 (by decide) ?_
          exact ih hw (lv_sub hl [2, 3, 4, 5, 6, 1, 0] rfl) h
        · have h := h.2 c6
          refine lv_iconst (v := 1) hx hb dX11_inWords_102 (by decide) ?_
          refine lv_goto (tgt := 107) hx hb dX11_inWords_103 (by decide) ?_
          refine lv_istore (lv' := [(5, .int 1), (0, .ref (xad g 272)), (1, .ref (xsK g 2)), (2, .int v2), (3, .int v3), (4, .int v4), (6, .int v6)]) hx hb dX11_inWords_107 hl (by decide) rfl (fun ls hl => ?_)
          obtain ⟨x8, ex8⟩ : ∃ y : Int32, y = v6 + 1 := ⟨_, rfl⟩
          have h := h x8 ex8
          refine lv_iinc (v := x8) (lv' := [(6, .int x8), (5, .int 1), (0, .ref (xad g 272)), (1, .ref (xsK g 2)), (2, .int v2), (3, .int v3), (4, .int v4)]) hx hb dX11_inWords_109 hl (k := 6) rfl (by rw [ex8]; rfl) (by decide) rfl (fun ls hl => ?_)
          refine lv_goto (tgt := 68) hx hb dX11_inWords_112 (by decide) ?_
          exact ih hw (lv_sub hl [2, 3, 4, 5, 6, 1, 0] rfl) h
set_option maxHeartbeats 4000000 in
set_option maxRecDepth 100000 in
theorem s_X11_inWords_L25 {Qf : Int32 → xM → Prop} {K14 : Int32 → Int32 → xM → Prop} (C : x_C p s m args meth c g RX11 cX11_inWords 7 (some .int)) (hM : xpM g) (hK14 : ∀ {v2 : Int32} {v3 : Int32} {u : xM} {H : Heap} {locs : List Loc} {ls : Array Slot}, x_W g s.heap H locs u → lv_has ls 7 [(0, .ref (xad g 272)), (1, .ref (xsK g 2)), (2, .int v2), (3, .int v3)] → K14 v2 v3 u → W p l e (x_rm 5 181) s m args below meth c H locs 0 0 (MQ below (x_Qi g Qf) args s 0 0 (x_A g)) (F0 m 14 ls [])) : ∀ (nn : Nat) {v2 : Int32} {v3 : Int32} {v4 : Int32} {u : xM} {H : Heap} {locs : List Loc} {ls : Array Slot} (hw : x_W g s.heap H locs u) (hl : lv_has ls 7 [(0, .ref (xad g 272)), (1, .ref (xsK g 2)), (2, .int v2), (3, .int v3), (4, .int v4)]) (h : p_X11_inWords_L25 Qf K14 nn v2 v3 v4 u), W p l e (x_rm 5 181) s m args below meth c H locs 0 0 (MQ below (x_Qi g Qf) args s 0 0 (x_A g)) (F0 m 25 ls []) := by
  intro nn
  induction nn with
  | zero => intro v2 v3 v4 u H locs ls hw hl h; exact h.elim
  | succ nn ih =>
    intro v2 v3 v4 u H locs ls hw hl h
    unfold p_X11_inWords_L25 at h
    have hx := C.1
    have hb := C.2.1
    refine lv_aload_n hx hb dX11_inWords_25 rfl (lv_at hl 1 rfl) ?_
    refine lv_iload hx hb dX11_inWords_26 (lv_at hl 4 rfl) ?_
    have c1 := h.1
    have h := h.2
    refine x_strchar C hw (by decide) c1 hl.1 xw_670 (Nat.le_of_ble_eq_true rfl) (Nat.le_of_ble_eq_true rfl) (Nat.le_of_ble_eq_true rfl) dX11_inWords_28 (fun H locs hw => ?_)
    refine lv_bipush (v := 32) hx hb dX11_inWords_31 (by decide) ?_
    refine lv_icmp_eq (tgt := 42) hx hb dX11_inWords_33 (by decide) (fun c2 => ?_) (fun c2 => ?_)
    · have h := h.1 c2
      refine lv_iload hx hb dX11_inWords_42 (lv_at hl 4 rfl) ?_
      refine lv_iload_n hx hb dX11_inWords_44 rfl (lv_at hl 3 rfl) ?_
      refine lv_isub hx hb dX11_inWords_45 ?_
      refine lv_aload_n hx hb dX11_inWords_46 rfl (lv_at hl 0 rfl) ?_
      refine x_geti (ci := 11) C hw 14 (xoM_272 hM) rfl inlX11 (by decide) rfl rfl xw_637 dX11_inWords_47 ?_
      refine lv_aload_n hx hb dX11_inWords_50 rfl (lv_at hl 0 rfl) ?_
      refine x_geti (ci := 11) C hw 13 (xoM_272 hM) rfl inlX11 (by decide) rfl rfl xw_643 dX11_inWords_51 ?_
      refine lv_isub hx hb dX11_inWords_54 ?_
      refine lv_icmp_ne (tgt := 62) hx hb dX11_inWords_55 (by decide) (fun c3 => ?_) (fun c3 => ?_)
      · have h := h.1 c3
        refine lv_iconst (v := 0) hx hb dX11_inWords_62 (by decide) ?_
        refine lv_istore (lv' := [(5, .int 0), (0, .ref (xad g 272)), (1, .ref (xsK g 2)), (2, .int v2), (3, .int v3), (4, .int v4)]) hx hb dX11_inWords_63 hl (by decide) rfl (fun ls hl => ?_)
        refine lv_iload_n hx hb dX11_inWords_65 rfl (lv_at hl 4 rfl) ?_
        refine lv_istore (lv' := [(6, .int v3), (5, .int 0), (0, .ref (xad g 272)), (1, .ref (xsK g 2)), (2, .int v2), (3, .int v3), (4, .int v4)]) hx hb dX11_inWords_66 hl (by decide) rfl (fun ls hl => ?_)
        obtain ⟨n9, h⟩ := h
        exact s_X11_inWords_L68 C hM hK14 n9 hw (lv_sub hl [2, 3, 4, 5, 6, 1, 0] rfl) h
      · have h := h.2 c3
        refine lv_iconst (v := 1) hx hb dX11_inWords_58 (by decide) ?_
        refine lv_goto (tgt := 63) hx hb dX11_inWords_59 (by decide) ?_
        refine lv_istore (lv' := [(5, .int 1), (0, .ref (xad g 272)), (1, .ref (xsK g 2)), (2, .int v2), (3, .int v3), (4, .int v4)]) hx hb dX11_inWords_63 hl (by decide) rfl (fun ls hl => ?_)
        refine lv_iload_n hx hb dX11_inWords_65 rfl (lv_at hl 4 rfl) ?_
        refine lv_istore (lv' := [(6, .int v3), (5, .int 1), (0, .ref (xad g 272)), (1, .ref (xsK g 2)), (2, .int v2), (3, .int v3), (4, .int v4)]) hx hb dX11_inWords_66 hl (by decide) rfl (fun ls hl => ?_)
        obtain ⟨n9, h⟩ := h
        exact s_X11_inWords_L68 C hM hK14 n9 hw (lv_sub hl [2, 3, 4, 5, 6, 1, 0] rfl) h
    · have h := h.2 c2
      obtain ⟨x4, ex4⟩ : ∃ y : Int32, y = v4 + 1 := ⟨_, rfl⟩
      have h := h x4 ex4
      refine lv_iinc (v := x4) (lv' := [(4, .int x4), (0, .ref (xad g 272)), (1, .ref (xsK g 2)), (2, .int v2), (3, .int v3)]) hx hb dX11_inWords_36 hl (k := 4) rfl (by rw [ex4]; rfl) (by decide) rfl (fun ls hl => ?_)
      refine lv_goto (tgt := 25) hx hb dX11_inWords_39 (by decide) ?_
      exact ih hw (lv_sub hl [1, 2, 3, 4, 0] rfl) h
set_option maxHeartbeats 4000000 in
set_option maxRecDepth 100000 in
theorem s_X11_inWords_L14 {Qf : Int32 → xM → Prop} (C : x_C p s m args meth c g RX11 cX11_inWords 7 (some .int)) (hM : xpM g) : ∀ (nn : Nat) {v2 : Int32} {v3 : Int32} {u : xM} {H : Heap} {locs : List Loc} {ls : Array Slot} (hw : x_W g s.heap H locs u) (hl : lv_has ls 7 [(0, .ref (xad g 272)), (1, .ref (xsK g 2)), (2, .int v2), (3, .int v3)]) (h : p_X11_inWords_L14 Qf nn v2 v3 u), W p l e (x_rm 5 181) s m args below meth c H locs 0 0 (MQ below (x_Qi g Qf) args s 0 0 (x_A g)) (F0 m 14 ls []) := by
  intro nn
  induction nn with
  | zero => intro v2 v3 u H locs ls hw hl h; exact h.elim
  | succ nn ih =>
    intro v2 v3 u H locs ls hw hl h
    unfold p_X11_inWords_L14 at h
    have hx := C.1
    have hb := C.2.1
    refine lv_iload_n hx hb dX11_inWords_14 rfl (lv_at hl 3 rfl) ?_
    refine lv_aload_n hx hb dX11_inWords_15 rfl (lv_at hl 1 rfl) ?_
    refine x_strlen C hw (by decide) hl.1 xw_669 (Nat.le_of_ble_eq_true rfl) (Nat.le_of_ble_eq_true rfl) (Nat.le_of_ble_eq_true rfl) dX11_inWords_16 (fun H locs hw => ?_)
    refine lv_icmp_ge (tgt := 133) hx hb dX11_inWords_19 (by decide) (fun c1 => ?_) (fun c1 => ?_)
    · have h := h.1 c1
      refine lv_iconst (v := -1) hx hb dX11_inWords_133 (by decide) ?_
      exact x_iret C hw h dX11_inWords_134
    · have h := h.2 c1
      refine lv_iload_n hx hb dX11_inWords_22 rfl (lv_at hl 3 rfl) ?_
      refine lv_istore (lv' := [(4, .int v3), (0, .ref (xad g 272)), (1, .ref (xsK g 2)), (2, .int v2), (3, .int v3)]) hx hb dX11_inWords_23 hl (by decide) rfl (fun ls hl => ?_)
      obtain ⟨n9, h⟩ := h
      exact s_X11_inWords_L25 C hM (fun hw hl h => ih hw hl h) n9 hw (lv_sub hl [1, 2, 3, 4, 0] rfl) h
set_option maxHeartbeats 4000000 in
set_option maxRecDepth 100000 in
theorem s_X11_inWords {Qf : Int32 → xM → Prop} (C : x_C p s m args meth c g RX11 cX11_inWords 7 (some .int)) (hM : xpM g) {u : xM} {H : Heap} {locs : List Loc} {ls : Array Slot} (hw : x_W g s.heap H locs u) (hl : lv_has ls 7 [(0, .ref (xad g 272)), (1, .ref (xsK g 2))]) (h : p_X11_inWords  u Qf) : W p l e (x_rm 5 181) s m args below meth c H locs 0 0 (MQ below (x_Qi g Qf) args s 0 0 (x_A g)) (F0 m 0 ls []) := by
  unfold p_X11_inWords at h
  have hx := C.1
  have hb := C.2.1
  refine lv_aload_n hx hb dX11_inWords_0 rfl (lv_at hl 0 rfl) ?_
  refine x_geti (ci := 11) C hw 12 (xoM_272 hM) rfl inlX11 (by decide) rfl rfl xw_630 dX11_inWords_1 ?_
  refine lv_iconst (v := 2) hx hb dX11_inWords_4 (by decide) ?_
  refine lv_icmp_eq (tgt := 10) hx hb dX11_inWords_5 (by decide) (fun c1 => ?_) (fun c1 => ?_)
  · have h := h.1 c1
    refine lv_iconst (v := 0) hx hb dX11_inWords_10 (by decide) ?_
    refine lv_istore_n (lv' := [(2, .int 0), (0, .ref (xad g 272)), (1, .ref (xsK g 2))]) hx hb dX11_inWords_11 rfl hl (by decide) rfl (fun ls hl => ?_)
    refine lv_iconst (v := 1) hx hb dX11_inWords_12 (by decide) ?_
    refine lv_istore_n (lv' := [(3, .int 1), (2, .int 0), (0, .ref (xad g 272)), (1, .ref (xsK g 2))]) hx hb dX11_inWords_13 rfl hl (by decide) rfl (fun ls hl => ?_)
    obtain ⟨n9, h⟩ := h
    exact s_X11_inWords_L14 C hM n9 hw (lv_sub hl [2, 3, 1, 0] rfl) h
  · have h := h.2 c1
    refine lv_iconst (v := -1) hx hb dX11_inWords_8 (by decide) ?_
    exact x_iret C hw h dX11_inWords_9
set_option maxHeartbeats 4000000 in
set_option maxRecDepth 100000 in
theorem m_X11_inWords (l : Launch) {g : xG} (hD : x_D g) (hM : xpM g) {u : xM} {Qf : Int32 → xM → Prop} (h : p_X11_inWords  u Qf) : Met l yX11_inWords (Cond.code yX11_inWords cX11_inWords 7 (some .int) :: wsL_law) (x_rm 5 181) (va_Pc [.ref (xad g 272), .ref (xsK g 2)] (x_B g u)) (x_Qi g Qf) 0 0 (x_A g) := by
  refine Met.ofW (cc := cX11_inWords) (maxL := 7) (ret := (some .int)) (by decide) rfl ?_
  intro p e s m args below meth c s₁ B hml hv
  obtain ⟨rfl, hB⟩ := hv
  obtain ⟨C, hw⟩ := x_start B hml hD hB
  have hl := lv_entry [.ref (xad g 272), .ref (xsK g 2)] (n := 7) (Nat.le_of_ble_eq_true rfl)
  rw [lg_entry_eq]
  exact s_X11_inWords C hM hw hl h
set_option maxHeartbeats 4000000 in
set_option maxRecDepth 100000 in
theorem s_X11_errs {Qf : Bool → xM → Prop} {a1 : Int32} (C : x_C p s m args meth c g RX11 cX11_errs 2 (some .boolean)) (hM : xpM g) {u : xM} {H : Heap} {locs : List Loc} {ls : Array Slot} (hw : x_W g s.heap H locs u) (hl : lv_has ls 2 [(0, .ref (xad g 272)), (1, .int a1)]) (h : p_X11_errs a1 u Qf) : W p l e (x_rm 0 0) s m args below meth c H locs 0 0 (MQ below (x_Qz g Qf) args s 0 0 (x_A g)) (F0 m 0 ls []) := by
  unfold p_X11_errs at h
  have hx := C.1
  have hb := C.2.1
  refine lv_aload_n hx hb dX11_errs_0 rfl (lv_at hl 0 rfl) ?_
  refine x_geti (ci := 11) C hw 18 (xoM_272 hM) rfl inlX11 (by decide) rfl rfl xw_631 dX11_errs_1 ?_
  refine lv_if_ne (tgt := 32) hx hb dX11_errs_4 (by decide) (fun c1 => ?_) (fun c1 => ?_)
  · have h := h.1 c1
    refine lv_iconst (v := 0) hx hb dX11_errs_32 (by decide) ?_
    exact x_zret false C hw h rfl dX11_errs_33
  · have h := h.2 c1
    refine lv_aload_n hx hb dX11_errs_7 rfl (lv_at hl 0 rfl) ?_
    refine lv_aload_n hx hb dX11_errs_8 rfl (lv_at hl 0 rfl) ?_
    refine x_geti (ci := 11) C hw 12 (xoM_272 hM) rfl inlX11 (by decide) rfl rfl xw_630 dX11_errs_9 ?_
    refine lv_iconst (v := 1) hx hb dX11_errs_12 (by decide) ?_
    refine lv_icmp_ne (tgt := 20) hx hb dX11_errs_13 (by decide) (fun c2 => ?_) (fun c2 => ?_)
    · have h := h.1 c2
      refine lv_iload_n hx hb dX11_errs_20 rfl (lv_at hl 1 rfl) ?_
      obtain ⟨u3, eu3⟩ : ∃ q : xM, q = si u 272 18 a1 := ⟨_, rfl⟩
      have h := h u3 eu3
      refine x_puti (ci := 11) (ty := .int) C hw 18 (xoM_272 hM) rfl inlX11 tyX11_ok nmX11 (by decide) rfl rfl xw_631 rfl (by decide +kernel) rfl rfl dX11_errs_21 eu3 (fun H locs hw => ?_)
      refine lv_aload_n hx hb dX11_errs_24 rfl (lv_at hl 0 rfl) ?_
      refine lv_aload_n hx hb dX11_errs_25 rfl (lv_at hl 0 rfl) ?_
      refine x_geti (ci := 11) C hw 13 (xoM_272 hM) rfl inlX11 (by decide) rfl rfl xw_643 dX11_errs_26 ?_
      obtain ⟨u4, eu4⟩ : ∃ q : xM, q = si u3 272 17 (gi u3 272 13) := ⟨_, rfl⟩
      have h := h u4 eu4
      refine x_puti (ci := 11) (ty := .int) C hw 17 (xoM_272 hM) rfl inlX11 tyX11_ok nmX11 (by decide) rfl rfl xw_228 rfl (by decide +kernel) rfl rfl dX11_errs_29 eu4 (fun H locs hw => ?_)
      refine lv_iconst (v := 0) hx hb dX11_errs_32 (by decide) ?_
      exact x_zret false C hw h rfl dX11_errs_33
    · have h := h.2 c2
      refine lv_iconst (v := 1) hx hb dX11_errs_16 (by decide) ?_
      refine lv_goto (tgt := 21) hx hb dX11_errs_17 (by decide) ?_
      obtain ⟨u5, eu5⟩ : ∃ q : xM, q = si u 272 18 (1 : Int32) := ⟨_, rfl⟩
      have h := h u5 eu5
      refine x_puti (ci := 11) (ty := .int) C hw 18 (xoM_272 hM) rfl inlX11 tyX11_ok nmX11 (by decide) rfl rfl xw_631 rfl (by decide +kernel) rfl rfl dX11_errs_21 eu5 (fun H locs hw => ?_)
      refine lv_aload_n hx hb dX11_errs_24 rfl (lv_at hl 0 rfl) ?_
      refine lv_aload_n hx hb dX11_errs_25 rfl (lv_at hl 0 rfl) ?_
      refine x_geti (ci := 11) C hw 13 (xoM_272 hM) rfl inlX11 (by decide) rfl rfl xw_643 dX11_errs_26 ?_
      obtain ⟨u6, eu6⟩ : ∃ q : xM, q = si u5 272 17 (gi u5 272 13) := ⟨_, rfl⟩
      have h := h u6 eu6
      refine x_puti (ci := 11) (ty := .int) C hw 17 (xoM_272 hM) rfl inlX11 tyX11_ok nmX11 (by decide) rfl rfl xw_228 rfl (by decide +kernel) rfl rfl dX11_errs_29 eu6 (fun H locs hw => ?_)
      refine lv_iconst (v := 0) hx hb dX11_errs_32 (by decide) ?_
      exact x_zret false C hw h rfl dX11_errs_33
set_option maxHeartbeats 4000000 in
set_option maxRecDepth 100000 in
theorem m_X11_errs (l : Launch) {g : xG} (hD : x_D g) (hM : xpM g) {a1 : Int32} {u : xM} {Qf : Bool → xM → Prop} (h : p_X11_errs a1 u Qf) : Met l yX11_errs (Cond.code yX11_errs cX11_errs 2 (some .boolean) :: wsL_law) (x_rm 0 0) (va_Pc [.ref (xad g 272), .int a1] (x_B g u)) (x_Qz g Qf) 0 0 (x_A g) := by
  refine Met.ofW (cc := cX11_errs) (maxL := 2) (ret := (some .boolean)) (by decide) rfl ?_
  intro p e s m args below meth c s₁ B hml hv
  obtain ⟨rfl, hB⟩ := hv
  obtain ⟨C, hw⟩ := x_start B hml hD hB
  have hl := lv_entry [.ref (xad g 272), .int a1] (n := 2) (Nat.le_of_ble_eq_true rfl)
  rw [lg_entry_eq]
  exact s_X11_errs C hM hw hl h
set_option maxHeartbeats 4000000 in
set_option maxRecDepth 100000 in
theorem s_X11_begins_L26 {Qf : Bool → xM → Prop} (C : x_C p s m args meth c g RX11 cX11_begins 4 (some .boolean)) (hM : xpM g) : ∀ (nn : Nat) {v1 : Int32} {v3 : Int32} {u : xM} {H : Heap} {locs : List Loc} {ls : Array Slot} (hw : x_W g s.heap H locs u) (hl : lv_has ls 4 [(0, .ref (xad g 272)), (1, .int v1), (3, .int v3)]) (h : p_X11_begins_L26 Qf nn v1 v3 u), W p l e (x_rm 2 101) s m args below meth c H locs 0 0 (MQ below (x_Qz g Qf) args s 0 0 (x_A g)) (F0 m 26 ls []) := by
  intro nn
  induction nn with
  | zero => intro v1 v3 u H locs ls hw hl h; exact h.elim
  | succ nn ih =>
    intro v1 v3 u H locs ls hw hl h
    unfold p_X11_begins_L26 at h
    have hx := C.1
    have hb := C.2.1
    refine lv_iload_n hx hb dX11_begins_26 rfl (lv_at hl 2 rfl) ?_
    refine lv_iload_n hx hb dX11_begins_27 rfl (lv_at hl 1 rfl) ?_
    refine lv_icmp_ge (tgt := 49) hx hb dX11_begins_28 (by decide) (fun c1 => ?_) (fun c1 => ?_)
    · have h := h.1 c1
      refine lv_aload_n hx hb dX11_begins_49 rfl (lv_at hl 0 rfl) ?_
      refine lv_iconst (v := 0) hx hb dX11_begins_50 (by decide) ?_
      obtain ⟨u2, eu2⟩ : ∃ q : xM, q = si u 272 10 (0 : Int32) := ⟨_, rfl⟩
      have h := h u2 eu2
      refine x_puti (ci := 11) (ty := .int) C hw 10 (xoM_272 hM) rfl inlX11 tyX11_ok nmX11 (by decide) rfl rfl xw_387 rfl (by decide +kernel) rfl rfl dX11_begins_51 eu2 (fun H locs hw => ?_)
      refine lv_aload_n hx hb dX11_begins_54 rfl (lv_at hl 0 rfl) ?_
      refine lv_iconst (v := 0) hx hb dX11_begins_55 (by decide) ?_
      obtain ⟨u3, eu3⟩ : ∃ q : xM, q = si u2 272 18 (0 : Int32) := ⟨_, rfl⟩
      have h := h u3 eu3
      refine x_puti (ci := 11) (ty := .int) C hw 18 (xoM_272 hM) rfl inlX11 tyX11_ok nmX11 (by decide) rfl rfl xw_631 rfl (by decide +kernel) rfl rfl dX11_begins_56 eu3 (fun H locs hw => ?_)
      refine lv_aload_n hx hb dX11_begins_59 rfl (lv_at hl 0 rfl) ?_
      refine lv_iconst (v := -1) hx hb dX11_begins_60 (by decide) ?_
      obtain ⟨u4, eu4⟩ : ∃ q : xM, q = si u3 272 17 (-1 : Int32) := ⟨_, rfl⟩
      have h := h u4 eu4
      refine x_puti (ci := 11) (ty := .int) C hw 17 (xoM_272 hM) rfl inlX11 tyX11_ok nmX11 (by decide) rfl rfl xw_228 rfl (by decide +kernel) rfl rfl dX11_begins_61 eu4 (fun H locs hw => ?_)
      refine lv_aload_n hx hb dX11_begins_64 rfl (lv_at hl 0 rfl) ?_
      refine lv_iconst (v := 0) hx hb dX11_begins_65 (by decide) ?_
      obtain ⟨u5, eu5⟩ : ∃ q : xM, q = si u4 272 14 (0 : Int32) := ⟨_, rfl⟩
      have h := h u5 eu5
      refine x_puti (ci := 11) (ty := .int) C hw 14 (xoM_272 hM) rfl inlX11 tyX11_ok nmX11 (by decide) rfl rfl xw_637 rfl (by decide +kernel) rfl rfl dX11_begins_66 eu5 (fun H locs hw => ?_)
      refine lv_aload_n hx hb dX11_begins_69 rfl (lv_at hl 0 rfl) ?_
      refine lv_iconst (v := 0) hx hb dX11_begins_70 (by decide) ?_
      obtain ⟨u6, eu6⟩ : ∃ q : xM, q = si u5 272 19 (0 : Int32) := ⟨_, rfl⟩
      have h := h u6 eu6
      refine x_puti (ci := 11) (ty := .int) C hw 19 (xoM_272 hM) rfl inlX11 tyX11_ok nmX11 (by decide) rfl rfl xw_638 rfl (by decide +kernel) rfl rfl dX11_begins_71 eu6 (fun H locs hw => ?_)
      refine lv_aload_n hx hb dX11_begins_74 rfl (lv_at hl 0 rfl) ?_
      refine x_callv hw (x_runV (ci := 11) C hw (m_X11_ahead l C.2.2.2.2.2.2.2.2.1 hM h) (xoM_272 hM) rfl (x_gV xw_639 xw_640 xw_641 xw_5 xw_642) rfl rfl qX11_ahead ⟨(Nat.le_of_ble_eq_true rfl), (Nat.le_of_ble_eq_true rfl)⟩ rfl hl.1 rfl (Nat.le_of_ble_eq_true rfl) dX11_begins_75) (fun u7 H locs hw h => ?_)
      refine lv_iconst (v := 1) hx hb dX11_begins_78 (by decide) ?_
      exact x_zret true C hw h rfl dX11_begins_79
    · have h := h.2 c1
      refine lv_aload_n hx hb dX11_begins_31 rfl (lv_at hl 0 rfl) ?_
      refine x_getr (ci := 11) C hw 9 (xoM_272 hM) rfl inlX11 (by decide) rfl rfl xrM_272_9 xw_226 dX11_begins_32 ?_
      refine lv_iload_n hx hb dX11_begins_35 rfl (lv_at hl 2 rfl) ?_
      refine lv_aload_n hx hb dX11_begins_36 rfl (lv_at hl 0 rfl) ?_
      refine x_getr (ci := 11) C hw 8 (xoM_272 hM) rfl inlX11 (by decide) rfl rfl xrM_272_8 xw_225 dX11_begins_37 ?_
      refine lv_iload_n hx hb dX11_begins_40 rfl (lv_at hl 2 rfl) ?_
      have c8 := h.1
      have h := h.2
      refine x_bald C hw (xoM_278 hM) c8 dX11_begins_41 ?_
      have c9 := h.1
      have h := h.2
      obtain ⟨u10, eu10⟩ : ∃ q : xM, q = si u 279 v3.toNatClampNeg (gi u 278 v3.toNatClampNeg).toInt8.toInt32 := ⟨_, rfl⟩
      have h := h u10 eu10
      refine x_bast C hw (xoM_279 hM) c9 dX11_begins_42 eu10 (fun H locs hw => ?_)
      obtain ⟨x11, ex11⟩ : ∃ y : Int32, y = v3 + 1 := ⟨_, rfl⟩
      have h := h x11 ex11
      refine lv_iinc (v := x11) (lv' := [(3, .int x11), (0, .ref (xad g 272)), (1, .int v1)]) hx hb dX11_begins_43 hl (k := 2) rfl (by rw [ex11]; rfl) (by decide) rfl (fun ls hl => ?_)
      refine lv_goto (tgt := 26) hx hb dX11_begins_46 (by decide) ?_
      exact ih hw (lv_sub hl [1, 2, 0] rfl) h
set_option maxHeartbeats 4000000 in
set_option maxRecDepth 100000 in
theorem s_X11_begins {Qf : Bool → xM → Prop} {a1 : Int32} {a2 : Int32} (C : x_C p s m args meth c g RX11 cX11_begins 4 (some .boolean)) (hM : xpM g) {u : xM} {H : Heap} {locs : List Loc} {ls : Array Slot} (hw : x_W g s.heap H locs u) (hl : lv_has ls 4 [(0, .ref (xad g 272)), (1, .int a1), (2, .int a2)]) (h : p_X11_begins a1 a2 u Qf) : W p l e (x_rm 2 101) s m args below meth c H locs 0 0 (MQ below (x_Qz g Qf) args s 0 0 (x_A g)) (F0 m 0 ls []) := by
  unfold p_X11_begins at h
  have hx := C.1
  have hb := C.2.1
  refine lv_iload_n hx hb dX11_begins_0 rfl (lv_at hl 1 rfl) ?_
  refine lv_if_lt (tgt := 17) hx hb dX11_begins_1 (by decide) (fun c1 => ?_) (fun c1 => ?_)
  · have h := h.1 c1
    refine lv_iconst (v := 0) hx hb dX11_begins_17 (by decide) ?_
    exact x_zret false C hw h rfl dX11_begins_18
  · have h := h.2 c1
    refine lv_iload_n hx hb dX11_begins_4 rfl (lv_at hl 1 rfl) ?_
    refine lv_aload_n hx hb dX11_begins_5 rfl (lv_at hl 0 rfl) ?_
    refine x_geti (ci := 11) C hw 10 (xoM_272 hM) rfl inlX11 (by decide) rfl rfl xw_387 dX11_begins_6 ?_
    refine lv_icmp_gt (tgt := 17) hx hb dX11_begins_9 (by decide) (fun c2 => ?_) (fun c2 => ?_)
    · have h := h.1 c2
      refine lv_iconst (v := 0) hx hb dX11_begins_17 (by decide) ?_
      exact x_zret false C hw h rfl dX11_begins_18
    · have h := h.2 c2
      refine lv_iload_n hx hb dX11_begins_12 rfl (lv_at hl 1 rfl) ?_
      refine lv_iload_n hx hb dX11_begins_13 rfl (lv_at hl 2 rfl) ?_
      refine lv_icmp_le (tgt := 19) hx hb dX11_begins_14 (by decide) (fun c3 => ?_) (fun c3 => ?_)
      · have h := h.1 c3
        refine lv_aload_n hx hb dX11_begins_19 rfl (lv_at hl 0 rfl) ?_
        refine lv_iload_n hx hb dX11_begins_20 rfl (lv_at hl 1 rfl) ?_
        obtain ⟨u4, eu4⟩ : ∃ q : xM, q = si u 272 11 a1 := ⟨_, rfl⟩
        have h := h u4 eu4
        refine x_puti (ci := 11) (ty := .int) C hw 11 (xoM_272 hM) rfl inlX11 tyX11_ok nmX11 (by decide) rfl rfl xw_636 rfl (by decide +kernel) rfl rfl dX11_begins_21 eu4 (fun H locs hw => ?_)
        refine lv_iconst (v := 0) hx hb dX11_begins_24 (by decide) ?_
        refine lv_istore_n (lv' := [(3, .int 0), (0, .ref (xad g 272)), (1, .int a1), (2, .int a2)]) hx hb dX11_begins_25 rfl hl (by decide) rfl (fun ls hl => ?_)
        obtain ⟨n9, h⟩ := h
        exact s_X11_begins_L26 C hM n9 hw (lv_sub hl [1, 2, 0] rfl) h
      · have h := h.2 c3
        refine lv_iconst (v := 0) hx hb dX11_begins_17 (by decide) ?_
        exact x_zret false C hw h rfl dX11_begins_18
set_option maxHeartbeats 4000000 in
set_option maxRecDepth 100000 in
theorem m_X11_begins (l : Launch) {g : xG} (hD : x_D g) (hM : xpM g) {a1 : Int32} {a2 : Int32} {u : xM} {Qf : Bool → xM → Prop} (h : p_X11_begins a1 a2 u Qf) : Met l yX11_begins (Cond.code yX11_begins cX11_begins 4 (some .boolean) :: wsL_law) (x_rm 2 101) (va_Pc [.ref (xad g 272), .int a1, .int a2] (x_B g u)) (x_Qz g Qf) 0 0 (x_A g) := by
  refine Met.ofW (cc := cX11_begins) (maxL := 4) (ret := (some .boolean)) (by decide) rfl ?_
  intro p e s m args below meth c s₁ B hml hv
  obtain ⟨rfl, hB⟩ := hv
  obtain ⟨C, hw⟩ := x_start B hml hD hB
  have hl := lv_entry [.ref (xad g 272), .int a1, .int a2] (n := 4) (Nat.le_of_ble_eq_true rfl)
  rw [lg_entry_eq]
  exact s_X11_begins C hM hw hl h
set_option maxHeartbeats 4000000 in
set_option maxRecDepth 100000 in
theorem s_X11_wantSign {Qf : Bool → xM → Prop} {a1 : Int32} (C : x_C p s m args meth c g RX11 cX11_wantSign 2 (some .boolean)) (hM : xpM g) {u : xM} {H : Heap} {locs : List Loc} {ls : Array Slot} (hw : x_W g s.heap H locs u) (hl : lv_has ls 2 [(0, .ref (xad g 272)), (1, .int a1)]) (h : p_X11_wantSign a1 u Qf) : W p l e (x_rm 2 101) s m args below meth c H locs 0 0 (MQ below (x_Qz g Qf) args s 0 0 (x_A g)) (F0 m 0 ls []) := by
  unfold p_X11_wantSign at h
  have hx := C.1
  have hb := C.2.1
  refine lv_aload_n hx hb dX11_wantSign_0 rfl (lv_at hl 0 rfl) ?_
  refine lv_iload_n hx hb dX11_wantSign_1 rfl (lv_at hl 1 rfl) ?_
  refine x_callz hw (x_runV (ci := 11) C hw (m_X11_isSign l C.2.2.2.2.2.2.2.2.1 hM h) (xoM_272 hM) rfl (x_gV xw_723 xw_724 xw_725 xw_5 xw_726) rfl rfl qX11_isSign ⟨(Nat.le_of_ble_eq_true rfl), (Nat.le_of_ble_eq_true rfl)⟩ rfl hl.1 rfl (Nat.le_of_ble_eq_true rfl) dX11_wantSign_2) (fun r2 u1 H locs hw h => ?_)
  refine lv_if_ne (tgt := 14) hx hb dX11_wantSign_5 (by decide) (fun c3 => ?_) (fun c3 => ?_)
  · have h := h.1 (xb_t c3)
    refine lv_aload_n hx hb dX11_wantSign_14 rfl (lv_at hl 0 rfl) ?_
    refine x_callv hw (x_runV (ci := 11) C hw (m_X11_ahead l C.2.2.2.2.2.2.2.2.1 hM h) (xoM_272 hM) rfl (x_gV xw_639 xw_640 xw_641 xw_5 xw_642) rfl rfl qX11_ahead ⟨(Nat.le_of_ble_eq_true rfl), (Nat.le_of_ble_eq_true rfl)⟩ rfl hl.1 rfl (Nat.le_of_ble_eq_true rfl) dX11_wantSign_15) (fun u4 H locs hw h => ?_)
    refine lv_iconst (v := 1) hx hb dX11_wantSign_18 (by decide) ?_
    exact x_zret true C hw h rfl dX11_wantSign_19
  · have h := h.2 (xb_f c3)
    refine lv_aload_n hx hb dX11_wantSign_8 rfl (lv_at hl 0 rfl) ?_
    refine lv_iconst (v := 2) hx hb dX11_wantSign_9 (by decide) ?_
    refine x_callz hw (x_runV (ci := 11) C hw (m_X11_errs l C.2.2.2.2.2.2.2.2.1 hM h) (xoM_272 hM) rfl (x_gV xw_679 xw_680 xw_681 xw_5 xw_682) rfl rfl qX11_errs ⟨(Nat.le_of_ble_eq_true rfl), (Nat.le_of_ble_eq_true rfl)⟩ rfl hl.1 rfl (Nat.le_of_ble_eq_true rfl) dX11_wantSign_10) (fun r6 u5 H locs hw h => ?_)
    exact x_zret _ C hw h rfl dX11_wantSign_13
set_option maxHeartbeats 4000000 in
set_option maxRecDepth 100000 in
theorem m_X11_wantSign (l : Launch) {g : xG} (hD : x_D g) (hM : xpM g) {a1 : Int32} {u : xM} {Qf : Bool → xM → Prop} (h : p_X11_wantSign a1 u Qf) : Met l yX11_wantSign (Cond.code yX11_wantSign cX11_wantSign 2 (some .boolean) :: wsL_law) (x_rm 2 101) (va_Pc [.ref (xad g 272), .int a1] (x_B g u)) (x_Qz g Qf) 0 0 (x_A g) := by
  refine Met.ofW (cc := cX11_wantSign) (maxL := 2) (ret := (some .boolean)) (by decide) rfl ?_
  intro p e s m args below meth c s₁ B hml hv
  obtain ⟨rfl, hB⟩ := hv
  obtain ⟨C, hw⟩ := x_start B hml hD hB
  have hl := lv_entry [.ref (xad g 272), .int a1] (n := 2) (Nat.le_of_ble_eq_true rfl)
  rw [lg_entry_eq]
  exact s_X11_wantSign C hM hw hl h
set_option maxHeartbeats 4000000 in
set_option maxRecDepth 100000 in
theorem s_X11_wantWord {Qf : Bool → xM → Prop} {a2 : Int32} (C : x_C p s m args meth c g RX11 cX11_wantWord 3 (some .boolean)) (hM : xpM g) {u : xM} {H : Heap} {locs : List Loc} {ls : Array Slot} (hw : x_W g s.heap H locs u) (hl : lv_has ls 3 [(0, .ref (xad g 272)), (1, .ref (xsK g 2)), (2, .int a2)]) (h : p_X11_wantWord a2 u Qf) : W p l e (x_rm 6 207) s m args below meth c H locs 0 0 (MQ below (x_Qz g Qf) args s 0 0 (x_A g)) (F0 m 0 ls []) := by
  unfold p_X11_wantWord at h
  have hx := C.1
  have hb := C.2.1
  refine lv_aload_n hx hb dX11_wantWord_0 rfl (lv_at hl 0 rfl) ?_
  refine lv_aload_n hx hb dX11_wantWord_1 rfl (lv_at hl 1 rfl) ?_
  refine x_calli hw (x_runV (ci := 11) C hw (m_X11_inWords l C.2.2.2.2.2.2.2.2.1 hM h) (xoM_272 hM) rfl (x_gV xw_665 xw_666 xw_667 xw_5 xw_668) rfl rfl qX11_inWords ⟨(Nat.le_of_ble_eq_true rfl), (Nat.le_of_ble_eq_true rfl)⟩ rfl hl.1 rfl (Nat.le_of_ble_eq_true rfl) dX11_wantWord_2) (fun r2 u1 H locs hw h => ?_)
  refine lv_iload_n hx hb dX11_wantWord_5 rfl (lv_at hl 2 rfl) ?_
  refine lv_icmp_eq (tgt := 15) hx hb dX11_wantWord_6 (by decide) (fun c3 => ?_) (fun c3 => ?_)
  · have h := h.1 c3
    refine lv_aload_n hx hb dX11_wantWord_15 rfl (lv_at hl 0 rfl) ?_
    refine x_callv hw (x_runV (ci := 11) C hw (m_X11_ahead l C.2.2.2.2.2.2.2.2.1 hM h) (xoM_272 hM) rfl (x_gV xw_639 xw_640 xw_641 xw_5 xw_642) rfl rfl qX11_ahead ⟨(Nat.le_of_ble_eq_true rfl), (Nat.le_of_ble_eq_true rfl)⟩ rfl hl.1 rfl (Nat.le_of_ble_eq_true rfl) dX11_wantWord_16) (fun u4 H locs hw h => ?_)
    refine lv_iconst (v := 1) hx hb dX11_wantWord_19 (by decide) ?_
    exact x_zret true C hw h rfl dX11_wantWord_20
  · have h := h.2 c3
    refine lv_aload_n hx hb dX11_wantWord_9 rfl (lv_at hl 0 rfl) ?_
    refine lv_iconst (v := 2) hx hb dX11_wantWord_10 (by decide) ?_
    refine x_callz hw (x_runV (ci := 11) C hw (m_X11_errs l C.2.2.2.2.2.2.2.2.1 hM h) (xoM_272 hM) rfl (x_gV xw_679 xw_680 xw_681 xw_5 xw_682) rfl rfl qX11_errs ⟨(Nat.le_of_ble_eq_true rfl), (Nat.le_of_ble_eq_true rfl)⟩ rfl hl.1 rfl (Nat.le_of_ble_eq_true rfl) dX11_wantWord_11) (fun r6 u5 H locs hw h => ?_)
    exact x_zret _ C hw h rfl dX11_wantWord_14
set_option maxHeartbeats 4000000 in
set_option maxRecDepth 100000 in
theorem m_X11_wantWord (l : Launch) {g : xG} (hD : x_D g) (hM : xpM g) {a2 : Int32} {u : xM} {Qf : Bool → xM → Prop} (h : p_X11_wantWord a2 u Qf) : Met l yX11_wantWord (Cond.code yX11_wantWord cX11_wantWord 3 (some .boolean) :: wsL_law) (x_rm 6 207) (va_Pc [.ref (xad g 272), .ref (xsK g 2), .int a2] (x_B g u)) (x_Qz g Qf) 0 0 (x_A g) := by
  refine Met.ofW (cc := cX11_wantWord) (maxL := 3) (ret := (some .boolean)) (by decide) rfl ?_
  intro p e s m args below meth c s₁ B hml hv
  obtain ⟨rfl, hB⟩ := hv
  obtain ⟨C, hw⟩ := x_start B hml hD hB
  have hl := lv_entry [.ref (xad g 272), .ref (xsK g 2), .int a2] (n := 3) (Nat.le_of_ble_eq_true rfl)
  rw [lg_entry_eq]
  exact s_X11_wantWord C hM hw hl h
set_option maxHeartbeats 4000000 in
set_option maxRecDepth 100000 in
theorem s_X11_number {Qf : Bool → xM → Prop} {a1 : Int32} {a2 : Int32} {a3 : Int32} (C : x_C p s m args meth c g RX11 cX11_number 4 (some .boolean)) (hM : xpM g) {u : xM} {H : Heap} {locs : List Loc} {ls : Array Slot} (hw : x_W g s.heap H locs u) (hl : lv_has ls 4 [(0, .ref (xad g 272)), (1, .int a1), (2, .int a2), (3, .int a3)]) (h : p_X11_number a1 a2 a3 u Qf) : W p l e (x_rm 2 101) s m args below meth c H locs 0 0 (MQ below (x_Qz g Qf) args s 0 0 (x_A g)) (F0 m 0 ls []) := by
  unfold p_X11_number at h
  have hx := C.1
  have hb := C.2.1
  refine lv_aload_n hx hb dX11_number_0 rfl (lv_at hl 0 rfl) ?_
  refine x_geti (ci := 11) C hw 12 (xoM_272 hM) rfl inlX11 (by decide) rfl rfl xw_630 dX11_number_1 ?_
  refine lv_iconst (v := 3) hx hb dX11_number_4 (by decide) ?_
  refine lv_icmp_eq (tgt := 14) hx hb dX11_number_5 (by decide) (fun c1 => ?_) (fun c1 => ?_)
  · have h := h.1 c1
    refine lv_aload_n hx hb dX11_number_14 rfl (lv_at hl 0 rfl) ?_
    refine x_geti (ci := 11) C hw 15 (xoM_272 hM) rfl inlX11 (by decide) rfl rfl xw_644 dX11_number_15 ?_
    refine lv_iload_n hx hb dX11_number_18 rfl (lv_at hl 2 rfl) ?_
    refine lv_icmp_lt (tgt := 30) hx hb dX11_number_19 (by decide) (fun c2 => ?_) (fun c2 => ?_)
    · have h := h.1 c2
      refine lv_aload_n hx hb dX11_number_30 rfl (lv_at hl 0 rfl) ?_
      refine lv_iconst (v := 4) hx hb dX11_number_31 (by decide) ?_
      refine x_callz hw (x_runV (ci := 11) C hw (m_X11_errs l C.2.2.2.2.2.2.2.2.1 hM h) (xoM_272 hM) rfl (x_gV xw_679 xw_680 xw_681 xw_5 xw_682) rfl rfl qX11_errs ⟨(Nat.le_of_ble_eq_true rfl), (Nat.le_of_ble_eq_true rfl)⟩ rfl hl.1 rfl (Nat.le_of_ble_eq_true rfl) dX11_number_32) (fun r4 u3 H locs hw h => ?_)
      exact x_zret _ C hw h rfl dX11_number_35
    · have h := h.2 c2
      refine lv_aload_n hx hb dX11_number_22 rfl (lv_at hl 0 rfl) ?_
      refine x_geti (ci := 11) C hw 15 (xoM_272 hM) rfl inlX11 (by decide) rfl rfl xw_644 dX11_number_23 ?_
      refine lv_iload_n hx hb dX11_number_26 rfl (lv_at hl 3 rfl) ?_
      refine lv_icmp_le (tgt := 36) hx hb dX11_number_27 (by decide) (fun c5 => ?_) (fun c5 => ?_)
      · have h := h.1 c5
        refine lv_aload_n hx hb dX11_number_36 rfl (lv_at hl 0 rfl) ?_
        refine x_getr (ci := 11) C hw 0 (xoM_272 hM) rfl inlX11 (by decide) rfl rfl xrM_272_0 xw_219 dX11_number_37 ?_
        refine lv_iload_n hx hb dX11_number_40 rfl (lv_at hl 1 rfl) ?_
        refine lv_aload_n hx hb dX11_number_41 rfl (lv_at hl 0 rfl) ?_
        refine x_geti (ci := 11) C hw 15 (xoM_272 hM) rfl inlX11 (by decide) rfl rfl xw_644 dX11_number_42 ?_
        have c6 := h.1
        have h := h.2
        obtain ⟨u7, eu7⟩ : ∃ q : xM, q = si u 273 a1.toNatClampNeg (gi u 272 15) := ⟨_, rfl⟩
        have h := h u7 eu7
        refine x_iast C hw (xoM_273 hM) c6 dX11_number_45 eu7 (fun H locs hw => ?_)
        refine lv_aload_n hx hb dX11_number_46 rfl (lv_at hl 0 rfl) ?_
        refine x_callv hw (x_runV (ci := 11) C hw (m_X11_ahead l C.2.2.2.2.2.2.2.2.1 hM h) (xoM_272 hM) rfl (x_gV xw_639 xw_640 xw_641 xw_5 xw_642) rfl rfl qX11_ahead ⟨(Nat.le_of_ble_eq_true rfl), (Nat.le_of_ble_eq_true rfl)⟩ rfl hl.1 rfl (Nat.le_of_ble_eq_true rfl) dX11_number_47) (fun u8 H locs hw h => ?_)
        refine lv_iconst (v := 1) hx hb dX11_number_50 (by decide) ?_
        exact x_zret true C hw h rfl dX11_number_51
      · have h := h.2 c5
        refine lv_aload_n hx hb dX11_number_30 rfl (lv_at hl 0 rfl) ?_
        refine lv_iconst (v := 4) hx hb dX11_number_31 (by decide) ?_
        refine x_callz hw (x_runV (ci := 11) C hw (m_X11_errs l C.2.2.2.2.2.2.2.2.1 hM h) (xoM_272 hM) rfl (x_gV xw_679 xw_680 xw_681 xw_5 xw_682) rfl rfl qX11_errs ⟨(Nat.le_of_ble_eq_true rfl), (Nat.le_of_ble_eq_true rfl)⟩ rfl hl.1 rfl (Nat.le_of_ble_eq_true rfl) dX11_number_32) (fun r10 u9 H locs hw h => ?_)
        exact x_zret _ C hw h rfl dX11_number_35
  · have h := h.2 c1
    refine lv_aload_n hx hb dX11_number_8 rfl (lv_at hl 0 rfl) ?_
    refine lv_iconst (v := 2) hx hb dX11_number_9 (by decide) ?_
    refine x_callz hw (x_runV (ci := 11) C hw (m_X11_errs l C.2.2.2.2.2.2.2.2.1 hM h) (xoM_272 hM) rfl (x_gV xw_679 xw_680 xw_681 xw_5 xw_682) rfl rfl qX11_errs ⟨(Nat.le_of_ble_eq_true rfl), (Nat.le_of_ble_eq_true rfl)⟩ rfl hl.1 rfl (Nat.le_of_ble_eq_true rfl) dX11_number_10) (fun r12 u11 H locs hw h => ?_)
    exact x_zret _ C hw h rfl dX11_number_13
set_option maxHeartbeats 4000000 in
set_option maxRecDepth 100000 in
theorem m_X11_number (l : Launch) {g : xG} (hD : x_D g) (hM : xpM g) {a1 : Int32} {a2 : Int32} {a3 : Int32} {u : xM} {Qf : Bool → xM → Prop} (h : p_X11_number a1 a2 a3 u Qf) : Met l yX11_number (Cond.code yX11_number cX11_number 4 (some .boolean) :: wsL_law) (x_rm 2 101) (va_Pc [.ref (xad g 272), .int a1, .int a2, .int a3] (x_B g u)) (x_Qz g Qf) 0 0 (x_A g) := by
  refine Met.ofW (cc := cX11_number) (maxL := 4) (ret := (some .boolean)) (by decide) rfl ?_
  intro p e s m args below meth c s₁ B hml hv
  obtain ⟨rfl, hB⟩ := hv
  obtain ⟨C, hw⟩ := x_start B hml hD hB
  have hl := lv_entry [.ref (xad g 272), .int a1, .int a2, .int a3] (n := 4) (Nat.le_of_ble_eq_true rfl)
  rw [lg_entry_eq]
  exact s_X11_number C hM hw hl h
set_option maxHeartbeats 4000000 in
set_option maxRecDepth 100000 in
theorem s_X11_isName {Qf : Bool → xM → Prop} (C : x_C p s m args meth c g RX11 cX11_isName 2 (some .boolean)) (hM : xpM g) {u : xM} {H : Heap} {locs : List Loc} {ls : Array Slot} (hw : x_W g s.heap H locs u) (hl : lv_has ls 2 [(0, .ref (xad g 272)), (1, .ref (xsK g 2))]) (h : p_X11_isName  u Qf) : W p l e (x_rm 6 207) s m args below meth c H locs 0 0 (MQ below (x_Qz g Qf) args s 0 0 (x_A g)) (F0 m 0 ls []) := by
  unfold p_X11_isName at h
  have hx := C.1
  have hb := C.2.1
  refine lv_aload_n hx hb dX11_isName_0 rfl (lv_at hl 0 rfl) ?_
  refine x_geti (ci := 11) C hw 12 (xoM_272 hM) rfl inlX11 (by decide) rfl rfl xw_630 dX11_isName_1 ?_
  refine lv_iconst (v := 2) hx hb dX11_isName_4 (by decide) ?_
  refine lv_icmp_ne (tgt := 35) hx hb dX11_isName_5 (by decide) (fun c1 => ?_) (fun c1 => ?_)
  · have h := h.1 c1
    refine lv_iconst (v := 0) hx hb dX11_isName_35 (by decide) ?_
    exact x_zret false C hw h rfl dX11_isName_36
  · have h := h.2 c1
    refine lv_aload_n hx hb dX11_isName_8 rfl (lv_at hl 0 rfl) ?_
    refine x_geti (ci := 11) C hw 14 (xoM_272 hM) rfl inlX11 (by decide) rfl rfl xw_637 dX11_isName_9 ?_
    refine lv_aload_n hx hb dX11_isName_12 rfl (lv_at hl 0 rfl) ?_
    refine x_geti (ci := 11) C hw 13 (xoM_272 hM) rfl inlX11 (by decide) rfl rfl xw_643 dX11_isName_13 ?_
    refine lv_isub hx hb dX11_isName_16 ?_
    refine lv_bipush (v := 8) hx hb dX11_isName_17 (by decide) ?_
    refine lv_icmp_gt (tgt := 35) hx hb dX11_isName_19 (by decide) (fun c2 => ?_) (fun c2 => ?_)
    · have h := h.1 c2
      refine lv_iconst (v := 0) hx hb dX11_isName_35 (by decide) ?_
      exact x_zret false C hw h rfl dX11_isName_36
    · have h := h.2 c2
      refine lv_aload_n hx hb dX11_isName_22 rfl (lv_at hl 0 rfl) ?_
      refine lv_aload_n hx hb dX11_isName_23 rfl (lv_at hl 1 rfl) ?_
      refine x_calli hw (x_runV (ci := 11) C hw (m_X11_inWords l C.2.2.2.2.2.2.2.2.1 hM h) (xoM_272 hM) rfl (x_gV xw_665 xw_666 xw_667 xw_5 xw_668) rfl rfl qX11_inWords ⟨(Nat.le_of_ble_eq_true rfl), (Nat.le_of_ble_eq_true rfl)⟩ rfl hl.1 rfl (Nat.le_of_ble_eq_true rfl) dX11_isName_24) (fun r4 u3 H locs hw h => ?_)
      refine lv_iconst (v := -1) hx hb dX11_isName_27 (by decide) ?_
      refine lv_icmp_ne (tgt := 35) hx hb dX11_isName_28 (by decide) (fun c5 => ?_) (fun c5 => ?_)
      · have h := h.1 c5
        refine lv_iconst (v := 0) hx hb dX11_isName_35 (by decide) ?_
        exact x_zret false C hw h rfl dX11_isName_36
      · have h := h.2 c5
        refine lv_iconst (v := 1) hx hb dX11_isName_31 (by decide) ?_
        refine lv_goto (tgt := 36) hx hb dX11_isName_32 (by decide) ?_
        exact x_zret true C hw h rfl dX11_isName_36
set_option maxHeartbeats 4000000 in
set_option maxRecDepth 100000 in
theorem m_X11_isName (l : Launch) {g : xG} (hD : x_D g) (hM : xpM g) {u : xM} {Qf : Bool → xM → Prop} (h : p_X11_isName  u Qf) : Met l yX11_isName (Cond.code yX11_isName cX11_isName 2 (some .boolean) :: wsL_law) (x_rm 6 207) (va_Pc [.ref (xad g 272), .ref (xsK g 2)] (x_B g u)) (x_Qz g Qf) 0 0 (x_A g) := by
  refine Met.ofW (cc := cX11_isName) (maxL := 2) (ret := (some .boolean)) (by decide) rfl ?_
  intro p e s m args below meth c s₁ B hml hv
  obtain ⟨rfl, hB⟩ := hv
  obtain ⟨C, hw⟩ := x_start B hml hD hB
  have hl := lv_entry [.ref (xad g 272), .ref (xsK g 2)] (n := 2) (Nat.le_of_ble_eq_true rfl)
  rw [lg_entry_eq]
  exact s_X11_isName C hM hw hl h
set_option maxHeartbeats 4000000 in
set_option maxRecDepth 100000 in
theorem s_X11_nameHere_L7 {Qf : Int64 → xM → Prop} (C : x_C p s m args meth c g RX11 cX11_nameHere 4 (some .long)) (hM : xpM g) : ∀ (nn : Nat) {v1 : Int64} {v3 : Int32} {u : xM} {H : Heap} {locs : List Loc} {ls : Array Slot} (hw : x_W g s.heap H locs u) (hl : lv_has ls 4 [(0, .ref (xad g 272)), (1, .long v1), (3, .int v3)]) (h : p_X11_nameHere_L7 Qf nn v1 v3 u), W p l e (x_rm 1 21) s m args below meth c H locs 0 0 (MQ below (x_Ql g Qf) args s 0 0 (x_A g)) (F0 m 7 ls []) := by
  intro nn
  induction nn with
  | zero => intro v1 v3 u H locs ls hw hl h; exact h.elim
  | succ nn ih =>
    intro v1 v3 u H locs ls hw hl h
    unfold p_X11_nameHere_L7 at h
    have hx := C.1
    have hb := C.2.1
    refine lv_iload_n hx hb dX11_nameHere_7 rfl (lv_at hl 2 rfl) ?_
    refine lv_aload_n hx hb dX11_nameHere_8 rfl (lv_at hl 0 rfl) ?_
    refine x_geti (ci := 11) C hw 14 (xoM_272 hM) rfl inlX11 (by decide) rfl rfl xw_637 dX11_nameHere_9 ?_
    refine lv_icmp_ge (tgt := 33) hx hb dX11_nameHere_12 (by decide) (fun c1 => ?_) (fun c1 => ?_)
    · have h := h.1 c1
      refine lv_lload_n hx hb dX11_nameHere_33 rfl (lv_at hl 1 rfl) ?_
      exact x_lret C hw h dX11_nameHere_34
    · have h := h.2 c1
      refine lv_lload_n hx hb dX11_nameHere_15 rfl (lv_at hl 1 rfl) ?_
      refine lv_bipush (v := 8) hx hb dX11_nameHere_16 (by decide) ?_
      refine lv_lshl hx hb dX11_nameHere_18 rfl ?_
      refine lv_aload_n hx hb dX11_nameHere_19 rfl (lv_at hl 0 rfl) ?_
      refine lv_iload_n hx hb dX11_nameHere_20 rfl (lv_at hl 2 rfl) ?_
      refine x_calli hw (x_runV (ci := 11) C hw (m_X11_byteAt l C.2.2.2.2.2.2.2.2.1 hM h) (xoM_272 hM) rfl (x_gV xw_647 xw_648 xw_649 xw_5 xw_650) rfl rfl qX11_byteAt ⟨(Nat.le_of_ble_eq_true rfl), (Nat.le_of_ble_eq_true rfl)⟩ rfl hl.1 rfl (Nat.le_of_ble_eq_true rfl) dX11_nameHere_21) (fun r3 u2 H locs hw h => ?_)
      refine lv_i2l hx hb dX11_nameHere_24 rfl ?_
      refine lv_lor hx hb dX11_nameHere_25 ?_
      refine lv_topl (fun x4 ex4 => ?_)
      have h := h x4 ex4
      refine lv_lstore_n (lv' := [(1, .long x4), (0, .ref (xad g 272)), (3, .int v3)]) hx hb dX11_nameHere_26 rfl hl (by decide) rfl (fun ls hl => ?_)
      obtain ⟨x5, ex5⟩ : ∃ y : Int32, y = v3 + 1 := ⟨_, rfl⟩
      have h := h x5 ex5
      refine lv_iinc (v := x5) (lv' := [(3, .int x5), (1, .long x4), (0, .ref (xad g 272))]) hx hb dX11_nameHere_27 hl (k := 2) rfl (by rw [ex5]; rfl) (by decide) rfl (fun ls hl => ?_)
      refine lv_goto (tgt := 7) hx hb dX11_nameHere_30 (by decide) ?_
      exact ih hw (lv_sub hl [2, 1, 0] rfl) h
set_option maxHeartbeats 4000000 in
set_option maxRecDepth 100000 in
theorem s_X11_nameHere {Qf : Int64 → xM → Prop} (C : x_C p s m args meth c g RX11 cX11_nameHere 4 (some .long)) (hM : xpM g) {u : xM} {H : Heap} {locs : List Loc} {ls : Array Slot} (hw : x_W g s.heap H locs u) (hl : lv_has ls 4 [(0, .ref (xad g 272))]) (h : p_X11_nameHere  u Qf) : W p l e (x_rm 1 21) s m args below meth c H locs 0 0 (MQ below (x_Ql g Qf) args s 0 0 (x_A g)) (F0 m 0 ls []) := by
  unfold p_X11_nameHere at h
  have hx := C.1
  have hb := C.2.1
  refine lv_lconst (v := 0) hx hb dX11_nameHere_0 (by decide) ?_
  refine lv_lstore_n (lv' := [(1, .long 0), (0, .ref (xad g 272))]) hx hb dX11_nameHere_1 rfl hl (by decide) rfl (fun ls hl => ?_)
  refine lv_aload_n hx hb dX11_nameHere_2 rfl (lv_at hl 1 rfl) ?_
  refine x_geti (ci := 11) C hw 13 (xoM_272 hM) rfl inlX11 (by decide) rfl rfl xw_643 dX11_nameHere_3 ?_
  refine lv_topi (fun x1 ex1 => ?_)
  have h := h x1 ex1
  refine lv_istore_n (lv' := [(3, .int x1), (1, .long 0), (0, .ref (xad g 272))]) hx hb dX11_nameHere_6 rfl hl (by decide) rfl (fun ls hl => ?_)
  obtain ⟨n9, h⟩ := h
  exact s_X11_nameHere_L7 C hM n9 hw (lv_sub hl [2, 1, 0] rfl) h
set_option maxHeartbeats 4000000 in
set_option maxRecDepth 100000 in
theorem m_X11_nameHere (l : Launch) {g : xG} (hD : x_D g) (hM : xpM g) {u : xM} {Qf : Int64 → xM → Prop} (h : p_X11_nameHere  u Qf) : Met l yX11_nameHere (Cond.code yX11_nameHere cX11_nameHere 4 (some .long) :: wsL_law) (x_rm 1 21) (va_Pc [.ref (xad g 272)] (x_B g u)) (x_Ql g Qf) 0 0 (x_A g) := by
  refine Met.ofW (cc := cX11_nameHere) (maxL := 4) (ret := (some .long)) (by decide) rfl ?_
  intro p e s m args below meth c s₁ B hml hv
  obtain ⟨rfl, hB⟩ := hv
  obtain ⟨C, hw⟩ := x_start B hml hD hB
  have hl := lv_entry [.ref (xad g 272)] (n := 4) (Nat.le_of_ble_eq_true rfl)
  rw [lg_entry_eq]
  exact s_X11_nameHere C hM hw hl h
set_option maxHeartbeats 4000000 in
set_option maxRecDepth 100000 in
theorem s_X11_findHere_L2 {Qf : Int32 → xM → Prop} (C : x_C p s m args meth c g RX11 cX11_findHere 4 (some .int)) (hM : xpM g) : ∀ (nn : Nat) {v1 : Int32} {v2 : Int32} {v3 : Int32} {u : xM} {H : Heap} {locs : List Loc} {ls : Array Slot} (hw : x_W g s.heap H locs u) (hl : lv_has ls 4 [(0, .ref (xad g 272)), (1, .int v1), (2, .int v2), (3, .int v3)]) (h : p_X11_findHere_L2 Qf nn v1 v2 v3 u), W p l e (x_rm 2 44) s m args below meth c H locs 0 0 (MQ below (x_Qi g Qf) args s 0 0 (x_A g)) (F0 m 2 ls []) := by
  intro nn
  induction nn with
  | zero => intro v1 v2 v3 u H locs ls hw hl h; exact h.elim
  | succ nn ih =>
    intro v1 v2 v3 u H locs ls hw hl h
    unfold p_X11_findHere_L2 at h
    have hx := C.1
    have hb := C.2.1
    refine lv_iload_n hx hb dX11_findHere_2 rfl (lv_at hl 3 rfl) ?_
    refine lv_iload_n hx hb dX11_findHere_3 rfl (lv_at hl 2 rfl) ?_
    refine lv_icmp_ge (tgt := 31) hx hb dX11_findHere_4 (by decide) (fun c1 => ?_) (fun c1 => ?_)
    · have h := h.1 c1
      refine lv_iconst (v := -1) hx hb dX11_findHere_31 (by decide) ?_
      exact x_iret C hw h dX11_findHere_32
    · have h := h.2 c1
      refine lv_aload_n hx hb dX11_findHere_7 rfl (lv_at hl 0 rfl) ?_
      refine x_getr (ci := 11) C hw 1 (xoM_272 hM) rfl inlX11 (by decide) rfl rfl xrM_272_1 xw_220 dX11_findHere_8 ?_
      refine lv_iload_n hx hb dX11_findHere_11 rfl (lv_at hl 1 rfl) ?_
      refine lv_iload_n hx hb dX11_findHere_12 rfl (lv_at hl 3 rfl) ?_
      refine lv_iadd hx hb dX11_findHere_13 ?_
      have c2 := h.1
      have h := h.2
      refine x_lald C hw (xoM_274 hM) c2 dX11_findHere_14 ?_
      refine lv_aload_n hx hb dX11_findHere_15 rfl (lv_at hl 0 rfl) ?_
      refine x_calll hw (x_runV (ci := 11) C hw (m_X11_nameHere l C.2.2.2.2.2.2.2.2.1 hM h) (xoM_272 hM) rfl (x_gV xw_691 xw_692 xw_693 xw_5 xw_694) rfl rfl qX11_nameHere ⟨(Nat.le_of_ble_eq_true rfl), (Nat.le_of_ble_eq_true rfl)⟩ rfl hl.1 rfl (Nat.le_of_ble_eq_true rfl) dX11_findHere_16) (fun r4 u3 H locs hw h => ?_)
      refine W.lcmp hx hb dX11_findHere_19 ?_
      refine lv_if_ne (tgt := 25) hx hb dX11_findHere_20 (by decide) (fun c5 => ?_) (fun c5 => ?_)
      · have h := h.1 c5
        obtain ⟨x6, ex6⟩ : ∃ y : Int32, y = v3 + 1 := ⟨_, rfl⟩
        have h := h x6 ex6
        refine lv_iinc (v := x6) (lv' := [(3, .int x6), (0, .ref (xad g 272)), (1, .int v1), (2, .int v2)]) hx hb dX11_findHere_25 hl (k := 3) rfl (by rw [ex6]; rfl) (by decide) rfl (fun ls hl => ?_)
        refine lv_goto (tgt := 2) hx hb dX11_findHere_28 (by decide) ?_
        exact ih hw (lv_sub hl [1, 2, 3, 0] rfl) h
      · have h := h.2 c5
        refine lv_iload_n hx hb dX11_findHere_23 rfl (lv_at hl 3 rfl) ?_
        exact x_iret C hw h dX11_findHere_24
set_option maxHeartbeats 4000000 in
set_option maxRecDepth 100000 in
theorem s_X11_findHere {Qf : Int32 → xM → Prop} {a1 : Int32} {a2 : Int32} (C : x_C p s m args meth c g RX11 cX11_findHere 4 (some .int)) (hM : xpM g) {u : xM} {H : Heap} {locs : List Loc} {ls : Array Slot} (hw : x_W g s.heap H locs u) (hl : lv_has ls 4 [(0, .ref (xad g 272)), (1, .int a1), (2, .int a2)]) (h : p_X11_findHere a1 a2 u Qf) : W p l e (x_rm 2 44) s m args below meth c H locs 0 0 (MQ below (x_Qi g Qf) args s 0 0 (x_A g)) (F0 m 0 ls []) := by
  unfold p_X11_findHere at h
  have hx := C.1
  have hb := C.2.1
  refine lv_iconst (v := 0) hx hb dX11_findHere_0 (by decide) ?_
  refine lv_istore_n (lv' := [(3, .int 0), (0, .ref (xad g 272)), (1, .int a1), (2, .int a2)]) hx hb dX11_findHere_1 rfl hl (by decide) rfl (fun ls hl => ?_)
  obtain ⟨n9, h⟩ := h
  exact s_X11_findHere_L2 C hM n9 hw (lv_sub hl [1, 2, 3, 0] rfl) h
set_option maxHeartbeats 4000000 in
set_option maxRecDepth 100000 in
theorem m_X11_findHere (l : Launch) {g : xG} (hD : x_D g) (hM : xpM g) {a1 : Int32} {a2 : Int32} {u : xM} {Qf : Int32 → xM → Prop} (h : p_X11_findHere a1 a2 u Qf) : Met l yX11_findHere (Cond.code yX11_findHere cX11_findHere 4 (some .int) :: wsL_law) (x_rm 2 44) (va_Pc [.ref (xad g 272), .int a1, .int a2] (x_B g u)) (x_Qi g Qf) 0 0 (x_A g) := by
  refine Met.ofW (cc := cX11_findHere) (maxL := 4) (ret := (some .int)) (by decide) rfl ?_
  intro p e s m args below meth c s₁ B hml hv
  obtain ⟨rfl, hB⟩ := hv
  obtain ⟨C, hw⟩ := x_start B hml hD hB
  have hl := lv_entry [.ref (xad g 272), .int a1, .int a2] (n := 4) (Nat.le_of_ble_eq_true rfl)
  rw [lg_entry_eq]
  exact s_X11_findHere C hM hw hl h
set_option maxHeartbeats 4000000 in
set_option maxRecDepth 100000 in
theorem s_X11_fault {Qf : Int32 → xM → Prop} {a1 : Int32} (C : x_C p s m args meth c g RX11 cX11_fault 2 (some .int)) (hM : xpM g) {u : xM} {H : Heap} {locs : List Loc} {ls : Array Slot} (hw : x_W g s.heap H locs u) (hl : lv_has ls 2 [(0, .ref (xad g 272)), (1, .int a1)]) (h : p_X11_fault a1 u Qf) : W p l e (x_rm 0 0) s m args below meth c H locs 0 0 (MQ below (x_Qi g Qf) args s 0 0 (x_A g)) (F0 m 0 ls []) := by
  unfold p_X11_fault at h
  have hx := C.1
  have hb := C.2.1
  refine lv_iload_n hx hb dX11_fault_0 rfl (lv_at hl 1 rfl) ?_
  refine lv_if_ne (tgt := 11) hx hb dX11_fault_1 (by decide) (fun c1 => ?_) (fun c1 => ?_)
  · have h := h.1 c1
    refine lv_iload_n hx hb dX11_fault_11 rfl (lv_at hl 1 rfl) ?_
    refine lv_iconst (v := 1) hx hb dX11_fault_12 (by decide) ?_
    refine lv_icmp_ne (tgt := 23) hx hb dX11_fault_13 (by decide) (fun c2 => ?_) (fun c2 => ?_)
    · have h := h.1 c2
      refine lv_iconst (v := -1) hx hb dX11_fault_23 (by decide) ?_
      exact x_iret C hw h dX11_fault_24
    · have h := h.2 c2
      refine lv_aload_n hx hb dX11_fault_16 rfl (lv_at hl 0 rfl) ?_
      refine x_geti (ci := 11) C hw 17 (xoM_272 hM) rfl inlX11 (by decide) rfl rfl xw_228 dX11_fault_17 ?_
      refine lv_goto (tgt := 24) hx hb dX11_fault_20 (by decide) ?_
      exact x_iret C hw h dX11_fault_24
  · have h := h.2 c1
    refine lv_aload_n hx hb dX11_fault_4 rfl (lv_at hl 0 rfl) ?_
    refine x_geti (ci := 11) C hw 16 (xoM_272 hM) rfl inlX11 (by decide) rfl rfl xw_227 dX11_fault_5 ?_
    refine lv_goto (tgt := 24) hx hb dX11_fault_8 (by decide) ?_
    exact x_iret C hw h dX11_fault_24
set_option maxHeartbeats 4000000 in
set_option maxRecDepth 100000 in
theorem m_X11_fault (l : Launch) {g : xG} (hD : x_D g) (hM : xpM g) {a1 : Int32} {u : xM} {Qf : Int32 → xM → Prop} (h : p_X11_fault a1 u Qf) : Met l yX11_fault (Cond.code yX11_fault cX11_fault 2 (some .int) :: wsL_law) (x_rm 0 0) (va_Pc [.ref (xad g 272), .int a1] (x_B g u)) (x_Qi g Qf) 0 0 (x_A g) := by
  refine Met.ofW (cc := cX11_fault) (maxL := 2) (ret := (some .int)) (by decide) rfl ?_
  intro p e s m args below meth c s₁ B hml hv
  obtain ⟨rfl, hB⟩ := hv
  obtain ⟨C, hw⟩ := x_start B hml hD hB
  have hl := lv_entry [.ref (xad g 272), .int a1] (n := 2) (Nat.le_of_ble_eq_true rfl)
  rw [lg_entry_eq]
  exact s_X11_fault C hM hw hl h
set_option maxHeartbeats 4000000 in
set_option maxRecDepth 100000 in
theorem s_X11_taken {Qf : Int32 → xM → Prop} {a1 : Int32} (C : x_C p s m args meth c g RX11 cX11_taken 2 (some .int)) (hM : xpM g) {u : xM} {H : Heap} {locs : List Loc} {ls : Array Slot} (hw : x_W g s.heap H locs u) (hl : lv_has ls 2 [(0, .ref (xad g 272)), (1, .int a1)]) (h : p_X11_taken a1 u Qf) : W p l e (x_rm 1 21) s m args below meth c H locs 0 0 (MQ below (x_Qi g Qf) args s 0 0 (x_A g)) (F0 m 0 ls []) := by
  unfold p_X11_taken at h
  have hx := C.1
  have hb := C.2.1
  refine lv_aload_n hx hb dX11_taken_0 rfl (lv_at hl 0 rfl) ?_
  refine lv_aload_n hx hb dX11_taken_1 rfl (lv_at hl 0 rfl) ?_
  refine x_geti (ci := 11) C hw 18 (xoM_272 hM) rfl inlX11 (by decide) rfl rfl xw_631 dX11_taken_2 ?_
  obtain ⟨u1, eu1⟩ : ∃ q : xM, q = si u 272 16 (gi u 272 18) := ⟨_, rfl⟩
  have h := h u1 eu1
  refine x_puti (ci := 11) (ty := .int) C hw 16 (xoM_272 hM) rfl inlX11 tyX11_ok nmX11 (by decide) rfl rfl xw_227 rfl (by decide +kernel) rfl rfl dX11_taken_5 eu1 (fun H locs hw => ?_)
  refine lv_aload_n hx hb dX11_taken_8 rfl (lv_at hl 0 rfl) ?_
  refine x_geti (ci := 11) C hw 18 (xoM_272 hM) rfl inlX11 (by decide) rfl rfl xw_631 dX11_taken_9 ?_
  refine lv_if_le (tgt := 24) hx hb dX11_taken_12 (by decide) (fun c2 => ?_) (fun c2 => ?_)
  · have h := h.1 c2
    refine lv_aload_n hx hb dX11_taken_24 rfl (lv_at hl 0 rfl) ?_
    refine lv_iload_n hx hb dX11_taken_25 rfl (lv_at hl 1 rfl) ?_
    refine x_calli hw (x_runV (ci := 11) C hw (m_X11_gives l C.2.2.2.2.2.2.2.2.1 hM h) (xoM_272 hM) rfl (x_gV xw_731 xw_732 xw_733 xw_5 xw_734) rfl rfl qX11_gives ⟨(Nat.le_of_ble_eq_true rfl), (Nat.le_of_ble_eq_true rfl)⟩ rfl hl.1 rfl (Nat.le_of_ble_eq_true rfl) dX11_taken_26) (fun r4 u3 H locs hw h => ?_)
    exact x_iret C hw h dX11_taken_29
  · have h := h.2 c2
    refine lv_aload_n hx hb dX11_taken_15 rfl (lv_at hl 0 rfl) ?_
    refine lv_bipush (v := 9) hx hb dX11_taken_16 (by decide) ?_
    refine x_calli hw (x_runV (ci := 11) C hw (m_X11_refuse l C.2.2.2.2.2.2.2.2.1 hM h) (xoM_272 hM) rfl (x_gV xw_657 xw_658 xw_659 xw_5 xw_660) rfl rfl qX11_refuse ⟨(Nat.le_of_ble_eq_true rfl), (Nat.le_of_ble_eq_true rfl)⟩ rfl hl.1 rfl (Nat.le_of_ble_eq_true rfl) dX11_taken_18) (fun r6 u5 H locs hw h => ?_)
    refine lv_goto (tgt := 29) hx hb dX11_taken_21 (by decide) ?_
    exact x_iret C hw h dX11_taken_29
set_option maxHeartbeats 4000000 in
set_option maxRecDepth 100000 in
theorem m_X11_taken (l : Launch) {g : xG} (hD : x_D g) (hM : xpM g) {a1 : Int32} {u : xM} {Qf : Int32 → xM → Prop} (h : p_X11_taken a1 u Qf) : Met l yX11_taken (Cond.code yX11_taken cX11_taken 2 (some .int) :: wsL_law) (x_rm 1 21) (va_Pc [.ref (xad g 272), .int a1] (x_B g u)) (x_Qi g Qf) 0 0 (x_A g) := by
  refine Met.ofW (cc := cX11_taken) (maxL := 2) (ret := (some .int)) (by decide) rfl ?_
  intro p e s m args below meth c s₁ B hml hv
  obtain ⟨rfl, hB⟩ := hv
  obtain ⟨C, hw⟩ := x_start B hml hD hB
  have hl := lv_entry [.ref (xad g 272), .int a1] (n := 2) (Nat.le_of_ble_eq_true rfl)
  rw [lg_entry_eq]
  exact s_X11_taken C hM hw hl h
set_option maxHeartbeats 4000000 in
set_option maxRecDepth 100000 in
theorem s_X11_isThere {Qf : Bool → xM → Prop} {a1 : Int32} (C : x_C p s m args meth c g RX11 cX11_isThere 2 (some .boolean)) (hM : xpM g) {u : xM} {H : Heap} {locs : List Loc} {ls : Array Slot} (hw : x_W g s.heap H locs u) (hl : lv_has ls 2 [(0, .ref (xad g 272)), (1, .int a1)]) (h : p_X11_isThere a1 u Qf) : W p l e (x_rm 6 207) s m args below meth c H locs 0 0 (MQ below (x_Qz g Qf) args s 0 0 (x_A g)) (F0 m 0 ls []) := by
  unfold p_X11_isThere at h
  have hx := C.1
  have hb := C.2.1
  refine lv_aload_n hx hb dX11_isThere_0 rfl (lv_at hl 0 rfl) ?_
  refine va_ldcS hx hb C.2.2.2.1 C.2.2.2.2.2.2.2.2.2.2.2.2.2 dX11_isThere_1 ?_
  refine x_calli hw (x_runV (ci := 11) C hw (m_X11_inWords l C.2.2.2.2.2.2.2.2.1 hM h) (xoM_272 hM) rfl (x_gV xw_665 xw_666 xw_667 xw_5 xw_668) rfl rfl qX11_inWords ⟨(Nat.le_of_ble_eq_true rfl), (Nat.le_of_ble_eq_true rfl)⟩ rfl hl.1 rfl (Nat.le_of_ble_eq_true rfl) dX11_isThere_3) (fun r2 u1 H locs hw h => ?_)
  refine lv_iload_n hx hb dX11_isThere_6 rfl (lv_at hl 1 rfl) ?_
  refine lv_icmp_eq (tgt := 12) hx hb dX11_isThere_7 (by decide) (fun c3 => ?_) (fun c3 => ?_)
  · have h := h.1 c3
    refine lv_aload_n hx hb dX11_isThere_12 rfl (lv_at hl 0 rfl) ?_
    refine x_callv hw (x_runV (ci := 11) C hw (m_X11_ahead l C.2.2.2.2.2.2.2.2.1 hM h) (xoM_272 hM) rfl (x_gV xw_639 xw_640 xw_641 xw_5 xw_642) rfl rfl qX11_ahead ⟨(Nat.le_of_ble_eq_true rfl), (Nat.le_of_ble_eq_true rfl)⟩ rfl hl.1 rfl (Nat.le_of_ble_eq_true rfl) dX11_isThere_13) (fun u4 H locs hw h => ?_)
    refine lv_iconst (v := 1) hx hb dX11_isThere_16 (by decide) ?_
    exact x_zret true C hw h rfl dX11_isThere_17
  · have h := h.2 c3
    refine lv_iconst (v := 0) hx hb dX11_isThere_10 (by decide) ?_
    exact x_zret false C hw h rfl dX11_isThere_11
set_option maxHeartbeats 4000000 in
set_option maxRecDepth 100000 in
theorem m_X11_isThere (l : Launch) {g : xG} (hD : x_D g) (hM : xpM g) {a1 : Int32} {u : xM} {Qf : Bool → xM → Prop} (h : p_X11_isThere a1 u Qf) : Met l yX11_isThere (Cond.code yX11_isThere cX11_isThere 2 (some .boolean) :: wsL_law) (x_rm 6 207) (va_Pc [.ref (xad g 272), .int a1] (x_B g u)) (x_Qz g Qf) 0 0 (x_A g) := by
  refine Met.ofW (cc := cX11_isThere) (maxL := 2) (ret := (some .boolean)) (by decide) rfl ?_
  intro p e s m args below meth c s₁ B hml hv
  obtain ⟨rfl, hB⟩ := hv
  obtain ⟨C, hw⟩ := x_start B hml hD hB
  have hl := lv_entry [.ref (xad g 272), .int a1] (n := 2) (Nat.le_of_ble_eq_true rfl)
  rw [lg_entry_eq]
  exact s_X11_isThere C hM hw hl h
set_option maxHeartbeats 4000000 in
set_option maxRecDepth 100000 in
theorem s_X11_newOne {Qf : Bool → xM → Prop} {a1 : Int32} {a2 : Int32} {a3 : Int32} (C : x_C p s m args meth c g RX11 cX11_newOne 4 (some .boolean)) (hM : xpM g) {u : xM} {H : Heap} {locs : List Loc} {ls : Array Slot} (hw : x_W g s.heap H locs u) (hl : lv_has ls 4 [(0, .ref (xad g 272)), (1, .int a1), (2, .int a2), (3, .int a3)]) (h : p_X11_newOne a1 a2 a3 u Qf) : W p l e (x_rm 7 228) s m args below meth c H locs 0 0 (MQ below (x_Qz g Qf) args s 0 0 (x_A g)) (F0 m 0 ls []) := by
  unfold p_X11_newOne at h
  have hx := C.1
  have hb := C.2.1
  refine lv_aload_n hx hb dX11_newOne_0 rfl (lv_at hl 0 rfl) ?_
  refine x_getr (ci := 11) C hw 0 (xoM_272 hM) rfl inlX11 (by decide) rfl rfl xrM_272_0 xw_219 dX11_newOne_1 ?_
  refine lv_sipush (v := 2096) hx hb dX11_newOne_4 (by decide) ?_
  refine lv_iload_n hx hb dX11_newOne_7 rfl (lv_at hl 1 rfl) ?_
  refine lv_iadd hx hb dX11_newOne_8 ?_
  have c1 := h.1
  have h := h.2
  refine x_iald C hw (xoM_273 hM) c1 dX11_newOne_9 ?_
  refine lv_iload_n hx hb dX11_newOne_10 rfl (lv_at hl 2 rfl) ?_
  refine lv_icmp_ne (tgt := 21) hx hb dX11_newOne_11 (by decide) (fun c2 => ?_) (fun c2 => ?_)
  · have h := h.1 c2
    refine lv_aload_n hx hb dX11_newOne_21 rfl (lv_at hl 0 rfl) ?_
    refine x_callv hw (x_runV (ci := 11) C hw (m_X11_ahead l C.2.2.2.2.2.2.2.2.1 hM h) (xoM_272 hM) rfl (x_gV xw_639 xw_640 xw_641 xw_5 xw_642) rfl rfl qX11_ahead ⟨(Nat.le_of_ble_eq_true rfl), (Nat.le_of_ble_eq_true rfl)⟩ rfl hl.1 rfl (Nat.le_of_ble_eq_true rfl) dX11_newOne_22) (fun u3 H locs hw h => ?_)
    refine lv_aload_n hx hb dX11_newOne_25 rfl (lv_at hl 0 rfl) ?_
    refine va_ldcS hx hb C.2.2.2.1 C.2.2.2.2.2.2.2.2.2.2.2.2.2 dX11_newOne_26 ?_
    refine x_callz hw (x_runV (ci := 11) C hw (m_X11_isName l C.2.2.2.2.2.2.2.2.1 hM h) (xoM_272 hM) rfl (x_gV xw_683 xw_684 xw_685 xw_5 xw_686) rfl rfl qX11_isName ⟨(Nat.le_of_ble_eq_true rfl), (Nat.le_of_ble_eq_true rfl)⟩ rfl hl.1 rfl (Nat.le_of_ble_eq_true rfl) dX11_newOne_28) (fun r5 u4 H locs hw h => ?_)
    refine lv_if_ne (tgt := 40) hx hb dX11_newOne_31 (by decide) (fun c6 => ?_) (fun c6 => ?_)
    · have h := h.1 (xb_t c6)
      refine lv_aload_n hx hb dX11_newOne_40 rfl (lv_at hl 0 rfl) ?_
      refine lv_bipush (v := 84) hx hb dX11_newOne_41 (by decide) ?_
      refine lv_aload_n hx hb dX11_newOne_43 rfl (lv_at hl 0 rfl) ?_
      refine x_getr (ci := 11) C hw 0 (xoM_272 hM) rfl inlX11 (by decide) rfl rfl xrM_272_0 xw_219 dX11_newOne_44 ?_
      refine lv_sipush (v := 2096) hx hb dX11_newOne_47 (by decide) ?_
      have c7 := h.1
      have h := h.2
      refine x_iald C hw (xoM_273 hM) c7 dX11_newOne_50 ?_
      refine x_calli hw (x_runV (ci := 11) C hw (m_X11_findHere l C.2.2.2.2.2.2.2.2.1 hM h) (xoM_272 hM) rfl (x_gV xw_687 xw_688 xw_689 xw_5 xw_690) rfl rfl qX11_findHere ⟨(Nat.le_of_ble_eq_true rfl), (Nat.le_of_ble_eq_true rfl)⟩ rfl hl.1 rfl (Nat.le_of_ble_eq_true rfl) dX11_newOne_51) (fun r9 u8 H locs hw h => ?_)
      refine lv_iconst (v := -1) hx hb dX11_newOne_54 (by decide) ?_
      refine lv_icmp_ne (tgt := 94) hx hb dX11_newOne_55 (by decide) (fun c10 => ?_) (fun c10 => ?_)
      · have h := h.1 c10
        refine lv_aload_n hx hb dX11_newOne_94 rfl (lv_at hl 0 rfl) ?_
        refine lv_iconst (v := 3) hx hb dX11_newOne_95 (by decide) ?_
        refine x_callz hw (x_runV (ci := 11) C hw (m_X11_errs l C.2.2.2.2.2.2.2.2.1 hM h) (xoM_272 hM) rfl (x_gV xw_679 xw_680 xw_681 xw_5 xw_682) rfl rfl qX11_errs ⟨(Nat.le_of_ble_eq_true rfl), (Nat.le_of_ble_eq_true rfl)⟩ rfl hl.1 rfl (Nat.le_of_ble_eq_true rfl) dX11_newOne_96) (fun r12 u11 H locs hw h => ?_)
        exact x_zret _ C hw h rfl dX11_newOne_99
      · have h := h.2 c10
        refine lv_aload_n hx hb dX11_newOne_58 rfl (lv_at hl 0 rfl) ?_
        refine lv_bipush (v := 91) hx hb dX11_newOne_59 (by decide) ?_
        refine lv_aload_n hx hb dX11_newOne_61 rfl (lv_at hl 0 rfl) ?_
        refine x_getr (ci := 11) C hw 0 (xoM_272 hM) rfl inlX11 (by decide) rfl rfl xrM_272_0 xw_219 dX11_newOne_62 ?_
        refine lv_sipush (v := 2097) hx hb dX11_newOne_65 (by decide) ?_
        have c13 := h.1
        have h := h.2
        refine x_iald C hw (xoM_273 hM) c13 dX11_newOne_68 ?_
        refine x_calli hw (x_runV (ci := 11) C hw (m_X11_findHere l C.2.2.2.2.2.2.2.2.1 hM h) (xoM_272 hM) rfl (x_gV xw_687 xw_688 xw_689 xw_5 xw_690) rfl rfl qX11_findHere ⟨(Nat.le_of_ble_eq_true rfl), (Nat.le_of_ble_eq_true rfl)⟩ rfl hl.1 rfl (Nat.le_of_ble_eq_true rfl) dX11_newOne_69) (fun r15 u14 H locs hw h => ?_)
        refine lv_iconst (v := -1) hx hb dX11_newOne_72 (by decide) ?_
        refine lv_icmp_ne (tgt := 94) hx hb dX11_newOne_73 (by decide) (fun c16 => ?_) (fun c16 => ?_)
        · have h := h.1 c16
          refine lv_aload_n hx hb dX11_newOne_94 rfl (lv_at hl 0 rfl) ?_
          refine lv_iconst (v := 3) hx hb dX11_newOne_95 (by decide) ?_
          refine x_callz hw (x_runV (ci := 11) C hw (m_X11_errs l C.2.2.2.2.2.2.2.2.1 hM h) (xoM_272 hM) rfl (x_gV xw_679 xw_680 xw_681 xw_5 xw_682) rfl rfl qX11_errs ⟨(Nat.le_of_ble_eq_true rfl), (Nat.le_of_ble_eq_true rfl)⟩ rfl hl.1 rfl (Nat.le_of_ble_eq_true rfl) dX11_newOne_96) (fun r18 u17 H locs hw h => ?_)
          exact x_zret _ C hw h rfl dX11_newOne_99
        · have h := h.2 c16
          refine lv_aload_n hx hb dX11_newOne_76 rfl (lv_at hl 0 rfl) ?_
          refine lv_bipush (v := 101) hx hb dX11_newOne_77 (by decide) ?_
          refine lv_aload_n hx hb dX11_newOne_79 rfl (lv_at hl 0 rfl) ?_
          refine x_getr (ci := 11) C hw 0 (xoM_272 hM) rfl inlX11 (by decide) rfl rfl xrM_272_0 xw_219 dX11_newOne_80 ?_
          refine lv_sipush (v := 2098) hx hb dX11_newOne_83 (by decide) ?_
          have c19 := h.1
          have h := h.2
          refine x_iald C hw (xoM_273 hM) c19 dX11_newOne_86 ?_
          refine x_calli hw (x_runV (ci := 11) C hw (m_X11_findHere l C.2.2.2.2.2.2.2.2.1 hM h) (xoM_272 hM) rfl (x_gV xw_687 xw_688 xw_689 xw_5 xw_690) rfl rfl qX11_findHere ⟨(Nat.le_of_ble_eq_true rfl), (Nat.le_of_ble_eq_true rfl)⟩ rfl hl.1 rfl (Nat.le_of_ble_eq_true rfl) dX11_newOne_87) (fun r21 u20 H locs hw h => ?_)
          refine lv_iconst (v := -1) hx hb dX11_newOne_90 (by decide) ?_
          refine lv_icmp_eq (tgt := 100) hx hb dX11_newOne_91 (by decide) (fun c22 => ?_) (fun c22 => ?_)
          · have h := h.1 c22
            refine lv_aload_n hx hb dX11_newOne_100 rfl (lv_at hl 0 rfl) ?_
            refine x_getr (ci := 11) C hw 1 (xoM_272 hM) rfl inlX11 (by decide) rfl rfl xrM_272_1 xw_220 dX11_newOne_101 ?_
            refine lv_bipush (v := 84) hx hb dX11_newOne_104 (by decide) ?_
            refine lv_iload_n hx hb dX11_newOne_106 rfl (lv_at hl 3 rfl) ?_
            refine lv_iadd hx hb dX11_newOne_107 ?_
            refine lv_aload_n hx hb dX11_newOne_108 rfl (lv_at hl 0 rfl) ?_
            refine x_getr (ci := 11) C hw 0 (xoM_272 hM) rfl inlX11 (by decide) rfl rfl xrM_272_0 xw_219 dX11_newOne_109 ?_
            refine lv_sipush (v := 2096) hx hb dX11_newOne_112 (by decide) ?_
            refine lv_iload_n hx hb dX11_newOne_115 rfl (lv_at hl 1 rfl) ?_
            refine lv_iadd hx hb dX11_newOne_116 ?_
            have c23 := h.1
            have h := h.2
            refine x_iald C hw (xoM_273 hM) c23 dX11_newOne_117 ?_
            refine lv_iadd hx hb dX11_newOne_118 ?_
            refine lv_aload_n hx hb dX11_newOne_119 rfl (lv_at hl 0 rfl) ?_
            refine x_calll hw (x_runV (ci := 11) C hw (m_X11_nameHere l C.2.2.2.2.2.2.2.2.1 hM h) (xoM_272 hM) rfl (x_gV xw_691 xw_692 xw_693 xw_5 xw_694) rfl rfl qX11_nameHere ⟨(Nat.le_of_ble_eq_true rfl), (Nat.le_of_ble_eq_true rfl)⟩ rfl hl.1 rfl (Nat.le_of_ble_eq_true rfl) dX11_newOne_120) (fun r25 u24 H locs hw h => ?_)
            have c26 := h.1
            have h := h.2
            obtain ⟨u27, eu27⟩ : ∃ q : xM, q = sl u24 274 (((84 : Int32) + a3) + (gi u20 273 ((2096 : Int32) + a1).toNatClampNeg)).toNatClampNeg r25 := ⟨_, rfl⟩
            have h := h u27 eu27
            refine x_last C hw (xoM_274 hM) c26 dX11_newOne_123 eu27 (fun H locs hw => ?_)
            refine lv_aload_n hx hb dX11_newOne_124 rfl (lv_at hl 0 rfl) ?_
            refine x_callv hw (x_runV (ci := 11) C hw (m_X11_ahead l C.2.2.2.2.2.2.2.2.1 hM h) (xoM_272 hM) rfl (x_gV xw_639 xw_640 xw_641 xw_5 xw_642) rfl rfl qX11_ahead ⟨(Nat.le_of_ble_eq_true rfl), (Nat.le_of_ble_eq_true rfl)⟩ rfl hl.1 rfl (Nat.le_of_ble_eq_true rfl) dX11_newOne_125) (fun u28 H locs hw h => ?_)
            refine lv_iconst (v := 1) hx hb dX11_newOne_128 (by decide) ?_
            exact x_zret true C hw h rfl dX11_newOne_129
          · have h := h.2 c22
            refine lv_aload_n hx hb dX11_newOne_94 rfl (lv_at hl 0 rfl) ?_
            refine lv_iconst (v := 3) hx hb dX11_newOne_95 (by decide) ?_
            refine x_callz hw (x_runV (ci := 11) C hw (m_X11_errs l C.2.2.2.2.2.2.2.2.1 hM h) (xoM_272 hM) rfl (x_gV xw_679 xw_680 xw_681 xw_5 xw_682) rfl rfl qX11_errs ⟨(Nat.le_of_ble_eq_true rfl), (Nat.le_of_ble_eq_true rfl)⟩ rfl hl.1 rfl (Nat.le_of_ble_eq_true rfl) dX11_newOne_96) (fun r30 u29 H locs hw h => ?_)
            exact x_zret _ C hw h rfl dX11_newOne_99
    · have h := h.2 (xb_f c6)
      refine lv_aload_n hx hb dX11_newOne_34 rfl (lv_at hl 0 rfl) ?_
      refine lv_iconst (v := 2) hx hb dX11_newOne_35 (by decide) ?_
      refine x_callz hw (x_runV (ci := 11) C hw (m_X11_errs l C.2.2.2.2.2.2.2.2.1 hM h) (xoM_272 hM) rfl (x_gV xw_679 xw_680 xw_681 xw_5 xw_682) rfl rfl qX11_errs ⟨(Nat.le_of_ble_eq_true rfl), (Nat.le_of_ble_eq_true rfl)⟩ rfl hl.1 rfl (Nat.le_of_ble_eq_true rfl) dX11_newOne_36) (fun r32 u31 H locs hw h => ?_)
      exact x_zret _ C hw h rfl dX11_newOne_39
  · have h := h.2 c2
    refine lv_aload_n hx hb dX11_newOne_14 rfl (lv_at hl 0 rfl) ?_
    refine lv_bipush (v := 6) hx hb dX11_newOne_15 (by decide) ?_
    refine x_callz hw (x_runV (ci := 11) C hw (m_X11_errs l C.2.2.2.2.2.2.2.2.1 hM h) (xoM_272 hM) rfl (x_gV xw_679 xw_680 xw_681 xw_5 xw_682) rfl rfl qX11_errs ⟨(Nat.le_of_ble_eq_true rfl), (Nat.le_of_ble_eq_true rfl)⟩ rfl hl.1 rfl (Nat.le_of_ble_eq_true rfl) dX11_newOne_17) (fun r34 u33 H locs hw h => ?_)
    exact x_zret _ C hw h rfl dX11_newOne_20
set_option maxHeartbeats 4000000 in
set_option maxRecDepth 100000 in
theorem m_X11_newOne (l : Launch) {g : xG} (hD : x_D g) (hM : xpM g) {a1 : Int32} {a2 : Int32} {a3 : Int32} {u : xM} {Qf : Bool → xM → Prop} (h : p_X11_newOne a1 a2 a3 u Qf) : Met l yX11_newOne (Cond.code yX11_newOne cX11_newOne 4 (some .boolean) :: wsL_law) (x_rm 7 228) (va_Pc [.ref (xad g 272), .int a1, .int a2, .int a3] (x_B g u)) (x_Qz g Qf) 0 0 (x_A g) := by
  refine Met.ofW (cc := cX11_newOne) (maxL := 4) (ret := (some .boolean)) (by decide) rfl ?_
  intro p e s m args below meth c s₁ B hml hv
  obtain ⟨rfl, hB⟩ := hv
  obtain ⟨C, hw⟩ := x_start B hml hD hB
  have hl := lv_entry [.ref (xad g 272), .int a1, .int a2, .int a3] (n := 4) (Nat.le_of_ble_eq_true rfl)
  rw [lg_entry_eq]
  exact s_X11_newOne C hM hw hl h
set_option maxHeartbeats 4000000 in
set_option maxRecDepth 100000 in
theorem s_X11_oldOne {Qf : Bool → xM → Prop} {a1 : Int32} {a2 : Int32} {a3 : Int32} (C : x_C p s m args meth c g RX11 cX11_oldOne 4 (some .boolean)) (hM : xpM g) {u : xM} {H : Heap} {locs : List Loc} {ls : Array Slot} (hw : x_W g s.heap H locs u) (hl : lv_has ls 4 [(0, .ref (xad g 272)), (1, .int a1), (2, .int a2), (3, .int a3)]) (h : p_X11_oldOne a1 a2 a3 u Qf) : W p l e (x_rm 7 228) s m args below meth c H locs 0 0 (MQ below (x_Qz g Qf) args s 0 0 (x_A g)) (F0 m 0 ls []) := by
  unfold p_X11_oldOne at h
  have hx := C.1
  have hb := C.2.1
  refine lv_aload_n hx hb dX11_oldOne_0 rfl (lv_at hl 0 rfl) ?_
  refine va_ldcS hx hb C.2.2.2.1 C.2.2.2.2.2.2.2.2.2.2.2.2.2 dX11_oldOne_1 ?_
  refine x_callz hw (x_runV (ci := 11) C hw (m_X11_isName l C.2.2.2.2.2.2.2.2.1 hM h) (xoM_272 hM) rfl (x_gV xw_683 xw_684 xw_685 xw_5 xw_686) rfl rfl qX11_isName ⟨(Nat.le_of_ble_eq_true rfl), (Nat.le_of_ble_eq_true rfl)⟩ rfl hl.1 rfl (Nat.le_of_ble_eq_true rfl) dX11_oldOne_3) (fun r2 u1 H locs hw h => ?_)
  refine lv_if_ne (tgt := 15) hx hb dX11_oldOne_6 (by decide) (fun c3 => ?_) (fun c3 => ?_)
  · have h := h.1 (xb_t c3)
    refine lv_aload_n hx hb dX11_oldOne_15 rfl (lv_at hl 0 rfl) ?_
    refine x_getr (ci := 11) C hw 0 (xoM_272 hM) rfl inlX11 (by decide) rfl rfl xrM_272_0 xw_219 dX11_oldOne_16 ?_
    refine lv_iload_n hx hb dX11_oldOne_19 rfl (lv_at hl 3 rfl) ?_
    refine lv_aload_n hx hb dX11_oldOne_20 rfl (lv_at hl 0 rfl) ?_
    refine lv_iload_n hx hb dX11_oldOne_21 rfl (lv_at hl 1 rfl) ?_
    refine lv_iload_n hx hb dX11_oldOne_22 rfl (lv_at hl 2 rfl) ?_
    refine x_calli hw (x_runV (ci := 11) C hw (m_X11_findHere l C.2.2.2.2.2.2.2.2.1 hM h) (xoM_272 hM) rfl (x_gV xw_687 xw_688 xw_689 xw_5 xw_690) rfl rfl qX11_findHere ⟨(Nat.le_of_ble_eq_true rfl), (Nat.le_of_ble_eq_true rfl)⟩ rfl hl.1 rfl (Nat.le_of_ble_eq_true rfl) dX11_oldOne_23) (fun r5 u4 H locs hw h => ?_)
    have c6 := h.1
    have h := h.2
    obtain ⟨u7, eu7⟩ : ∃ q : xM, q = si u4 273 a3.toNatClampNeg r5 := ⟨_, rfl⟩
    have h := h u7 eu7
    refine x_iast C hw (xoM_273 hM) c6 dX11_oldOne_26 eu7 (fun H locs hw => ?_)
    refine lv_aload_n hx hb dX11_oldOne_27 rfl (lv_at hl 0 rfl) ?_
    refine x_getr (ci := 11) C hw 0 (xoM_272 hM) rfl inlX11 (by decide) rfl rfl xrM_272_0 xw_219 dX11_oldOne_28 ?_
    refine lv_iload_n hx hb dX11_oldOne_31 rfl (lv_at hl 3 rfl) ?_
    have c8 := h.1
    have h := h.2
    refine x_iald C hw (xoM_273 hM) c8 dX11_oldOne_32 ?_
    refine lv_iconst (v := -1) hx hb dX11_oldOne_33 (by decide) ?_
    refine lv_icmp_ne (tgt := 43) hx hb dX11_oldOne_34 (by decide) (fun c9 => ?_) (fun c9 => ?_)
    · have h := h.1 c9
      refine lv_aload_n hx hb dX11_oldOne_43 rfl (lv_at hl 0 rfl) ?_
      refine x_callv hw (x_runV (ci := 11) C hw (m_X11_ahead l C.2.2.2.2.2.2.2.2.1 hM h) (xoM_272 hM) rfl (x_gV xw_639 xw_640 xw_641 xw_5 xw_642) rfl rfl qX11_ahead ⟨(Nat.le_of_ble_eq_true rfl), (Nat.le_of_ble_eq_true rfl)⟩ rfl hl.1 rfl (Nat.le_of_ble_eq_true rfl) dX11_oldOne_44) (fun u10 H locs hw h => ?_)
      refine lv_iconst (v := 1) hx hb dX11_oldOne_47 (by decide) ?_
      exact x_zret true C hw h rfl dX11_oldOne_48
    · have h := h.2 c9
      refine lv_aload_n hx hb dX11_oldOne_37 rfl (lv_at hl 0 rfl) ?_
      refine lv_iconst (v := 3) hx hb dX11_oldOne_38 (by decide) ?_
      refine x_callz hw (x_runV (ci := 11) C hw (m_X11_errs l C.2.2.2.2.2.2.2.2.1 hM h) (xoM_272 hM) rfl (x_gV xw_679 xw_680 xw_681 xw_5 xw_682) rfl rfl qX11_errs ⟨(Nat.le_of_ble_eq_true rfl), (Nat.le_of_ble_eq_true rfl)⟩ rfl hl.1 rfl (Nat.le_of_ble_eq_true rfl) dX11_oldOne_39) (fun r12 u11 H locs hw h => ?_)
      exact x_zret _ C hw h rfl dX11_oldOne_42
  · have h := h.2 (xb_f c3)
    refine lv_aload_n hx hb dX11_oldOne_9 rfl (lv_at hl 0 rfl) ?_
    refine lv_iconst (v := 2) hx hb dX11_oldOne_10 (by decide) ?_
    refine x_callz hw (x_runV (ci := 11) C hw (m_X11_errs l C.2.2.2.2.2.2.2.2.1 hM h) (xoM_272 hM) rfl (x_gV xw_679 xw_680 xw_681 xw_5 xw_682) rfl rfl qX11_errs ⟨(Nat.le_of_ble_eq_true rfl), (Nat.le_of_ble_eq_true rfl)⟩ rfl hl.1 rfl (Nat.le_of_ble_eq_true rfl) dX11_oldOne_11) (fun r14 u13 H locs hw h => ?_)
    exact x_zret _ C hw h rfl dX11_oldOne_14
set_option maxHeartbeats 4000000 in
set_option maxRecDepth 100000 in
theorem m_X11_oldOne (l : Launch) {g : xG} (hD : x_D g) (hM : xpM g) {a1 : Int32} {a2 : Int32} {a3 : Int32} {u : xM} {Qf : Bool → xM → Prop} (h : p_X11_oldOne a1 a2 a3 u Qf) : Met l yX11_oldOne (Cond.code yX11_oldOne cX11_oldOne 4 (some .boolean) :: wsL_law) (x_rm 7 228) (va_Pc [.ref (xad g 272), .int a1, .int a2, .int a3] (x_B g u)) (x_Qz g Qf) 0 0 (x_A g) := by
  refine Met.ofW (cc := cX11_oldOne) (maxL := 4) (ret := (some .boolean)) (by decide) rfl ?_
  intro p e s m args below meth c s₁ B hml hv
  obtain ⟨rfl, hB⟩ := hv
  obtain ⟨C, hw⟩ := x_start B hml hD hB
  have hl := lv_entry [.ref (xad g 272), .int a1, .int a2, .int a3] (n := 4) (Nat.le_of_ble_eq_true rfl)
  rw [lg_entry_eq]
  exact s_X11_oldOne C hM hw hl h
set_option maxHeartbeats 4000000 in
set_option maxRecDepth 100000 in
theorem s_X11_aRoom_L139 {Qf : Bool → xM → Prop} (C : x_C p s m args meth c g RX11 cX11_aRoom 2 (some .boolean)) (hM : xpM g) {u : xM} {H : Heap} {locs : List Loc} {ls : Array Slot} (hw : x_W g s.heap H locs u) (hl : lv_has ls 2 [(0, .ref (xad g 272))]) (h : p_X11_aRoom_L139 Qf  u) : W p l e (x_rm 8 251) s m args below meth c H locs 0 0 (MQ below (x_Qz g Qf) args s 0 0 (x_A g)) (F0 m 139 ls []) := by
  unfold p_X11_aRoom_L139 at h
  have hx := C.1
  have hb := C.2.1
  refine lv_aload_n hx hb dX11_aRoom_139 rfl (lv_at hl 0 rfl) ?_
  refine x_getr (ci := 11) C hw 0 (xoM_272 hM) rfl inlX11 (by decide) rfl rfl xrM_272_0 xw_219 dX11_aRoom_140 ?_
  refine lv_sipush (v := 2096) hx hb dX11_aRoom_143 (by decide) ?_
  refine lv_dup2_11 hx hb dX11_aRoom_146 rfl rfl ?_
  have c1 := h.1
  have h := h.2
  refine x_iald C hw (xoM_273 hM) c1 dX11_aRoom_147 ?_
  refine lv_iconst (v := 1) hx hb dX11_aRoom_148 (by decide) ?_
  refine lv_iadd hx hb dX11_aRoom_149 ?_
  have c2 := h.1
  have h := h.2
  obtain ⟨u3, eu3⟩ : ∃ q : xM, q = si u 273 (2096 : Int32).toNatClampNeg ((gi u 273 (2096 : Int32).toNatClampNeg) + (1 : Int32)) := ⟨_, rfl⟩
  have h := h u3 eu3
  refine x_iast C hw (xoM_273 hM) c2 dX11_aRoom_150 eu3 (fun H locs hw => ?_)
  refine lv_iconst (v := 1) hx hb dX11_aRoom_151 (by decide) ?_
  exact x_zret true C hw h rfl dX11_aRoom_152
set_option maxHeartbeats 4000000 in
set_option maxRecDepth 100000 in
theorem s_X11_aRoom_L114 {Qf : Bool → xM → Prop} (C : x_C p s m args meth c g RX11 cX11_aRoom 2 (some .boolean)) (hM : xpM g) {v1 : Int32} {u : xM} {H : Heap} {locs : List Loc} {ls : Array Slot} (hw : x_W g s.heap H locs u) (hl : lv_has ls 2 [(0, .ref (xad g 272)), (1, .int v1)]) (h : p_X11_aRoom_L114 Qf v1 u) : W p l e (x_rm 8 251) s m args below meth c H locs 0 0 (MQ below (x_Qz g Qf) args s 0 0 (x_A g)) (F0 m 114 ls []) := by
  unfold p_X11_aRoom_L114 at h
  have hx := C.1
  have hb := C.2.1
  refine lv_aload_n hx hb dX11_aRoom_114 rfl (lv_at hl 0 rfl) ?_
  refine lv_bipush (v := 9) hx hb dX11_aRoom_115 (by decide) ?_
  refine x_callz hw (x_runV (ci := 11) C hw (m_X11_isThere l C.2.2.2.2.2.2.2.2.1 hM h) (xoM_272 hM) rfl (x_gV xw_703 xw_704 xw_705 xw_5 xw_706) rfl rfl qX11_isThere ⟨(Nat.le_of_ble_eq_true rfl), (Nat.le_of_ble_eq_true rfl)⟩ rfl hl.1 rfl (Nat.le_of_ble_eq_true rfl) dX11_aRoom_117) (fun r2 u1 H locs hw h => ?_)
  refine lv_if_eq (tgt := 139) hx hb dX11_aRoom_120 (by decide) (fun c3 => ?_) (fun c3 => ?_)
  · have h := h.1 (xb_f c3)
    exact s_X11_aRoom_L139 C hM hw (lv_sub hl [0] rfl) h
  · have h := h.2 (xb_t c3)
    refine lv_aload_n hx hb dX11_aRoom_123 rfl (lv_at hl 0 rfl) ?_
    refine lv_iload_n hx hb dX11_aRoom_124 rfl (lv_at hl 1 rfl) ?_
    refine lv_iconst (v := 4) hx hb dX11_aRoom_125 (by decide) ?_
    refine lv_iadd hx hb dX11_aRoom_126 ?_
    refine lv_iconst (v := 0) hx hb dX11_aRoom_127 (by decide) ?_
    refine lv_sipush (v := 999) hx hb dX11_aRoom_128 (by decide) ?_
    refine x_callz hw (x_runV (ci := 11) C hw (m_X11_number l C.2.2.2.2.2.2.2.2.1 hM h) (xoM_272 hM) rfl (x_gV xw_699 xw_700 xw_701 xw_5 xw_702) rfl rfl qX11_number ⟨(Nat.le_of_ble_eq_true rfl), (Nat.le_of_ble_eq_true rfl)⟩ rfl hl.1 rfl (Nat.le_of_ble_eq_true rfl) dX11_aRoom_131) (fun r5 u4 H locs hw h => ?_)
    refine lv_if_ne (tgt := 139) hx hb dX11_aRoom_134 (by decide) (fun c6 => ?_) (fun c6 => ?_)
    · have h := h.1 (xb_t c6)
      exact s_X11_aRoom_L139 C hM hw (lv_sub hl [0] rfl) h
    · have h := h.2 (xb_f c6)
      refine lv_iconst (v := 0) hx hb dX11_aRoom_137 (by decide) ?_
      exact x_zret false C hw h rfl dX11_aRoom_138
set_option maxHeartbeats 4000000 in
set_option maxRecDepth 100000 in
theorem s_X11_aRoom_L92 {Qf : Bool → xM → Prop} (C : x_C p s m args meth c g RX11 cX11_aRoom 2 (some .boolean)) (hM : xpM g) {v1 : Int32} {u : xM} {H : Heap} {locs : List Loc} {ls : Array Slot} (hw : x_W g s.heap H locs u) (hl : lv_has ls 2 [(0, .ref (xad g 272)), (1, .int v1)]) (h : p_X11_aRoom_L92 Qf v1 u) : W p l e (x_rm 8 251) s m args below meth c H locs 0 0 (MQ below (x_Qz g Qf) args s 0 0 (x_A g)) (F0 m 92 ls []) := by
  unfold p_X11_aRoom_L92 at h
  have hx := C.1
  have hb := C.2.1
  refine lv_aload_n hx hb dX11_aRoom_92 rfl (lv_at hl 0 rfl) ?_
  refine lv_bipush (v := 8) hx hb dX11_aRoom_93 (by decide) ?_
  refine x_callz hw (x_runV (ci := 11) C hw (m_X11_isThere l C.2.2.2.2.2.2.2.2.1 hM h) (xoM_272 hM) rfl (x_gV xw_703 xw_704 xw_705 xw_5 xw_706) rfl rfl qX11_isThere ⟨(Nat.le_of_ble_eq_true rfl), (Nat.le_of_ble_eq_true rfl)⟩ rfl hl.1 rfl (Nat.le_of_ble_eq_true rfl) dX11_aRoom_95) (fun r2 u1 H locs hw h => ?_)
  refine lv_if_eq (tgt := 114) hx hb dX11_aRoom_98 (by decide) (fun c3 => ?_) (fun c3 => ?_)
  · have h := h.1 (xb_f c3)
    exact s_X11_aRoom_L114 C hM hw (lv_sub hl [0, 1] rfl) h
  · have h := h.2 (xb_t c3)
    refine lv_aload_n hx hb dX11_aRoom_101 rfl (lv_at hl 0 rfl) ?_
    refine lv_iload_n hx hb dX11_aRoom_102 rfl (lv_at hl 1 rfl) ?_
    refine lv_iconst (v := 2) hx hb dX11_aRoom_103 (by decide) ?_
    refine lv_iadd hx hb dX11_aRoom_104 ?_
    refine lv_iconst (v := 1) hx hb dX11_aRoom_105 (by decide) ?_
    refine lv_bipush (v := 99) hx hb dX11_aRoom_106 (by decide) ?_
    refine x_callz hw (x_runV (ci := 11) C hw (m_X11_number l C.2.2.2.2.2.2.2.2.1 hM h) (xoM_272 hM) rfl (x_gV xw_699 xw_700 xw_701 xw_5 xw_702) rfl rfl qX11_number ⟨(Nat.le_of_ble_eq_true rfl), (Nat.le_of_ble_eq_true rfl)⟩ rfl hl.1 rfl (Nat.le_of_ble_eq_true rfl) dX11_aRoom_108) (fun r5 u4 H locs hw h => ?_)
    refine lv_if_eq (tgt := 137) hx hb dX11_aRoom_111 (by decide) (fun c6 => ?_) (fun c6 => ?_)
    · have h := h.1 (xb_f c6)
      refine lv_iconst (v := 0) hx hb dX11_aRoom_137 (by decide) ?_
      exact x_zret false C hw h rfl dX11_aRoom_138
    · have h := h.2 (xb_t c6)
      exact s_X11_aRoom_L114 C hM hw (lv_sub hl [0, 1] rfl) h
set_option maxHeartbeats 4000000 in
set_option maxRecDepth 100000 in
theorem s_X11_aRoom {Qf : Bool → xM → Prop} (C : x_C p s m args meth c g RX11 cX11_aRoom 2 (some .boolean)) (hM : xpM g) {u : xM} {H : Heap} {locs : List Loc} {ls : Array Slot} (hw : x_W g s.heap H locs u) (hl : lv_has ls 2 [(0, .ref (xad g 272))]) (h : p_X11_aRoom  u Qf) : W p l e (x_rm 8 251) s m args below meth c H locs 0 0 (MQ below (x_Qz g Qf) args s 0 0 (x_A g)) (F0 m 0 ls []) := by
  unfold p_X11_aRoom at h
  have hx := C.1
  have hb := C.2.1
  refine lv_sipush (v := 2102) hx hb dX11_aRoom_0 (by decide) ?_
  refine lv_bipush (v := 7) hx hb dX11_aRoom_3 (by decide) ?_
  refine lv_aload_n hx hb dX11_aRoom_5 rfl (lv_at hl 0 rfl) ?_
  refine x_getr (ci := 11) C hw 0 (xoM_272 hM) rfl inlX11 (by decide) rfl rfl xrM_272_0 xw_219 dX11_aRoom_6 ?_
  refine lv_sipush (v := 2096) hx hb dX11_aRoom_9 (by decide) ?_
  have c1 := h.1
  have h := h.2
  refine x_iald C hw (xoM_273 hM) c1 dX11_aRoom_12 ?_
  refine lv_imul hx hb dX11_aRoom_13 ?_
  refine lv_iadd hx hb dX11_aRoom_14 ?_
  refine lv_topi (fun x2 ex2 => ?_)
  have h := h x2 ex2
  refine lv_istore_n (lv' := [(1, .int x2), (0, .ref (xad g 272))]) hx hb dX11_aRoom_15 rfl hl (by decide) rfl (fun ls hl => ?_)
  refine lv_aload_n hx hb dX11_aRoom_16 rfl (lv_at hl 1 rfl) ?_
  refine lv_iconst (v := 0) hx hb dX11_aRoom_17 (by decide) ?_
  refine lv_bipush (v := 7) hx hb dX11_aRoom_18 (by decide) ?_
  refine lv_iconst (v := 0) hx hb dX11_aRoom_20 (by decide) ?_
  refine x_callz hw (x_runV (ci := 11) C hw (m_X11_newOne l C.2.2.2.2.2.2.2.2.1 hM h) (xoM_272 hM) rfl (x_gV xw_675 xw_676 xw_677 xw_5 xw_678) rfl rfl qX11_newOne ⟨(Nat.le_of_ble_eq_true rfl), (Nat.le_of_ble_eq_true rfl)⟩ rfl hl.1 rfl (Nat.le_of_ble_eq_true rfl) dX11_aRoom_21) (fun r4 u3 H locs hw h => ?_)
  refine lv_if_eq (tgt := 49) hx hb dX11_aRoom_24 (by decide) (fun c5 => ?_) (fun c5 => ?_)
  · have h := h.1 (xb_f c5)
    refine lv_iconst (v := 0) hx hb dX11_aRoom_49 (by decide) ?_
    exact x_zret false C hw h rfl dX11_aRoom_50
  · have h := h.2 (xb_t c5)
    refine lv_aload_n hx hb dX11_aRoom_27 rfl (lv_at hl 1 rfl) ?_
    refine va_ldcS hx hb C.2.2.2.1 C.2.2.2.2.2.2.2.2.2.2.2.2.2 dX11_aRoom_28 ?_
    refine lv_bipush (v := 6) hx hb dX11_aRoom_30 (by decide) ?_
    refine x_callz hw (x_runV (ci := 11) C hw (m_X11_wantWord l C.2.2.2.2.2.2.2.2.1 hM h) (xoM_272 hM) rfl (x_gV xw_695 xw_696 xw_697 xw_5 xw_698) rfl rfl qX11_wantWord ⟨(Nat.le_of_ble_eq_true rfl), (Nat.le_of_ble_eq_true rfl)⟩ rfl hl.1 rfl (Nat.le_of_ble_eq_true rfl) dX11_aRoom_32) (fun r7 u6 H locs hw h => ?_)
    refine lv_if_eq (tgt := 49) hx hb dX11_aRoom_35 (by decide) (fun c8 => ?_) (fun c8 => ?_)
    · have h := h.1 (xb_f c8)
      refine lv_iconst (v := 0) hx hb dX11_aRoom_49 (by decide) ?_
      exact x_zret false C hw h rfl dX11_aRoom_50
    · have h := h.2 (xb_t c8)
      refine lv_aload_n hx hb dX11_aRoom_38 rfl (lv_at hl 1 rfl) ?_
      refine lv_iload_n hx hb dX11_aRoom_39 rfl (lv_at hl 0 rfl) ?_
      refine lv_iconst (v := 0) hx hb dX11_aRoom_40 (by decide) ?_
      refine lv_bipush (v := 99) hx hb dX11_aRoom_41 (by decide) ?_
      refine x_callz hw (x_runV (ci := 11) C hw (m_X11_number l C.2.2.2.2.2.2.2.2.1 hM h) (xoM_272 hM) rfl (x_gV xw_699 xw_700 xw_701 xw_5 xw_702) rfl rfl qX11_number ⟨(Nat.le_of_ble_eq_true rfl), (Nat.le_of_ble_eq_true rfl)⟩ rfl hl.1 rfl (Nat.le_of_ble_eq_true rfl) dX11_aRoom_43) (fun r10 u9 H locs hw h => ?_)
      refine lv_if_ne (tgt := 51) hx hb dX11_aRoom_46 (by decide) (fun c11 => ?_) (fun c11 => ?_)
      · have h := h.1 (xb_t c11)
        refine lv_aload_n hx hb dX11_aRoom_51 rfl (lv_at hl 1 rfl) ?_
        refine x_getr (ci := 11) C hw 0 (xoM_272 hM) rfl inlX11 (by decide) rfl rfl xrM_272_0 xw_219 dX11_aRoom_52 ?_
        refine lv_iload_n hx hb dX11_aRoom_55 rfl (lv_at hl 0 rfl) ?_
        refine lv_iconst (v := 1) hx hb dX11_aRoom_56 (by decide) ?_
        refine lv_iadd hx hb dX11_aRoom_57 ?_
        refine lv_iconst (v := 1) hx hb dX11_aRoom_58 (by decide) ?_
        have c12 := h.1
        have h := h.2
        obtain ⟨u13, eu13⟩ : ∃ q : xM, q = si u9 273 (x2 + (1 : Int32)).toNatClampNeg (1 : Int32) := ⟨_, rfl⟩
        have h := h u13 eu13
        refine x_iast C hw (xoM_273 hM) c12 dX11_aRoom_59 eu13 (fun H locs hw => ?_)
        refine lv_aload_n hx hb dX11_aRoom_60 rfl (lv_at hl 1 rfl) ?_
        refine x_getr (ci := 11) C hw 0 (xoM_272 hM) rfl inlX11 (by decide) rfl rfl xrM_272_0 xw_219 dX11_aRoom_61 ?_
        refine lv_iload_n hx hb dX11_aRoom_64 rfl (lv_at hl 0 rfl) ?_
        refine lv_iconst (v := 2) hx hb dX11_aRoom_65 (by decide) ?_
        refine lv_iadd hx hb dX11_aRoom_66 ?_
        refine lv_bipush (v := 10) hx hb dX11_aRoom_67 (by decide) ?_
        have c14 := h.1
        have h := h.2
        obtain ⟨u15, eu15⟩ : ∃ q : xM, q = si u13 273 (x2 + (2 : Int32)).toNatClampNeg (10 : Int32) := ⟨_, rfl⟩
        have h := h u15 eu15
        refine x_iast C hw (xoM_273 hM) c14 dX11_aRoom_69 eu15 (fun H locs hw => ?_)
        refine lv_aload_n hx hb dX11_aRoom_70 rfl (lv_at hl 1 rfl) ?_
        refine lv_bipush (v := 7) hx hb dX11_aRoom_71 (by decide) ?_
        refine x_callz hw (x_runV (ci := 11) C hw (m_X11_isThere l C.2.2.2.2.2.2.2.2.1 hM h) (xoM_272 hM) rfl (x_gV xw_703 xw_704 xw_705 xw_5 xw_706) rfl rfl qX11_isThere ⟨(Nat.le_of_ble_eq_true rfl), (Nat.le_of_ble_eq_true rfl)⟩ rfl hl.1 rfl (Nat.le_of_ble_eq_true rfl) dX11_aRoom_73) (fun r17 u16 H locs hw h => ?_)
        refine lv_if_eq (tgt := 92) hx hb dX11_aRoom_76 (by decide) (fun c18 => ?_) (fun c18 => ?_)
        · have h := h.1 (xb_f c18)
          exact s_X11_aRoom_L92 C hM hw (lv_sub hl [1, 0] rfl) h
        · have h := h.2 (xb_t c18)
          refine lv_aload_n hx hb dX11_aRoom_79 rfl (lv_at hl 1 rfl) ?_
          refine lv_iload_n hx hb dX11_aRoom_80 rfl (lv_at hl 0 rfl) ?_
          refine lv_iconst (v := 1) hx hb dX11_aRoom_81 (by decide) ?_
          refine lv_iadd hx hb dX11_aRoom_82 ?_
          refine lv_iconst (v := 1) hx hb dX11_aRoom_83 (by decide) ?_
          refine lv_bipush (v := 20) hx hb dX11_aRoom_84 (by decide) ?_
          refine x_callz hw (x_runV (ci := 11) C hw (m_X11_number l C.2.2.2.2.2.2.2.2.1 hM h) (xoM_272 hM) rfl (x_gV xw_699 xw_700 xw_701 xw_5 xw_702) rfl rfl qX11_number ⟨(Nat.le_of_ble_eq_true rfl), (Nat.le_of_ble_eq_true rfl)⟩ rfl hl.1 rfl (Nat.le_of_ble_eq_true rfl) dX11_aRoom_86) (fun r20 u19 H locs hw h => ?_)
          refine lv_if_eq (tgt := 137) hx hb dX11_aRoom_89 (by decide) (fun c21 => ?_) (fun c21 => ?_)
          · have h := h.1 (xb_f c21)
            refine lv_iconst (v := 0) hx hb dX11_aRoom_137 (by decide) ?_
            exact x_zret false C hw h rfl dX11_aRoom_138
          · have h := h.2 (xb_t c21)
            exact s_X11_aRoom_L92 C hM hw (lv_sub hl [1, 0] rfl) h
      · have h := h.2 (xb_f c11)
        refine lv_iconst (v := 0) hx hb dX11_aRoom_49 (by decide) ?_
        exact x_zret false C hw h rfl dX11_aRoom_50
set_option maxHeartbeats 4000000 in
set_option maxRecDepth 100000 in
theorem m_X11_aRoom (l : Launch) {g : xG} (hD : x_D g) (hM : xpM g) {u : xM} {Qf : Bool → xM → Prop} (h : p_X11_aRoom  u Qf) : Met l yX11_aRoom (Cond.code yX11_aRoom cX11_aRoom 2 (some .boolean) :: wsL_law) (x_rm 8 251) (va_Pc [.ref (xad g 272)] (x_B g u)) (x_Qz g Qf) 0 0 (x_A g) := by
  refine Met.ofW (cc := cX11_aRoom) (maxL := 2) (ret := (some .boolean)) (by decide) rfl ?_
  intro p e s m args below meth c s₁ B hml hv
  obtain ⟨rfl, hB⟩ := hv
  obtain ⟨C, hw⟩ := x_start B hml hD hB
  have hl := lv_entry [.ref (xad g 272)] (n := 2) (Nat.le_of_ble_eq_true rfl)
  rw [lg_entry_eq]
  exact s_X11_aRoom C hM hw hl h
set_option maxHeartbeats 4000000 in
set_option maxRecDepth 100000 in
theorem s_X11_endTo {Qf : Bool → xM → Prop} {a1 : Int32} (C : x_C p s m args meth c g RX11 cX11_endTo 2 (some .boolean)) (hM : xpM g) {u : xM} {H : Heap} {locs : List Loc} {ls : Array Slot} (hw : x_W g s.heap H locs u) (hl : lv_has ls 2 [(0, .ref (xad g 272)), (1, .int a1)]) (h : p_X11_endTo a1 u Qf) : W p l e (x_rm 8 251) s m args below meth c H locs 0 0 (MQ below (x_Qz g Qf) args s 0 0 (x_A g)) (F0 m 0 ls []) := by
  unfold p_X11_endTo at h
  have hx := C.1
  have hb := C.2.1
  refine lv_aload_n hx hb dX11_endTo_0 rfl (lv_at hl 0 rfl) ?_
  refine va_ldcS hx hb C.2.2.2.1 C.2.2.2.2.2.2.2.2.2.2.2.2.2 dX11_endTo_1 ?_
  refine x_calli hw (x_runV (ci := 11) C hw (m_X11_inWords l C.2.2.2.2.2.2.2.2.1 hM h) (xoM_272 hM) rfl (x_gV xw_665 xw_666 xw_667 xw_5 xw_668) rfl rfl qX11_inWords ⟨(Nat.le_of_ble_eq_true rfl), (Nat.le_of_ble_eq_true rfl)⟩ rfl hl.1 rfl (Nat.le_of_ble_eq_true rfl) dX11_endTo_3) (fun r2 u1 H locs hw h => ?_)
  refine lv_bipush (v := 16) hx hb dX11_endTo_6 (by decide) ?_
  refine lv_icmp_eq (tgt := 27) hx hb dX11_endTo_8 (by decide) (fun c3 => ?_) (fun c3 => ?_)
  · have h := h.1 c3
    refine lv_aload_n hx hb dX11_endTo_27 rfl (lv_at hl 0 rfl) ?_
    refine x_getr (ci := 11) C hw 0 (xoM_272 hM) rfl inlX11 (by decide) rfl rfl xrM_272_0 xw_219 dX11_endTo_28 ?_
    refine lv_iload_n hx hb dX11_endTo_31 rfl (lv_at hl 1 rfl) ?_
    refine lv_iconst (v := -1) hx hb dX11_endTo_32 (by decide) ?_
    have c4 := h.1
    have h := h.2
    obtain ⟨u5, eu5⟩ : ∃ q : xM, q = si u1 273 a1.toNatClampNeg (-1 : Int32) := ⟨_, rfl⟩
    have h := h u5 eu5
    refine x_iast C hw (xoM_273 hM) c4 dX11_endTo_33 eu5 (fun H locs hw => ?_)
    refine lv_aload_n hx hb dX11_endTo_34 rfl (lv_at hl 0 rfl) ?_
    refine x_callv hw (x_runV (ci := 11) C hw (m_X11_ahead l C.2.2.2.2.2.2.2.2.1 hM h) (xoM_272 hM) rfl (x_gV xw_639 xw_640 xw_641 xw_5 xw_642) rfl rfl qX11_ahead ⟨(Nat.le_of_ble_eq_true rfl), (Nat.le_of_ble_eq_true rfl)⟩ rfl hl.1 rfl (Nat.le_of_ble_eq_true rfl) dX11_endTo_35) (fun u6 H locs hw h => ?_)
    refine lv_iconst (v := 1) hx hb dX11_endTo_38 (by decide) ?_
    exact x_zret true C hw h rfl dX11_endTo_39
  · have h := h.2 c3
    refine lv_aload_n hx hb dX11_endTo_11 rfl (lv_at hl 0 rfl) ?_
    refine lv_bipush (v := 84) hx hb dX11_endTo_12 (by decide) ?_
    refine lv_aload_n hx hb dX11_endTo_14 rfl (lv_at hl 0 rfl) ?_
    refine x_getr (ci := 11) C hw 0 (xoM_272 hM) rfl inlX11 (by decide) rfl rfl xrM_272_0 xw_219 dX11_endTo_15 ?_
    refine lv_sipush (v := 2096) hx hb dX11_endTo_18 (by decide) ?_
    have c7 := h.1
    have h := h.2
    refine x_iald C hw (xoM_273 hM) c7 dX11_endTo_21 ?_
    refine lv_iload_n hx hb dX11_endTo_22 rfl (lv_at hl 1 rfl) ?_
    refine x_callz hw (x_runV (ci := 11) C hw (m_X11_oldOne l C.2.2.2.2.2.2.2.2.1 hM h) (xoM_272 hM) rfl (x_gV xw_715 xw_716 xw_717 xw_5 xw_718) rfl rfl qX11_oldOne ⟨(Nat.le_of_ble_eq_true rfl), (Nat.le_of_ble_eq_true rfl)⟩ rfl hl.1 rfl (Nat.le_of_ble_eq_true rfl) dX11_endTo_23) (fun r9 u8 H locs hw h => ?_)
    exact x_zret _ C hw h rfl dX11_endTo_26
set_option maxHeartbeats 4000000 in
set_option maxRecDepth 100000 in
theorem m_X11_endTo (l : Launch) {g : xG} (hD : x_D g) (hM : xpM g) {a1 : Int32} {u : xM} {Qf : Bool → xM → Prop} (h : p_X11_endTo a1 u Qf) : Met l yX11_endTo (Cond.code yX11_endTo cX11_endTo 2 (some .boolean) :: wsL_law) (x_rm 8 251) (va_Pc [.ref (xad g 272), .int a1] (x_B g u)) (x_Qz g Qf) 0 0 (x_A g) := by
  refine Met.ofW (cc := cX11_endTo) (maxL := 2) (ret := (some .boolean)) (by decide) rfl ?_
  intro p e s m args below meth c s₁ B hml hv
  obtain ⟨rfl, hB⟩ := hv
  obtain ⟨C, hw⟩ := x_start B hml hD hB
  have hl := lv_entry [.ref (xad g 272), .int a1] (n := 2) (Nat.le_of_ble_eq_true rfl)
  rw [lg_entry_eq]
  exact s_X11_endTo C hM hw hl h
set_option maxHeartbeats 4000000 in
set_option maxRecDepth 100000 in
theorem s_X11_aDoor_L228 {Qf : Bool → xM → Prop} (C : x_C p s m args meth c g RX11 cX11_aDoor 3 (some .boolean)) (hM : xpM g) {u : xM} {H : Heap} {locs : List Loc} {ls : Array Slot} (hw : x_W g s.heap H locs u) (hl : lv_has ls 3 [(0, .ref (xad g 272))]) (h : p_X11_aDoor_L228 Qf  u) : W p l e (x_rm 9 272) s m args below meth c H locs 0 0 (MQ below (x_Qz g Qf) args s 0 0 (x_A g)) (F0 m 228 ls []) := by
  unfold p_X11_aDoor_L228 at h
  have hx := C.1
  have hb := C.2.1
  refine lv_aload_n hx hb dX11_aDoor_228 rfl (lv_at hl 0 rfl) ?_
  refine x_getr (ci := 11) C hw 0 (xoM_272 hM) rfl inlX11 (by decide) rfl rfl xrM_272_0 xw_219 dX11_aDoor_229 ?_
  refine lv_sipush (v := 2097) hx hb dX11_aDoor_232 (by decide) ?_
  refine lv_dup2_11 hx hb dX11_aDoor_235 rfl rfl ?_
  have c1 := h.1
  have h := h.2
  refine x_iald C hw (xoM_273 hM) c1 dX11_aDoor_236 ?_
  refine lv_iconst (v := 1) hx hb dX11_aDoor_237 (by decide) ?_
  refine lv_iadd hx hb dX11_aDoor_238 ?_
  have c2 := h.1
  have h := h.2
  obtain ⟨u3, eu3⟩ : ∃ q : xM, q = si u 273 (2097 : Int32).toNatClampNeg ((gi u 273 (2097 : Int32).toNatClampNeg) + (1 : Int32)) := ⟨_, rfl⟩
  have h := h u3 eu3
  refine x_iast C hw (xoM_273 hM) c2 dX11_aDoor_239 eu3 (fun H locs hw => ?_)
  refine lv_iconst (v := 1) hx hb dX11_aDoor_240 (by decide) ?_
  exact x_zret true C hw h rfl dX11_aDoor_241
set_option maxHeartbeats 4000000 in
set_option maxRecDepth 100000 in
theorem s_X11_aDoor_L204 {Qf : Bool → xM → Prop} (C : x_C p s m args meth c g RX11 cX11_aDoor 3 (some .boolean)) (hM : xpM g) {v1 : Int32} {u : xM} {H : Heap} {locs : List Loc} {ls : Array Slot} (hw : x_W g s.heap H locs u) (hl : lv_has ls 3 [(0, .ref (xad g 272)), (1, .int v1)]) (h : p_X11_aDoor_L204 Qf v1 u) : W p l e (x_rm 9 272) s m args below meth c H locs 0 0 (MQ below (x_Qz g Qf) args s 0 0 (x_A g)) (F0 m 204 ls []) := by
  unfold p_X11_aDoor_L204 at h
  have hx := C.1
  have hb := C.2.1
  refine lv_aload_n hx hb dX11_aDoor_204 rfl (lv_at hl 0 rfl) ?_
  refine lv_bipush (v := 14) hx hb dX11_aDoor_205 (by decide) ?_
  refine x_callz hw (x_runV (ci := 11) C hw (m_X11_isThere l C.2.2.2.2.2.2.2.2.1 hM h) (xoM_272 hM) rfl (x_gV xw_703 xw_704 xw_705 xw_5 xw_706) rfl rfl qX11_isThere ⟨(Nat.le_of_ble_eq_true rfl), (Nat.le_of_ble_eq_true rfl)⟩ rfl hl.1 rfl (Nat.le_of_ble_eq_true rfl) dX11_aDoor_207) (fun r2 u1 H locs hw h => ?_)
  refine lv_if_eq (tgt := 228) hx hb dX11_aDoor_210 (by decide) (fun c3 => ?_) (fun c3 => ?_)
  · have h := h.1 (xb_f c3)
    exact s_X11_aDoor_L228 C hM hw (lv_sub hl [0] rfl) h
  · have h := h.2 (xb_t c3)
    refine lv_aload_n hx hb dX11_aDoor_213 rfl (lv_at hl 0 rfl) ?_
    refine lv_iload_n hx hb dX11_aDoor_214 rfl (lv_at hl 1 rfl) ?_
    refine lv_iconst (v := 4) hx hb dX11_aDoor_215 (by decide) ?_
    refine lv_iadd hx hb dX11_aDoor_216 ?_
    refine lv_iconst (v := 0) hx hb dX11_aDoor_217 (by decide) ?_
    refine lv_bipush (v := 9) hx hb dX11_aDoor_218 (by decide) ?_
    refine x_callz hw (x_runV (ci := 11) C hw (m_X11_number l C.2.2.2.2.2.2.2.2.1 hM h) (xoM_272 hM) rfl (x_gV xw_699 xw_700 xw_701 xw_5 xw_702) rfl rfl qX11_number ⟨(Nat.le_of_ble_eq_true rfl), (Nat.le_of_ble_eq_true rfl)⟩ rfl hl.1 rfl (Nat.le_of_ble_eq_true rfl) dX11_aDoor_220) (fun r5 u4 H locs hw h => ?_)
    refine lv_if_ne (tgt := 228) hx hb dX11_aDoor_223 (by decide) (fun c6 => ?_) (fun c6 => ?_)
    · have h := h.1 (xb_t c6)
      exact s_X11_aDoor_L228 C hM hw (lv_sub hl [0] rfl) h
    · have h := h.2 (xb_f c6)
      refine lv_iconst (v := 0) hx hb dX11_aDoor_226 (by decide) ?_
      exact x_zret false C hw h rfl dX11_aDoor_227
set_option maxHeartbeats 4000000 in
set_option maxRecDepth 100000 in
theorem s_X11_aDoor_L126 {Qf : Bool → xM → Prop} (C : x_C p s m args meth c g RX11 cX11_aDoor 3 (some .boolean)) (hM : xpM g) {v1 : Int32} {w0 : Bool} {u : xM} {H : Heap} {locs : List Loc} {ls : Array Slot} (hw : x_W g s.heap H locs u) (hl : lv_has ls 3 [(0, .ref (xad g 272)), (1, .int v1)]) (h : p_X11_aDoor_L126 Qf v1 w0 u) : W p l e (x_rm 9 272) s m args below meth c H locs 0 0 (MQ below (x_Qz g Qf) args s 0 0 (x_A g)) (F0 m 126 ls [.int (xb w0)]) := by
  unfold p_X11_aDoor_L126 at h
  have hx := C.1
  have hb := C.2.1
  refine lv_istore_n (lv' := [(2, .int (xb w0)), (0, .ref (xad g 272)), (1, .int v1)]) hx hb dX11_aDoor_126 rfl hl (by decide) rfl (fun ls hl => ?_)
  refine lv_iload_n hx hb dX11_aDoor_127 rfl (lv_at hl 0 rfl) ?_
  refine lv_if_eq (tgt := 137) hx hb dX11_aDoor_128 (by decide) (fun c1 => ?_) (fun c1 => ?_)
  · have h := h.1 (xb_f c1)
    refine lv_aload_n hx hb dX11_aDoor_137 rfl (lv_at hl 1 rfl) ?_
    refine lv_iload_n hx hb dX11_aDoor_138 rfl (lv_at hl 2 rfl) ?_
    refine lv_iconst (v := 1) hx hb dX11_aDoor_139 (by decide) ?_
    refine lv_iadd hx hb dX11_aDoor_140 ?_
    refine x_callz hw (x_runV (ci := 11) C hw (m_X11_endTo l C.2.2.2.2.2.2.2.2.1 hM h) (xoM_272 hM) rfl (x_gV xw_711 xw_712 xw_713 xw_5 xw_714) rfl rfl qX11_endTo ⟨(Nat.le_of_ble_eq_true rfl), (Nat.le_of_ble_eq_true rfl)⟩ rfl hl.1 rfl (Nat.le_of_ble_eq_true rfl) dX11_aDoor_141) (fun r3 u2 H locs hw h => ?_)
    refine lv_if_eq (tgt := 171) hx hb dX11_aDoor_144 (by decide) (fun c4 => ?_) (fun c4 => ?_)
    · have h := h.1 (xb_f c4)
      refine lv_iconst (v := 0) hx hb dX11_aDoor_171 (by decide) ?_
      exact x_zret false C hw h rfl dX11_aDoor_172
    · have h := h.2 (xb_t c4)
      refine lv_aload_n hx hb dX11_aDoor_147 rfl (lv_at hl 1 rfl) ?_
      refine va_ldcS hx hb C.2.2.2.1 C.2.2.2.2.2.2.2.2.2.2.2.2.2 dX11_aDoor_148 ?_
      refine lv_bipush (v := 12) hx hb dX11_aDoor_150 (by decide) ?_
      refine x_callz hw (x_runV (ci := 11) C hw (m_X11_wantWord l C.2.2.2.2.2.2.2.2.1 hM h) (xoM_272 hM) rfl (x_gV xw_695 xw_696 xw_697 xw_5 xw_698) rfl rfl qX11_wantWord ⟨(Nat.le_of_ble_eq_true rfl), (Nat.le_of_ble_eq_true rfl)⟩ rfl hl.1 rfl (Nat.le_of_ble_eq_true rfl) dX11_aDoor_152) (fun r6 u5 H locs hw h => ?_)
      refine lv_if_eq (tgt := 171) hx hb dX11_aDoor_155 (by decide) (fun c7 => ?_) (fun c7 => ?_)
      · have h := h.1 (xb_f c7)
        refine lv_iconst (v := 0) hx hb dX11_aDoor_171 (by decide) ?_
        exact x_zret false C hw h rfl dX11_aDoor_172
      · have h := h.2 (xb_t c7)
        refine lv_aload_n hx hb dX11_aDoor_158 rfl (lv_at hl 1 rfl) ?_
        refine lv_iload_n hx hb dX11_aDoor_159 rfl (lv_at hl 2 rfl) ?_
        refine lv_iconst (v := 2) hx hb dX11_aDoor_160 (by decide) ?_
        refine lv_iadd hx hb dX11_aDoor_161 ?_
        refine lv_iconst (v := 0) hx hb dX11_aDoor_162 (by decide) ?_
        refine lv_bipush (v := 99) hx hb dX11_aDoor_163 (by decide) ?_
        refine x_callz hw (x_runV (ci := 11) C hw (m_X11_number l C.2.2.2.2.2.2.2.2.1 hM h) (xoM_272 hM) rfl (x_gV xw_699 xw_700 xw_701 xw_5 xw_702) rfl rfl qX11_number ⟨(Nat.le_of_ble_eq_true rfl), (Nat.le_of_ble_eq_true rfl)⟩ rfl hl.1 rfl (Nat.le_of_ble_eq_true rfl) dX11_aDoor_165) (fun r9 u8 H locs hw h => ?_)
        refine lv_if_ne (tgt := 173) hx hb dX11_aDoor_168 (by decide) (fun c10 => ?_) (fun c10 => ?_)
        · have h := h.1 (xb_t c10)
          refine lv_aload_n hx hb dX11_aDoor_173 rfl (lv_at hl 1 rfl) ?_
          refine x_getr (ci := 11) C hw 0 (xoM_272 hM) rfl inlX11 (by decide) rfl rfl xrM_272_0 xw_219 dX11_aDoor_174 ?_
          refine lv_iload_n hx hb dX11_aDoor_177 rfl (lv_at hl 2 rfl) ?_
          refine lv_iconst (v := 3) hx hb dX11_aDoor_178 (by decide) ?_
          refine lv_iadd hx hb dX11_aDoor_179 ?_
          refine lv_iconst (v := 1) hx hb dX11_aDoor_180 (by decide) ?_
          have c11 := h.1
          have h := h.2
          obtain ⟨u12, eu12⟩ : ∃ q : xM, q = si u8 273 (v1 + (3 : Int32)).toNatClampNeg (1 : Int32) := ⟨_, rfl⟩
          have h := h u12 eu12
          refine x_iast C hw (xoM_273 hM) c11 dX11_aDoor_181 eu12 (fun H locs hw => ?_)
          refine lv_aload_n hx hb dX11_aDoor_182 rfl (lv_at hl 1 rfl) ?_
          refine lv_bipush (v := 13) hx hb dX11_aDoor_183 (by decide) ?_
          refine x_callz hw (x_runV (ci := 11) C hw (m_X11_isThere l C.2.2.2.2.2.2.2.2.1 hM h) (xoM_272 hM) rfl (x_gV xw_703 xw_704 xw_705 xw_5 xw_706) rfl rfl qX11_isThere ⟨(Nat.le_of_ble_eq_true rfl), (Nat.le_of_ble_eq_true rfl)⟩ rfl hl.1 rfl (Nat.le_of_ble_eq_true rfl) dX11_aDoor_185) (fun r14 u13 H locs hw h => ?_)
          refine lv_if_eq (tgt := 204) hx hb dX11_aDoor_188 (by decide) (fun c15 => ?_) (fun c15 => ?_)
          · have h := h.1 (xb_f c15)
            exact s_X11_aDoor_L204 C hM hw (lv_sub hl [1, 2] rfl) h
          · have h := h.2 (xb_t c15)
            refine lv_aload_n hx hb dX11_aDoor_191 rfl (lv_at hl 1 rfl) ?_
            refine lv_iload_n hx hb dX11_aDoor_192 rfl (lv_at hl 2 rfl) ?_
            refine lv_iconst (v := 3) hx hb dX11_aDoor_193 (by decide) ?_
            refine lv_iadd hx hb dX11_aDoor_194 ?_
            refine lv_iconst (v := 1) hx hb dX11_aDoor_195 (by decide) ?_
            refine lv_bipush (v := 9) hx hb dX11_aDoor_196 (by decide) ?_
            refine x_callz hw (x_runV (ci := 11) C hw (m_X11_number l C.2.2.2.2.2.2.2.2.1 hM h) (xoM_272 hM) rfl (x_gV xw_699 xw_700 xw_701 xw_5 xw_702) rfl rfl qX11_number ⟨(Nat.le_of_ble_eq_true rfl), (Nat.le_of_ble_eq_true rfl)⟩ rfl hl.1 rfl (Nat.le_of_ble_eq_true rfl) dX11_aDoor_198) (fun r17 u16 H locs hw h => ?_)
            refine lv_if_eq (tgt := 226) hx hb dX11_aDoor_201 (by decide) (fun c18 => ?_) (fun c18 => ?_)
            · have h := h.1 (xb_f c18)
              refine lv_iconst (v := 0) hx hb dX11_aDoor_226 (by decide) ?_
              exact x_zret false C hw h rfl dX11_aDoor_227
            · have h := h.2 (xb_t c18)
              exact s_X11_aDoor_L204 C hM hw (lv_sub hl [1, 2] rfl) h
        · have h := h.2 (xb_f c10)
          refine lv_iconst (v := 0) hx hb dX11_aDoor_171 (by decide) ?_
          exact x_zret false C hw h rfl dX11_aDoor_172
  · have h := h.2 (xb_t c1)
    refine lv_aload_n hx hb dX11_aDoor_131 rfl (lv_at hl 1 rfl) ?_
    refine lv_iconst (v := 5) hx hb dX11_aDoor_132 (by decide) ?_
    refine x_callz hw (x_runV (ci := 11) C hw (m_X11_errs l C.2.2.2.2.2.2.2.2.1 hM h) (xoM_272 hM) rfl (x_gV xw_679 xw_680 xw_681 xw_5 xw_682) rfl rfl qX11_errs ⟨(Nat.le_of_ble_eq_true rfl), (Nat.le_of_ble_eq_true rfl)⟩ rfl hl.1 rfl (Nat.le_of_ble_eq_true rfl) dX11_aDoor_133) (fun r20 u19 H locs hw h => ?_)
    exact x_zret _ C hw h rfl dX11_aDoor_136
set_option maxHeartbeats 4000000 in
set_option maxRecDepth 100000 in
theorem s_X11_aDoor_L125 {Qf : Bool → xM → Prop} (C : x_C p s m args meth c g RX11 cX11_aDoor 3 (some .boolean)) (hM : xpM g) {v1 : Int32} {u : xM} {H : Heap} {locs : List Loc} {ls : Array Slot} (hw : x_W g s.heap H locs u) (hl : lv_has ls 3 [(0, .ref (xad g 272)), (1, .int v1)]) (h : p_X11_aDoor_L125 Qf v1 u) : W p l e (x_rm 9 272) s m args below meth c H locs 0 0 (MQ below (x_Qz g Qf) args s 0 0 (x_A g)) (F0 m 125 ls []) := by
  unfold p_X11_aDoor_L125 at h
  have hx := C.1
  have hb := C.2.1
  refine lv_iconst (v := 0) hx hb dX11_aDoor_125 (by decide) ?_
  exact s_X11_aDoor_L126 C hM hw (lv_sub hl [0, 1] rfl) h
set_option maxHeartbeats 4000000 in
set_option maxRecDepth 100000 in
theorem s_X11_aDoor {Qf : Bool → xM → Prop} (C : x_C p s m args meth c g RX11 cX11_aDoor 3 (some .boolean)) (hM : xpM g) {u : xM} {H : Heap} {locs : List Loc} {ls : Array Slot} (hw : x_W g s.heap H locs u) (hl : lv_has ls 3 [(0, .ref (xad g 272))]) (h : p_X11_aDoor  u Qf) : W p l e (x_rm 9 272) s m args below meth c H locs 0 0 (MQ below (x_Qz g Qf) args s 0 0 (x_A g)) (F0 m 0 ls []) := by
  unfold p_X11_aDoor at h
  have hx := C.1
  have hb := C.2.1
  refine lv_sipush (v := 2151) hx hb dX11_aDoor_0 (by decide) ?_
  refine lv_bipush (v := 8) hx hb dX11_aDoor_3 (by decide) ?_
  refine lv_aload_n hx hb dX11_aDoor_5 rfl (lv_at hl 0 rfl) ?_
  refine x_getr (ci := 11) C hw 0 (xoM_272 hM) rfl inlX11 (by decide) rfl rfl xrM_272_0 xw_219 dX11_aDoor_6 ?_
  refine lv_sipush (v := 2097) hx hb dX11_aDoor_9 (by decide) ?_
  have c1 := h.1
  have h := h.2
  refine x_iald C hw (xoM_273 hM) c1 dX11_aDoor_12 ?_
  refine lv_imul hx hb dX11_aDoor_13 ?_
  refine lv_iadd hx hb dX11_aDoor_14 ?_
  refine lv_topi (fun x2 ex2 => ?_)
  have h := h x2 ex2
  refine lv_istore_n (lv' := [(1, .int x2), (0, .ref (xad g 272))]) hx hb dX11_aDoor_15 rfl hl (by decide) rfl (fun ls hl => ?_)
  refine lv_aload_n hx hb dX11_aDoor_16 rfl (lv_at hl 1 rfl) ?_
  refine lv_iconst (v := 1) hx hb dX11_aDoor_17 (by decide) ?_
  refine lv_bipush (v := 10) hx hb dX11_aDoor_18 (by decide) ?_
  refine lv_bipush (v := 7) hx hb dX11_aDoor_20 (by decide) ?_
  refine x_callz hw (x_runV (ci := 11) C hw (m_X11_newOne l C.2.2.2.2.2.2.2.2.1 hM h) (xoM_272 hM) rfl (x_gV xw_675 xw_676 xw_677 xw_5 xw_678) rfl rfl qX11_newOne ⟨(Nat.le_of_ble_eq_true rfl), (Nat.le_of_ble_eq_true rfl)⟩ rfl hl.1 rfl (Nat.le_of_ble_eq_true rfl) dX11_aDoor_22) (fun r4 u3 H locs hw h => ?_)
  refine lv_if_eq (tgt := 58) hx hb dX11_aDoor_25 (by decide) (fun c5 => ?_) (fun c5 => ?_)
  · have h := h.1 (xb_f c5)
    refine lv_iconst (v := 0) hx hb dX11_aDoor_58 (by decide) ?_
    exact x_zret false C hw h rfl dX11_aDoor_59
  · have h := h.2 (xb_t c5)
    refine lv_aload_n hx hb dX11_aDoor_28 rfl (lv_at hl 1 rfl) ?_
    refine va_ldcS hx hb C.2.2.2.1 C.2.2.2.2.2.2.2.2.2.2.2.2.2 dX11_aDoor_29 ?_
    refine lv_bipush (v := 10) hx hb dX11_aDoor_31 (by decide) ?_
    refine x_callz hw (x_runV (ci := 11) C hw (m_X11_wantWord l C.2.2.2.2.2.2.2.2.1 hM h) (xoM_272 hM) rfl (x_gV xw_695 xw_696 xw_697 xw_5 xw_698) rfl rfl qX11_wantWord ⟨(Nat.le_of_ble_eq_true rfl), (Nat.le_of_ble_eq_true rfl)⟩ rfl hl.1 rfl (Nat.le_of_ble_eq_true rfl) dX11_aDoor_33) (fun r7 u6 H locs hw h => ?_)
    refine lv_if_eq (tgt := 58) hx hb dX11_aDoor_36 (by decide) (fun c8 => ?_) (fun c8 => ?_)
    · have h := h.1 (xb_f c8)
      refine lv_iconst (v := 0) hx hb dX11_aDoor_58 (by decide) ?_
      exact x_zret false C hw h rfl dX11_aDoor_59
    · have h := h.2 (xb_t c8)
      refine lv_aload_n hx hb dX11_aDoor_39 rfl (lv_at hl 1 rfl) ?_
      refine lv_iload_n hx hb dX11_aDoor_40 rfl (lv_at hl 0 rfl) ?_
      refine x_callz hw (x_runV (ci := 11) C hw (m_X11_endTo l C.2.2.2.2.2.2.2.2.1 hM h) (xoM_272 hM) rfl (x_gV xw_711 xw_712 xw_713 xw_5 xw_714) rfl rfl qX11_endTo ⟨(Nat.le_of_ble_eq_true rfl), (Nat.le_of_ble_eq_true rfl)⟩ rfl hl.1 rfl (Nat.le_of_ble_eq_true rfl) dX11_aDoor_41) (fun r10 u9 H locs hw h => ?_)
      refine lv_if_eq (tgt := 58) hx hb dX11_aDoor_44 (by decide) (fun c11 => ?_) (fun c11 => ?_)
      · have h := h.1 (xb_f c11)
        refine lv_iconst (v := 0) hx hb dX11_aDoor_58 (by decide) ?_
        exact x_zret false C hw h rfl dX11_aDoor_59
      · have h := h.2 (xb_t c11)
        refine lv_aload_n hx hb dX11_aDoor_47 rfl (lv_at hl 1 rfl) ?_
        refine va_ldcS hx hb C.2.2.2.1 C.2.2.2.2.2.2.2.2.2.2.2.2.2 dX11_aDoor_48 ?_
        refine lv_bipush (v := 11) hx hb dX11_aDoor_50 (by decide) ?_
        refine x_callz hw (x_runV (ci := 11) C hw (m_X11_wantWord l C.2.2.2.2.2.2.2.2.1 hM h) (xoM_272 hM) rfl (x_gV xw_695 xw_696 xw_697 xw_5 xw_698) rfl rfl qX11_wantWord ⟨(Nat.le_of_ble_eq_true rfl), (Nat.le_of_ble_eq_true rfl)⟩ rfl hl.1 rfl (Nat.le_of_ble_eq_true rfl) dX11_aDoor_52) (fun r13 u12 H locs hw h => ?_)
        refine lv_if_ne (tgt := 60) hx hb dX11_aDoor_55 (by decide) (fun c14 => ?_) (fun c14 => ?_)
        · have h := h.1 (xb_t c14)
          refine lv_aload_n hx hb dX11_aDoor_60 rfl (lv_at hl 1 rfl) ?_
          refine x_getr (ci := 11) C hw 0 (xoM_272 hM) rfl inlX11 (by decide) rfl rfl xrM_272_0 xw_219 dX11_aDoor_61 ?_
          refine lv_iload_n hx hb dX11_aDoor_64 rfl (lv_at hl 0 rfl) ?_
          have c15 := h.1
          have h := h.2
          refine x_iald C hw (xoM_273 hM) c15 dX11_aDoor_65 ?_
          refine lv_iconst (v := -1) hx hb dX11_aDoor_66 (by decide) ?_
          refine lv_icmp_ne (tgt := 89) hx hb dX11_aDoor_67 (by decide) (fun c16 => ?_) (fun c16 => ?_)
          · have h := h.1 c16
            refine lv_aload_n hx hb dX11_aDoor_89 rfl (lv_at hl 1 rfl) ?_
            refine va_ldcS hx hb C.2.2.2.1 C.2.2.2.2.2.2.2.2.2.2.2.2.2 dX11_aDoor_90 ?_
            refine x_callz hw (x_runV (ci := 11) C hw (m_X11_isName l C.2.2.2.2.2.2.2.2.1 hM h) (xoM_272 hM) rfl (x_gV xw_683 xw_684 xw_685 xw_5 xw_686) rfl rfl qX11_isName ⟨(Nat.le_of_ble_eq_true rfl), (Nat.le_of_ble_eq_true rfl)⟩ rfl hl.1 rfl (Nat.le_of_ble_eq_true rfl) dX11_aDoor_92) (fun r18 u17 H locs hw h => ?_)
            refine lv_if_eq (tgt := 125) hx hb dX11_aDoor_95 (by decide) (fun c19 => ?_) (fun c19 => ?_)
            · have h := h.1 (xb_f c19)
              exact s_X11_aDoor_L125 C hM hw (lv_sub hl [1, 0] rfl) h
            · have h := h.2 (xb_t c19)
              refine lv_aload_n hx hb dX11_aDoor_98 rfl (lv_at hl 1 rfl) ?_
              refine lv_bipush (v := 84) hx hb dX11_aDoor_99 (by decide) ?_
              refine lv_aload_n hx hb dX11_aDoor_101 rfl (lv_at hl 1 rfl) ?_
              refine x_getr (ci := 11) C hw 0 (xoM_272 hM) rfl inlX11 (by decide) rfl rfl xrM_272_0 xw_219 dX11_aDoor_102 ?_
              refine lv_sipush (v := 2096) hx hb dX11_aDoor_105 (by decide) ?_
              have c20 := h.1
              have h := h.2
              refine x_iald C hw (xoM_273 hM) c20 dX11_aDoor_108 ?_
              refine x_calli hw (x_runV (ci := 11) C hw (m_X11_findHere l C.2.2.2.2.2.2.2.2.1 hM h) (xoM_272 hM) rfl (x_gV xw_687 xw_688 xw_689 xw_5 xw_690) rfl rfl qX11_findHere ⟨(Nat.le_of_ble_eq_true rfl), (Nat.le_of_ble_eq_true rfl)⟩ rfl hl.1 rfl (Nat.le_of_ble_eq_true rfl) dX11_aDoor_109) (fun r22 u21 H locs hw h => ?_)
              refine lv_aload_n hx hb dX11_aDoor_112 rfl (lv_at hl 1 rfl) ?_
              refine x_getr (ci := 11) C hw 0 (xoM_272 hM) rfl inlX11 (by decide) rfl rfl xrM_272_0 xw_219 dX11_aDoor_113 ?_
              refine lv_iload_n hx hb dX11_aDoor_116 rfl (lv_at hl 0 rfl) ?_
              have c23 := h.1
              have h := h.2
              refine x_iald C hw (xoM_273 hM) c23 dX11_aDoor_117 ?_
              refine lv_icmp_ne (tgt := 125) hx hb dX11_aDoor_118 (by decide) (fun c24 => ?_) (fun c24 => ?_)
              · have h := h.1 c24
                exact s_X11_aDoor_L125 C hM hw (lv_sub hl [1, 0] rfl) h
              · have h := h.2 c24
                refine lv_iconst (v := 1) hx hb dX11_aDoor_121 (by decide) ?_
                refine lv_goto (tgt := 126) hx hb dX11_aDoor_122 (by decide) ?_
                exact s_X11_aDoor_L126 C hM hw (lv_sub hl [1, 0] rfl) h
          · have h := h.2 c16
            refine lv_aload_n hx hb dX11_aDoor_70 rfl (lv_at hl 1 rfl) ?_
            refine va_ldcS hx hb C.2.2.2.1 C.2.2.2.2.2.2.2.2.2.2.2.2.2 dX11_aDoor_71 ?_
            refine x_calli hw (x_runV (ci := 11) C hw (m_X11_inWords l C.2.2.2.2.2.2.2.2.1 hM h) (xoM_272 hM) rfl (x_gV xw_665 xw_666 xw_667 xw_5 xw_668) rfl rfl qX11_inWords ⟨(Nat.le_of_ble_eq_true rfl), (Nat.le_of_ble_eq_true rfl)⟩ rfl hl.1 rfl (Nat.le_of_ble_eq_true rfl) dX11_aDoor_73) (fun r26 u25 H locs hw h => ?_)
            refine lv_bipush (v := 16) hx hb dX11_aDoor_76 (by decide) ?_
            refine lv_icmp_ne (tgt := 85) hx hb dX11_aDoor_78 (by decide) (fun c27 => ?_) (fun c27 => ?_)
            · have h := h.1 c27
              refine lv_iconst (v := 0) hx hb dX11_aDoor_85 (by decide) ?_
              refine lv_goto (tgt := 126) hx hb dX11_aDoor_86 (by decide) ?_
              exact s_X11_aDoor_L126 C hM hw (lv_sub hl [1, 0] rfl) h
            · have h := h.2 c27
              refine lv_iconst (v := 1) hx hb dX11_aDoor_81 (by decide) ?_
              refine lv_goto (tgt := 126) hx hb dX11_aDoor_82 (by decide) ?_
              exact s_X11_aDoor_L126 C hM hw (lv_sub hl [1, 0] rfl) h
        · have h := h.2 (xb_f c14)
          refine lv_iconst (v := 0) hx hb dX11_aDoor_58 (by decide) ?_
          exact x_zret false C hw h rfl dX11_aDoor_59
set_option maxHeartbeats 4000000 in
set_option maxRecDepth 100000 in
theorem m_X11_aDoor (l : Launch) {g : xG} (hD : x_D g) (hM : xpM g) {u : xM} {Qf : Bool → xM → Prop} (h : p_X11_aDoor  u Qf) : Met l yX11_aDoor (Cond.code yX11_aDoor cX11_aDoor 3 (some .boolean) :: wsL_law) (x_rm 9 272) (va_Pc [.ref (xad g 272)] (x_B g u)) (x_Qz g Qf) 0 0 (x_A g) := by
  refine Met.ofW (cc := cX11_aDoor) (maxL := 3) (ret := (some .boolean)) (by decide) rfl ?_
  intro p e s m args below meth c s₁ B hml hv
  obtain ⟨rfl, hB⟩ := hv
  obtain ⟨C, hw⟩ := x_start B hml hD hB
  have hl := lv_entry [.ref (xad g 272)] (n := 3) (Nat.le_of_ble_eq_true rfl)
  rw [lg_entry_eq]
  exact s_X11_aDoor C hM hw hl h
end
