section
variable {p : Program} {l : Launch} {e : Env} {s : State} {m : MethodId} {args : Array Value} {below : List Frame} {meth : Method} {c : Code} {g : xG}
set_option maxHeartbeats 4000000 in
set_option maxRecDepth 100000 in
theorem s_X6_tryErrands_L60 {dd dd0 : Nat} {Rc : Int32 → Int32 → Int32 → xM → (xM → Prop) → Prop} {Qf : xM → Prop} (C : x_C p s m args meth c g RX6 cX6_tryErrands 8 none) (hX : xpX g) (hRc : ∀ {a2' a3' a4' : Int32} {u : xM} {Qf : xM → Prop}, Rc a2' a3' a4' u Qf → Met l yX6_tryErrands (Cond.code yX6_tryErrands cX6_tryErrands 8 none :: wsL_law) (x_rm (3 + dd0) (130 + 60 * dd0)) (va_Pc [.ref (xad g 5), .int a2', .int a3', .int a4'] (x_B g u)) (x_Qv g Qf) 0 0 (x_A g)) (hdd : dd = dd0 + 1) : ∀ (nn : Nat) {v1 : Int32} {v2 : Int32} {v3 : Int32} {v4 : Int32} {v5 : Int32} {v6 : Int32} {v7 : Int32} {u : xM} {H : Heap} {locs : List Loc} {ls : Array Slot} (hw : x_W g s.heap H locs u) (hl : lv_has ls 8 [(0, .ref (xad g 5)), (1, .int v1), (2, .int v2), (3, .int v3), (4, .int v4), (5, .int v5), (6, .int v6), (7, .int v7)]) (h : p_X6_tryErrands_L60 Rc Qf nn v1 v2 v3 v4 v5 v6 v7 u), W p l e (x_rm (3 + dd) (130 + 60 * dd)) s m args below meth c H locs 0 0 (MQ below (x_Qv g Qf) args s 0 0 (x_A g)) (F0 m 60 ls []) := by
  intro nn
  induction nn with
  | zero => intro v1 v2 v3 v4 v5 v6 v7 u H locs ls hw hl h; exact h.elim
  | succ nn ih =>
    intro v1 v2 v3 v4 v5 v6 v7 u H locs ls hw hl h
    unfold p_X6_tryErrands_L60 at h
    have hx := C.1
    have hb := C.2.1
    refine lv_iload hx hb dX6_tryErrands_60 (lv_at hl 7 rfl) ?_
    refine lv_iload hx hb dX6_tryErrands_62 (lv_at hl 5 rfl) ?_
    refine lv_icmp_gt (tgt := 147) hx hb dX6_tryErrands_64 (by decide) (fun c1 => ?_) (fun c1 => ?_)
    · have h := h.1 c1
      refine lv_aload_n hx hb dX6_tryErrands_147 rfl (lv_at hl 0 rfl) ?_
      refine x_getr (ci := 6) C hw 0 (xoX_5 hX) rfl inlX6 (by decide) rfl rfl xrX_5_0 xw_111 dX6_tryErrands_148 ?_
      refine x_getr (ci := 1) C hw 1 (xoL_0 (xpL_137 hX)) rfl inlX1 (by decide) rfl rfl (xrL_0_1 (xpL_137 hX)) xw_1584 dX6_tryErrands_151 ?_
      refine x_getr (ci := 0) C hw 9 (xoL_9 (xpL_137 hX)) rfl inlX0 (by decide) rfl rfl (xrL_9_9 (xpL_137 hX)) xw_1594 dX6_tryErrands_154 ?_
      refine lv_iload hx hb dX6_tryErrands_157 (lv_at hl 4 rfl) ?_
      refine lv_iconst (v := 0) hx hb dX6_tryErrands_159 (by decide) ?_
      have c2 := h.1
      have h := h.2
      obtain ⟨u3, eu3⟩ : ∃ q : xM, q = si u 153 v4.toNatClampNeg (0 : Int32) := ⟨_, rfl⟩
      have h := h u3 eu3
      refine x_iast C hw (xoL_16 (xpL_137 hX)) c2 dX6_tryErrands_160 eu3 (fun H locs hw => ?_)
      exact x_vret C hw h dX6_tryErrands_161
    · have h := h.2 c1
      refine lv_iload hx hb dX6_tryErrands_67 (lv_at hl 7 rfl) ?_
      refine lv_iload hx hb dX6_tryErrands_69 (lv_at hl 5 rfl) ?_
      refine lv_iconst (v := -1) hx hb dX6_tryErrands_71 (by decide) ?_
      refine lv_ixor hx hb dX6_tryErrands_72 ?_
      refine lv_iand hx hb dX6_tryErrands_73 ?_
      refine lv_if_ne (tgt := 141) hx hb dX6_tryErrands_74 (by decide) (fun c4 => ?_) (fun c4 => ?_)
      · have h := h.1 c4
        obtain ⟨x5, ex5⟩ : ∃ y : Int32, y = v7 + 1 := ⟨_, rfl⟩
        have h := h x5 ex5
        refine lv_iinc (v := x5) (lv' := [(7, .int x5), (0, .ref (xad g 5)), (1, .int v1), (2, .int v2), (3, .int v3), (4, .int v4), (5, .int v5), (6, .int v6)]) hx hb dX6_tryErrands_141 hl (k := 7) rfl (by rw [ex5]; rfl) (by decide) rfl (fun ls hl => ?_)
        refine lv_goto (tgt := 60) hx hb dX6_tryErrands_144 (by decide) ?_
        exact ih hw (lv_sub hl [1, 2, 3, 4, 5, 6, 7, 0] rfl) h
      · have h := h.2 c4
        refine lv_iload hx hb dX6_tryErrands_77 (lv_at hl 6 rfl) ?_
        refine lv_iload hx hb dX6_tryErrands_79 (lv_at hl 7 rfl) ?_
        refine lv_iconst (v := -1) hx hb dX6_tryErrands_81 (by decide) ?_
        refine lv_ixor hx hb dX6_tryErrands_82 ?_
        refine lv_iand hx hb dX6_tryErrands_83 ?_
        refine lv_if_ne (tgt := 141) hx hb dX6_tryErrands_84 (by decide) (fun c6 => ?_) (fun c6 => ?_)
        · have h := h.1 c6
          obtain ⟨x7, ex7⟩ : ∃ y : Int32, y = v7 + 1 := ⟨_, rfl⟩
          have h := h x7 ex7
          refine lv_iinc (v := x7) (lv' := [(7, .int x7), (0, .ref (xad g 5)), (1, .int v1), (2, .int v2), (3, .int v3), (4, .int v4), (5, .int v5), (6, .int v6)]) hx hb dX6_tryErrands_141 hl (k := 7) rfl (by rw [ex7]; rfl) (by decide) rfl (fun ls hl => ?_)
          refine lv_goto (tgt := 60) hx hb dX6_tryErrands_144 (by decide) ?_
          exact ih hw (lv_sub hl [1, 2, 3, 4, 5, 6, 7, 0] rfl) h
        · have h := h.2 c6
          refine lv_aload_n hx hb dX6_tryErrands_87 rfl (lv_at hl 0 rfl) ?_
          refine x_getr (ci := 6) C hw 0 (xoX_5 hX) rfl inlX6 (by decide) rfl rfl xrX_5_0 xw_111 dX6_tryErrands_88 ?_
          refine x_getr (ci := 1) C hw 1 (xoL_0 (xpL_137 hX)) rfl inlX1 (by decide) rfl rfl (xrL_0_1 (xpL_137 hX)) xw_1584 dX6_tryErrands_91 ?_
          refine x_getr (ci := 0) C hw 9 (xoL_9 (xpL_137 hX)) rfl inlX0 (by decide) rfl rfl (xrL_9_9 (xpL_137 hX)) xw_1594 dX6_tryErrands_94 ?_
          refine lv_iload hx hb dX6_tryErrands_97 (lv_at hl 4 rfl) ?_
          refine lv_aload_n hx hb dX6_tryErrands_99 rfl (lv_at hl 0 rfl) ?_
          refine lv_iload hx hb dX6_tryErrands_100 (lv_at hl 7 rfl) ?_
          refine x_calli hw (x_runV (ci := 6) C hw (m_X6_doorsOf l C.2.2.2.2.2.2.2.2.1 hX h) (xoX_5 hX) rfl (x_gV xw_1619 xw_1620 xw_1621 xw_24 xw_1622) rfl rfl qX6_doorsOf ⟨by simp only [x_rm]; omega, by simp only [x_rm]; omega⟩ rfl hl.1 rfl (Nat.le_of_ble_eq_true rfl) dX6_tryErrands_102) (fun r9 u8 H locs hw h => ?_)
          have c10 := h.1
          have h := h.2
          obtain ⟨u11, eu11⟩ : ∃ q : xM, q = si u8 153 v4.toNatClampNeg r9 := ⟨_, rfl⟩
          have h := h u11 eu11
          refine x_iast C hw (xoL_16 (xpL_137 hX)) c10 dX6_tryErrands_105 eu11 (fun H locs hw => ?_)
          refine lv_aload_n hx hb dX6_tryErrands_106 rfl (lv_at hl 0 rfl) ?_
          refine x_getr (ci := 6) C hw 0 (xoX_5 hX) rfl inlX6 (by decide) rfl rfl xrX_5_0 xw_111 dX6_tryErrands_107 ?_
          refine x_callv hw (x_runV (ci := 1) C hw (m_X1_goOneHour l C.2.2.2.2.2.2.2.2.1 (xpL_137 hX) h) (xoL_0 (xpL_137 hX)) rfl (x_gV xw_1624 xw_1165 xw_1166 xw_15 xw_1167) rfl rfl qX1_goOneHour ⟨by simp only [x_rm]; omega, by simp only [x_rm]; omega⟩ rfl hl.1 rfl (Nat.le_of_ble_eq_true rfl) dX6_tryErrands_110) (fun u12 H locs hw h => ?_)
          refine lv_aload_n hx hb dX6_tryErrands_113 rfl (lv_at hl 0 rfl) ?_
          refine lv_iload_n hx hb dX6_tryErrands_114 rfl (lv_at hl 1 rfl) ?_
          refine lv_iconst (v := 1) hx hb dX6_tryErrands_115 (by decide) ?_
          refine lv_iadd hx hb dX6_tryErrands_116 ?_
          refine lv_iload_n hx hb dX6_tryErrands_117 rfl (lv_at hl 2 rfl) ?_
          refine lv_iload hx hb dX6_tryErrands_118 (lv_at hl 7 rfl) ?_
          refine lv_iconst (v := -1) hx hb dX6_tryErrands_120 (by decide) ?_
          refine lv_ixor hx hb dX6_tryErrands_121 ?_
          refine lv_iand hx hb dX6_tryErrands_122 ?_
          refine lv_iload_n hx hb dX6_tryErrands_123 rfl (lv_at hl 3 rfl) ?_
          refine lv_aload_n hx hb dX6_tryErrands_124 rfl (lv_at hl 0 rfl) ?_
          refine lv_iload hx hb dX6_tryErrands_125 (lv_at hl 7 rfl) ?_
          refine lv_iload hx hb dX6_tryErrands_127 (lv_at hl 4 rfl) ?_
          refine x_calli hw (x_runV (ci := 6) C hw (m_X6_hoursOf l C.2.2.2.2.2.2.2.2.1 hX h) (xoX_5 hX) rfl (x_gV xw_1625 xw_1626 xw_1627 xw_24 xw_1628) rfl rfl qX6_hoursOf ⟨by simp only [x_rm]; omega, by simp only [x_rm]; omega⟩ rfl hl.1 rfl (Nat.le_of_ble_eq_true rfl) dX6_tryErrands_129) (fun r14 u13 H locs hw h => ?_)
          refine lv_ior hx hb dX6_tryErrands_132 ?_
          refine x_callv hw (x_runS C hw (hRc h) (x_gS xw_1591 xw_1592 xw_24 xw_1593) rfl rfl qX6_tryErrands ⟨by simp only [x_rm]; omega, by simp only [x_rm]; omega⟩ rfl hl.1 rfl (Nat.le_of_ble_eq_true rfl) dX6_tryErrands_133) (fun u15 H locs hw h => ?_)
          refine lv_aload_n hx hb dX6_tryErrands_136 rfl (lv_at hl 0 rfl) ?_
          refine lv_iload_n hx hb dX6_tryErrands_137 rfl (lv_at hl 1 rfl) ?_
          refine x_callv hw (x_runV (ci := 6) C hw (m_X6_takeWaterBack l C.2.2.2.2.2.2.2.2.1 hX h) (xoX_5 hX) rfl (x_gV xw_1632 xw_1633 xw_1634 xw_24 xw_1635) rfl rfl qX6_takeWaterBack ⟨by simp only [x_rm]; omega, by simp only [x_rm]; omega⟩ rfl hl.1 rfl (Nat.le_of_ble_eq_true rfl) dX6_tryErrands_138) (fun u16 H locs hw h => ?_)
          obtain ⟨x17, ex17⟩ : ∃ y : Int32, y = v7 + 1 := ⟨_, rfl⟩
          have h := h x17 ex17
          refine lv_iinc (v := x17) (lv' := [(7, .int x17), (0, .ref (xad g 5)), (1, .int v1), (2, .int v2), (3, .int v3), (4, .int v4), (5, .int v5), (6, .int v6)]) hx hb dX6_tryErrands_141 hl (k := 7) rfl (by rw [ex17]; rfl) (by decide) rfl (fun ls hl => ?_)
          refine lv_goto (tgt := 60) hx hb dX6_tryErrands_144 (by decide) ?_
          exact ih hw (lv_sub hl [1, 2, 3, 4, 5, 6, 7, 0] rfl) h
set_option maxHeartbeats 4000000 in
set_option maxRecDepth 100000 in
theorem s_X6_tryErrands {dd dd0 : Nat} {Rc : Int32 → Int32 → Int32 → xM → (xM → Prop) → Prop} {Qf : xM → Prop} {a2 : Int32} {a3 : Int32} {a4 : Int32} (C : x_C p s m args meth c g RX6 cX6_tryErrands 8 none) (hX : xpX g) (hRc : ∀ {a2' a3' a4' : Int32} {u : xM} {Qf : xM → Prop}, Rc a2' a3' a4' u Qf → Met l yX6_tryErrands (Cond.code yX6_tryErrands cX6_tryErrands 8 none :: wsL_law) (x_rm (3 + dd0) (130 + 60 * dd0)) (va_Pc [.ref (xad g 5), .int a2', .int a3', .int a4'] (x_B g u)) (x_Qv g Qf) 0 0 (x_A g)) (hdd : dd = dd0 + 1) {u : xM} {H : Heap} {locs : List Loc} {ls : Array Slot} (hw : x_W g s.heap H locs u) (hl : lv_has ls 8 [(0, .ref (xad g 5)), (1, .int a2), (2, .int a3), (3, .int a4)]) (h : p_X6_tryErrands_B Rc a2 a3 a4 u Qf) : W p l e (x_rm (3 + dd) (130 + 60 * dd)) s m args below meth c H locs 0 0 (MQ below (x_Qv g Qf) args s 0 0 (x_A g)) (F0 m 0 ls []) := by
  unfold p_X6_tryErrands_B at h
  have hx := C.1
  have hb := C.2.1
  refine lv_iload_n hx hb dX6_tryErrands_0 rfl (lv_at hl 1 rfl) ?_
  refine lv_bipush (v := 12) hx hb dX6_tryErrands_1 (by decide) ?_
  refine lv_icmp_lt (tgt := 16) hx hb dX6_tryErrands_3 (by decide) (fun c1 => ?_) (fun c1 => ?_)
  · have h := h.1 c1
    refine lv_aload_n hx hb dX6_tryErrands_16 rfl (lv_at hl 0 rfl) ?_
    refine lv_iload_n hx hb dX6_tryErrands_17 rfl (lv_at hl 1 rfl) ?_
    refine x_callv hw (x_runV (ci := 6) C hw (m_X6_keepWater l C.2.2.2.2.2.2.2.2.1 hX h) (xoX_5 hX) rfl (x_gV xw_1602 xw_1603 xw_1604 xw_24 xw_1605) rfl rfl qX6_keepWater ⟨by simp only [x_rm]; omega, by simp only [x_rm]; omega⟩ rfl hl.1 rfl (Nat.le_of_ble_eq_true rfl) dX6_tryErrands_18) (fun u2 H locs hw h => ?_)
    refine lv_aload_n hx hb dX6_tryErrands_21 rfl (lv_at hl 0 rfl) ?_
    refine x_getr (ci := 6) C hw 0 (xoX_5 hX) rfl inlX6 (by decide) rfl rfl xrX_5_0 xw_111 dX6_tryErrands_22 ?_
    refine x_calli hw (x_runV (ci := 1) C hw (m_X1_hourOfDay l C.2.2.2.2.2.2.2.2.1 (xpL_137 hX) h) (xoL_0 (xpL_137 hX)) rfl (x_gV xw_1608 xw_1180 xw_1181 xw_15 xw_1182) rfl rfl qX1_hourOfDay ⟨by simp only [x_rm]; omega, by simp only [x_rm]; omega⟩ rfl hl.1 rfl (Nat.le_of_ble_eq_true rfl) dX6_tryErrands_25) (fun r4 u3 H locs hw h => ?_)
    refine lv_istore (lv' := [(4, .int r4), (0, .ref (xad g 5)), (1, .int a2), (2, .int a3), (3, .int a4)]) hx hb dX6_tryErrands_28 hl (by decide) rfl (fun ls hl => ?_)
    refine lv_aload_n hx hb dX6_tryErrands_30 rfl (lv_at hl 1 rfl) ?_
    refine lv_iload_n hx hb dX6_tryErrands_31 rfl (lv_at hl 3 rfl) ?_
    refine lv_iload hx hb dX6_tryErrands_32 (lv_at hl 0 rfl) ?_
    refine x_calli hw (x_runV (ci := 6) C hw (m_X6_errandsAt l C.2.2.2.2.2.2.2.2.1 hX h) (xoX_5 hX) rfl (x_gV xw_1609 xw_1610 xw_1611 xw_24 xw_1612) rfl rfl qX6_errandsAt ⟨by simp only [x_rm]; omega, by simp only [x_rm]; omega⟩ rfl hl.1 rfl (Nat.le_of_ble_eq_true rfl) dX6_tryErrands_34) (fun r6 u5 H locs hw h => ?_)
    refine lv_istore (lv' := [(5, .int r6), (4, .int r4), (0, .ref (xad g 5)), (1, .int a2), (2, .int a3), (3, .int a4)]) hx hb dX6_tryErrands_37 hl (by decide) rfl (fun ls hl => ?_)
    refine lv_iload_n hx hb dX6_tryErrands_39 rfl (lv_at hl 4 rfl) ?_
    refine lv_aload_n hx hb dX6_tryErrands_40 rfl (lv_at hl 2 rfl) ?_
    refine lv_iload_n hx hb dX6_tryErrands_41 rfl (lv_at hl 4 rfl) ?_
    refine lv_iload_n hx hb dX6_tryErrands_42 rfl (lv_at hl 3 rfl) ?_
    refine lv_iconst (v := 1) hx hb dX6_tryErrands_43 (by decide) ?_
    refine lv_iadd hx hb dX6_tryErrands_44 ?_
    refine lv_iload hx hb dX6_tryErrands_45 (lv_at hl 1 rfl) ?_
    refine lv_iconst (v := 1) hx hb dX6_tryErrands_47 (by decide) ?_
    refine lv_iadd hx hb dX6_tryErrands_48 ?_
    refine x_calli hw (x_runV (ci := 6) C hw (m_X6_errandsLater l C.2.2.2.2.2.2.2.2.1 hX h) (xoX_5 hX) rfl (x_gV xw_1615 xw_1616 xw_1617 xw_24 xw_1618) rfl rfl qX6_errandsLater ⟨by simp only [x_rm]; omega, by simp only [x_rm]; omega⟩ rfl hl.1 rfl (Nat.le_of_ble_eq_true rfl) dX6_tryErrands_49) (fun r8 u7 H locs hw h => ?_)
    refine lv_iconst (v := -1) hx hb dX6_tryErrands_52 (by decide) ?_
    refine lv_ixor hx hb dX6_tryErrands_53 ?_
    refine lv_iand hx hb dX6_tryErrands_54 ?_
    refine lv_topi (fun x9 ex9 => ?_)
    have h := h x9 ex9
    refine lv_istore (lv' := [(6, .int x9), (5, .int r6), (4, .int r4), (0, .ref (xad g 5)), (1, .int a2), (2, .int a3), (3, .int a4)]) hx hb dX6_tryErrands_55 hl (by decide) rfl (fun ls hl => ?_)
    refine lv_iconst (v := 0) hx hb dX6_tryErrands_57 (by decide) ?_
    refine lv_istore (lv' := [(7, .int 0), (6, .int x9), (5, .int r6), (4, .int r4), (0, .ref (xad g 5)), (1, .int a2), (2, .int a3), (3, .int a4)]) hx hb dX6_tryErrands_58 hl (by decide) rfl (fun ls hl => ?_)
    obtain ⟨n9, h⟩ := h
    exact s_X6_tryErrands_L60 C hX hRc hdd n9 hw (lv_sub hl [4, 5, 6, 7, 3, 2, 1, 0] rfl) h
  · have h := h.2 c1
    refine lv_iload_n hx hb dX6_tryErrands_6 rfl (lv_at hl 2 rfl) ?_
    refine lv_if_ne (tgt := 15) hx hb dX6_tryErrands_7 (by decide) (fun c10 => ?_) (fun c10 => ?_)
    · have h := h.1 c10
      exact x_vret C hw h dX6_tryErrands_15
    · have h := h.2 c10
      refine lv_aload_n hx hb dX6_tryErrands_10 rfl (lv_at hl 0 rfl) ?_
      refine lv_iload_n hx hb dX6_tryErrands_11 rfl (lv_at hl 3 rfl) ?_
      refine x_callv hw (x_runV (ci := 6) C hw (m_X6_weighPlan l C.2.2.2.2.2.2.2.2.1 hX h) (xoX_5 hX) rfl (x_gV xw_1595 xw_1596 xw_1597 xw_24 xw_1598) rfl rfl qX6_weighPlan ⟨by simp only [x_rm]; omega, by simp only [x_rm]; omega⟩ rfl hl.1 rfl (Nat.le_of_ble_eq_true rfl) dX6_tryErrands_12) (fun u11 H locs hw h => ?_)
      exact x_vret C hw h dX6_tryErrands_15
set_option maxHeartbeats 4000000 in
set_option maxRecDepth 100000 in
theorem m_X6_tryErrands (l : Launch) {g : xG} (hD : x_D g) (hX : xpX g) : ∀ (dd : Nat) {a2 : Int32} {a3 : Int32} {a4 : Int32} {u : xM} {Qf : xM → Prop} (h : p_X6_tryErrands dd a2 a3 a4 u Qf), Met l yX6_tryErrands (Cond.code yX6_tryErrands cX6_tryErrands 8 none :: wsL_law) (x_rm (3 + dd) (130 + 60 * dd)) (va_Pc [.ref (xad g 5), .int a2, .int a3, .int a4] (x_B g u)) (x_Qv g Qf) 0 0 (x_A g) := by
  intro dd
  induction dd with
  | zero => intro a2 a3 a4 u Qf h; exact h.elim
  | succ dd ih =>
  intro a2 a3 a4 u Qf h
  refine Met.ofW (cc := cX6_tryErrands) (maxL := 8) (ret := none) (by decide) rfl ?_
  intro p e s m args below meth c s₁ B hml hv
  obtain ⟨rfl, hB⟩ := hv
  obtain ⟨C, hw⟩ := x_start B hml hD hB
  have hl := lv_entry [.ref (xad g 5), .int a2, .int a3, .int a4] (n := 8) (Nat.le_of_ble_eq_true rfl)
  rw [lg_entry_eq]
  exact s_X6_tryErrands C hX (fun h => ih h) rfl hw hl h
set_option maxHeartbeats 4000000 in
set_option maxRecDepth 100000 in
theorem s_X6_planErrands {o1 : Nat} {Qf : xM → Prop} (C : x_C p s m args meth c g RX6 cX6_planErrands 2 none) (hX : xpX g) (ho1 : xpL g o1) {u : xM} {H : Heap} {locs : List Loc} {ls : Array Slot} (hw : x_W g s.heap H locs u) (hl : lv_has ls 2 [(0, .ref (xad g 5)), (1, .ref (xad g o1))]) (h : p_X6_planErrands o1 u Qf) : W p l e (x_rm 17 937) s m args below meth c H locs 0 0 (MQ below (x_Qv g Qf) args s 0 0 (x_A g)) (F0 m 0 ls []) := by
  unfold p_X6_planErrands at h
  have hx := C.1
  have hb := C.2.1
  refine lv_aload_n hx hb dX6_planErrands_0 rfl (lv_at hl 0 rfl) ?_
  refine x_getr (ci := 6) C hw 0 (xoX_5 hX) rfl inlX6 (by decide) rfl rfl xrX_5_0 xw_111 dX6_planErrands_1 ?_
  refine lv_aload_n hx hb dX6_planErrands_4 rfl (lv_at hl 1 rfl) ?_
  refine x_callv hw (x_runV (ci := 1) C hw (m_X1_copyFrom l C.2.2.2.2.2.2.2.2.1 (xpL_137 hX) ho1 h) (xoL_0 (xpL_137 hX)) rfl (x_gV xw_1589 xw_601 xw_602 xw_15 xw_603) rfl rfl qX1_copyFrom ⟨(Nat.le_of_ble_eq_true rfl), (Nat.le_of_ble_eq_true rfl)⟩ rfl hl.1 rfl (Nat.le_of_ble_eq_true rfl) dX6_planErrands_5) (fun u1 H locs hw h => ?_)
  refine lv_aload_n hx hb dX6_planErrands_8 rfl (lv_at hl 0 rfl) ?_
  refine x_getr (ci := 6) C hw 0 (xoX_5 hX) rfl inlX6 (by decide) rfl rfl xrX_5_0 xw_111 dX6_planErrands_9 ?_
  refine x_getr (ci := 1) C hw 1 (xoL_0 (xpL_137 hX)) rfl inlX1 (by decide) rfl rfl (xrL_0_1 (xpL_137 hX)) xw_1584 dX6_planErrands_12 ?_
  refine x_callv hw (x_runV (ci := 0) C hw (m_X0_clearRota l C.2.2.2.2.2.2.2.2.1 (xpL_137 hX) h) (xoL_9 (xpL_137 hX)) rfl (x_gV xw_1590 xw_424 xw_425 xw_61 xw_426) rfl rfl qX0_clearRota ⟨(Nat.le_of_ble_eq_true rfl), (Nat.le_of_ble_eq_true rfl)⟩ rfl hl.1 rfl (Nat.le_of_ble_eq_true rfl) dX6_planErrands_15) (fun u2 H locs hw h => ?_)
  refine lv_aload_n hx hb dX6_planErrands_18 rfl (lv_at hl 0 rfl) ?_
  refine lv_bipush (v := 8) hx hb dX6_planErrands_19 (by decide) ?_
  obtain ⟨u3, eu3⟩ : ∃ q : xM, q = si u2 5 4 (8 : Int32) := ⟨_, rfl⟩
  have h := h u3 eu3
  refine x_puti (ci := 6) (ty := .int) C hw 4 (xoX_5 hX) rfl inlX6 tyX6_ok nmX6 (by decide) rfl rfl xw_1585 rfl (by decide +kernel) rfl rfl dX6_planErrands_21 eu3 (fun H locs hw => ?_)
  refine lv_aload_n hx hb dX6_planErrands_24 rfl (lv_at hl 0 rfl) ?_
  refine lv_iconst (v := 0) hx hb dX6_planErrands_25 (by decide) ?_
  obtain ⟨u4, eu4⟩ : ∃ q : xM, q = si u3 5 5 (0 : Int32) := ⟨_, rfl⟩
  have h := h u4 eu4
  refine x_puti (ci := 6) (ty := .int) C hw 5 (xoX_5 hX) rfl inlX6 tyX6_ok nmX6 (by decide) rfl rfl xw_1586 rfl (by decide +kernel) rfl rfl dX6_planErrands_26 eu4 (fun H locs hw => ?_)
  refine lv_aload_n hx hb dX6_planErrands_29 rfl (lv_at hl 0 rfl) ?_
  refine lv_iconst (v := 0) hx hb dX6_planErrands_30 (by decide) ?_
  obtain ⟨u5, eu5⟩ : ∃ q : xM, q = si u4 5 6 (0 : Int32) := ⟨_, rfl⟩
  have h := h u5 eu5
  refine x_puti (ci := 6) (ty := .int) C hw 6 (xoX_5 hX) rfl inlX6 tyX6_ok nmX6 (by decide) rfl rfl xw_1587 rfl (by decide +kernel) rfl rfl dX6_planErrands_31 eu5 (fun H locs hw => ?_)
  refine lv_aload_n hx hb dX6_planErrands_34 rfl (lv_at hl 0 rfl) ?_
  refine lv_iconst (v := 0) hx hb dX6_planErrands_35 (by decide) ?_
  refine lv_iconst (v := 1) hx hb dX6_planErrands_36 (by decide) ?_
  refine lv_aload_n hx hb dX6_planErrands_37 rfl (lv_at hl 1 rfl) ?_
  refine x_geti (ci := 1) C hw 2 (xoL_0 ho1) rfl inlX1 (by decide) rfl rfl xw_1588 dX6_planErrands_38 ?_
  refine lv_ishl hx hb dX6_planErrands_41 ?_
  refine lv_iconst (v := 1) hx hb dX6_planErrands_42 (by decide) ?_
  refine lv_isub hx hb dX6_planErrands_43 ?_
  refine lv_iconst (v := 0) hx hb dX6_planErrands_44 (by decide) ?_
  refine x_callv hw (x_runS C hw (m_X6_tryErrands l C.2.2.2.2.2.2.2.2.1 hX 13 h) (x_gS xw_1591 xw_1592 xw_24 xw_1593) rfl rfl qX6_tryErrands ⟨(Nat.le_of_ble_eq_true rfl), (Nat.le_of_ble_eq_true rfl)⟩ rfl hl.1 rfl (Nat.le_of_ble_eq_true rfl) dX6_planErrands_45) (fun u6 H locs hw h => ?_)
  exact x_vret C hw h dX6_planErrands_48
set_option maxHeartbeats 4000000 in
set_option maxRecDepth 100000 in
theorem m_X6_planErrands (l : Launch) {g : xG} (hD : x_D g) {o1 : Nat} (hX : xpX g) (ho1 : xpL g o1) {u : xM} {Qf : xM → Prop} (h : p_X6_planErrands o1 u Qf) : Met l yX6_planErrands (Cond.code yX6_planErrands cX6_planErrands 2 none :: wsL_law) (x_rm 17 937) (va_Pc [.ref (xad g 5), .ref (xad g o1)] (x_B g u)) (x_Qv g Qf) 0 0 (x_A g) := by
  refine Met.ofW (cc := cX6_planErrands) (maxL := 2) (ret := none) (by decide) rfl ?_
  intro p e s m args below meth c s₁ B hml hv
  obtain ⟨rfl, hB⟩ := hv
  obtain ⟨C, hw⟩ := x_start B hml hD hB
  have hl := lv_entry [.ref (xad g 5), .ref (xad g o1)] (n := 2) (Nat.le_of_ble_eq_true rfl)
  rw [lg_entry_eq]
  exact s_X6_planErrands C hX ho1 hw hl h
set_option maxHeartbeats 4000000 in
set_option maxRecDepth 100000 in
theorem s_X10_plan {Qf : Int32 → xM → Prop} {a1 : Int32} (C : x_C p s m args meth c g RX10 cX10_plan 2 (some .int)) (hX : xpX g) {u : xM} {H : Heap} {locs : List Loc} {ls : Array Slot} (hw : x_W g s.heap H locs u) (hl : lv_has ls 2 [(0, .ref (xad g 0)), (1, .int a1)]) (h : p_X10_plan a1 u Qf) : W p l e (x_rm 18 958) s m args below meth c H locs 0 0 (MQ below (x_Qi g Qf) args s 0 0 (x_A g)) (F0 m 0 ls []) := by
  unfold p_X10_plan at h
  have hx := C.1
  have hb := C.2.1
  refine lv_iload_n hx hb dX10_plan_0 rfl (lv_at hl 1 rfl) ?_
  refine lv_iconst (v := 0) hx hb dX10_plan_1 (by decide) ?_
  refine lv_iconst (v := 1) hx hb dX10_plan_2 (by decide) ?_
  refine x_callz hw (x_runS C hw (m_X10_isWithin l C.2.2.2.2.2.2.2.2.1  h) (x_gS xw_280 xw_281 xw_2 xw_282) rfl rfl qX10_isWithin ⟨(Nat.le_of_ble_eq_true rfl), (Nat.le_of_ble_eq_true rfl)⟩ rfl hl.1 rfl (Nat.le_of_ble_eq_true rfl) dX10_plan_3) (fun r2 u1 H locs hw h => ?_)
  refine lv_if_ne (tgt := 15) hx hb dX10_plan_6 (by decide) (fun c3 => ?_) (fun c3 => ?_)
  · have h := h.1 (xb_t c3)
    refine lv_aload_n hx hb dX10_plan_15 rfl (lv_at hl 0 rfl) ?_
    refine x_getr (ci := 10) C hw 0 (xoX_0 hX) rfl inlX10 (by decide) rfl rfl xrX_0_0 xw_16 dX10_plan_16 ?_
    refine x_geti (ci := 1) C hw 2 (xoL_0 (xpL_83 hX)) rfl inlX1 (by decide) rfl rfl xw_860 dX10_plan_19 ?_
    refine lv_if_ne (tgt := 32) hx hb dX10_plan_22 (by decide) (fun c4 => ?_) (fun c4 => ?_)
    · have h := h.1 c4
      refine lv_aload_n hx hb dX10_plan_32 rfl (lv_at hl 0 rfl) ?_
      refine x_getr (ci := 10) C hw 3 (xoX_0 hX) rfl inlX10 (by decide) rfl rfl xrX_0_3 xw_25 dX10_plan_33 ?_
      refine lv_aload_n hx hb dX10_plan_36 rfl (lv_at hl 0 rfl) ?_
      refine x_getr (ci := 10) C hw 0 (xoX_0 hX) rfl inlX10 (by decide) rfl rfl xrX_0_0 xw_16 dX10_plan_37 ?_
      refine x_callv hw (x_runV (ci := 6) C hw (m_X6_planErrands l C.2.2.2.2.2.2.2.2.1 hX (xpL_83 hX) h) (xoX_5 hX) rfl (x_gV xw_1580 xw_1581 xw_1582 xw_24 xw_1583) rfl rfl qX6_planErrands ⟨(Nat.le_of_ble_eq_true rfl), (Nat.le_of_ble_eq_true rfl)⟩ rfl hl.1 rfl (Nat.le_of_ble_eq_true rfl) dX10_plan_40) (fun u5 H locs hw h => ?_)
      refine lv_aload_n hx hb dX10_plan_43 rfl (lv_at hl 0 rfl) ?_
      refine lv_iload_n hx hb dX10_plan_44 rfl (lv_at hl 1 rfl) ?_
      refine lv_if_ne (tgt := 58) hx hb dX10_plan_45 (by decide) (fun c6 => ?_) (fun c6 => ?_)
      · have h := h.1 c6
        refine lv_aload_n hx hb dX10_plan_58 rfl (lv_at hl 0 rfl) ?_
        refine x_getr (ci := 10) C hw 3 (xoX_0 hX) rfl inlX10 (by decide) rfl rfl xrX_0_3 xw_25 dX10_plan_59 ?_
        refine x_geti (ci := 6) C hw 5 (xoX_5 hX) rfl inlX6 (by decide) rfl rfl xw_1579 dX10_plan_62 ?_
        refine x_calli hw (x_runV (ci := 10) C hw (m_X10_fine l C.2.2.2.2.2.2.2.2.1 hX h) (xoX_0 hX) rfl (x_gV xw_622 xw_623 xw_624 xw_2 xw_625) rfl rfl qX10_fine ⟨(Nat.le_of_ble_eq_true rfl), (Nat.le_of_ble_eq_true rfl)⟩ rfl hl.1 rfl (Nat.le_of_ble_eq_true rfl) dX10_plan_65) (fun r8 u7 H locs hw h => ?_)
        exact x_iret C hw h dX10_plan_68
      · have h := h.2 c6
        refine lv_aload_n hx hb dX10_plan_48 rfl (lv_at hl 0 rfl) ?_
        refine x_getr (ci := 10) C hw 3 (xoX_0 hX) rfl inlX10 (by decide) rfl rfl xrX_0_3 xw_25 dX10_plan_49 ?_
        refine x_geti (ci := 6) C hw 4 (xoX_5 hX) rfl inlX6 (by decide) rfl rfl xw_1578 dX10_plan_52 ?_
        refine lv_goto (tgt := 65) hx hb dX10_plan_55 (by decide) ?_
        refine x_calli hw (x_runV (ci := 10) C hw (m_X10_fine l C.2.2.2.2.2.2.2.2.1 hX h) (xoX_0 hX) rfl (x_gV xw_622 xw_623 xw_624 xw_2 xw_625) rfl rfl qX10_fine ⟨(Nat.le_of_ble_eq_true rfl), (Nat.le_of_ble_eq_true rfl)⟩ rfl hl.1 rfl (Nat.le_of_ble_eq_true rfl) dX10_plan_65) (fun r10 u9 H locs hw h => ?_)
        exact x_iret C hw h dX10_plan_68
    · have h := h.2 c4
      refine lv_aload_n hx hb dX10_plan_25 rfl (lv_at hl 0 rfl) ?_
      refine lv_bipush (v := 6) hx hb dX10_plan_26 (by decide) ?_
      refine x_calli hw (x_runV (ci := 10) C hw (m_X10_none l C.2.2.2.2.2.2.2.2.1 hX h) (xoX_0 hX) rfl (x_gV xw_343 xw_344 xw_345 xw_2 xw_346) rfl rfl qX10_none ⟨(Nat.le_of_ble_eq_true rfl), (Nat.le_of_ble_eq_true rfl)⟩ rfl hl.1 rfl (Nat.le_of_ble_eq_true rfl) dX10_plan_28) (fun r12 u11 H locs hw h => ?_)
      exact x_iret C hw h dX10_plan_31
  · have h := h.2 (xb_f c3)
    refine lv_aload_n hx hb dX10_plan_9 rfl (lv_at hl 0 rfl) ?_
    refine lv_iconst (v := 1) hx hb dX10_plan_10 (by decide) ?_
    refine x_calli hw (x_runV (ci := 10) C hw (m_X10_none l C.2.2.2.2.2.2.2.2.1 hX h) (xoX_0 hX) rfl (x_gV xw_343 xw_344 xw_345 xw_2 xw_346) rfl rfl qX10_none ⟨(Nat.le_of_ble_eq_true rfl), (Nat.le_of_ble_eq_true rfl)⟩ rfl hl.1 rfl (Nat.le_of_ble_eq_true rfl) dX10_plan_11) (fun r14 u13 H locs hw h => ?_)
    exact x_iret C hw h dX10_plan_14
set_option maxHeartbeats 4000000 in
set_option maxRecDepth 100000 in
theorem m_X10_plan (l : Launch) {g : xG} (hD : x_D g) (hX : xpX g) {a1 : Int32} {u : xM} {Qf : Int32 → xM → Prop} (h : p_X10_plan a1 u Qf) : Met l yX10_plan (Cond.code yX10_plan cX10_plan 2 (some .int) :: wsL_law) (x_rm 18 958) (va_Pc [.ref (xad g 0), .int a1] (x_B g u)) (x_Qi g Qf) 0 0 (x_A g) := by
  refine Met.ofW (cc := cX10_plan) (maxL := 2) (ret := (some .int)) (by decide) rfl ?_
  intro p e s m args below meth c s₁ B hml hv
  obtain ⟨rfl, hB⟩ := hv
  obtain ⟨C, hw⟩ := x_start B hml hD hB
  have hl := lv_entry [.ref (xad g 0), .int a1] (n := 2) (Nat.le_of_ble_eq_true rfl)
  rw [lg_entry_eq]
  exact s_X10_plan C hX hw hl h
set_option maxHeartbeats 4000000 in
set_option maxRecDepth 100000 in
theorem s_X6_plannedHour {Qf : Int32 → xM → Prop} {a1 : Int32} (C : x_C p s m args meth c g RX6 cX6_plannedHour 2 (some .int)) (hX : xpX g) {u : xM} {H : Heap} {locs : List Loc} {ls : Array Slot} (hw : x_W g s.heap H locs u) (hl : lv_has ls 2 [(0, .ref (xad g 5)), (1, .int a1)]) (h : p_X6_plannedHour a1 u Qf) : W p l e (x_rm 1 20) s m args below meth c H locs 0 0 (MQ below (x_Qi g Qf) args s 0 0 (x_A g)) (F0 m 0 ls []) := by
  unfold p_X6_plannedHour at h
  have hx := C.1
  have hb := C.2.1
  refine lv_aload_n hx hb dX6_plannedHour_0 rfl (lv_at hl 0 rfl) ?_
  refine x_geti (ci := 6) C hw 6 (xoX_5 hX) rfl inlX6 (by decide) rfl rfl xw_1587 dX6_plannedHour_1 ?_
  refine lv_iload_n hx hb dX6_plannedHour_4 rfl (lv_at hl 1 rfl) ?_
  refine x_calli hw (x_runS C hw (m_X6_shiftOf l C.2.2.2.2.2.2.2.2.1  h) (x_gS xw_1629 xw_1630 xw_24 xw_1631) rfl rfl qX6_shiftOf ⟨(Nat.le_of_ble_eq_true rfl), (Nat.le_of_ble_eq_true rfl)⟩ rfl hl.1 rfl (Nat.le_of_ble_eq_true rfl) dX6_plannedHour_5) (fun r2 u1 H locs hw h => ?_)
  refine lv_ishr hx hb dX6_plannedHour_8 ?_
  refine lv_bipush (v := 15) hx hb dX6_plannedHour_9 (by decide) ?_
  refine lv_iand hx hb dX6_plannedHour_11 ?_
  exact x_iret C hw h dX6_plannedHour_12
set_option maxHeartbeats 4000000 in
set_option maxRecDepth 100000 in
theorem m_X6_plannedHour (l : Launch) {g : xG} (hD : x_D g) (hX : xpX g) {a1 : Int32} {u : xM} {Qf : Int32 → xM → Prop} (h : p_X6_plannedHour a1 u Qf) : Met l yX6_plannedHour (Cond.code yX6_plannedHour cX6_plannedHour 2 (some .int) :: wsL_law) (x_rm 1 20) (va_Pc [.ref (xad g 5), .int a1] (x_B g u)) (x_Qi g Qf) 0 0 (x_A g) := by
  refine Met.ofW (cc := cX6_plannedHour) (maxL := 2) (ret := (some .int)) (by decide) rfl ?_
  intro p e s m args below meth c s₁ B hml hv
  obtain ⟨rfl, hB⟩ := hv
  obtain ⟨C, hw⟩ := x_start B hml hD hB
  have hl := lv_entry [.ref (xad g 5), .int a1] (n := 2) (Nat.le_of_ble_eq_true rfl)
  rw [lg_entry_eq]
  exact s_X6_plannedHour C hX hw hl h
set_option maxHeartbeats 4000000 in
set_option maxRecDepth 100000 in
theorem s_X10_planned {Qf : Int32 → xM → Prop} {a1 : Int32} (C : x_C p s m args meth c g RX10 cX10_planned 2 (some .int)) (hX : xpX g) {u : xM} {H : Heap} {locs : List Loc} {ls : Array Slot} (hw : x_W g s.heap H locs u) (hl : lv_has ls 2 [(0, .ref (xad g 0)), (1, .int a1)]) (h : p_X10_planned a1 u Qf) : W p l e (x_rm 18 958) s m args below meth c H locs 0 0 (MQ below (x_Qi g Qf) args s 0 0 (x_A g)) (F0 m 0 ls []) := by
  unfold p_X10_planned at h
  have hx := C.1
  have hb := C.2.1
  refine lv_iload_n hx hb dX10_planned_0 rfl (lv_at hl 1 rfl) ?_
  refine lv_if_lt (tgt := 15) hx hb dX10_planned_1 (by decide) (fun c1 => ?_) (fun c1 => ?_)
  · have h := h.1 c1
    refine lv_aload_n hx hb dX10_planned_15 rfl (lv_at hl 0 rfl) ?_
    refine lv_iconst (v := 1) hx hb dX10_planned_16 (by decide) ?_
    refine x_calli hw (x_runV (ci := 10) C hw (m_X10_none l C.2.2.2.2.2.2.2.2.1 hX h) (xoX_0 hX) rfl (x_gV xw_343 xw_344 xw_345 xw_2 xw_346) rfl rfl qX10_none ⟨(Nat.le_of_ble_eq_true rfl), (Nat.le_of_ble_eq_true rfl)⟩ rfl hl.1 rfl (Nat.le_of_ble_eq_true rfl) dX10_planned_17) (fun r3 u2 H locs hw h => ?_)
    exact x_iret C hw h dX10_planned_20
  · have h := h.2 c1
    refine lv_iload_n hx hb dX10_planned_4 rfl (lv_at hl 1 rfl) ?_
    refine lv_aload_n hx hb dX10_planned_5 rfl (lv_at hl 0 rfl) ?_
    refine x_getr (ci := 10) C hw 0 (xoX_0 hX) rfl inlX10 (by decide) rfl rfl xrX_0_0 xw_16 dX10_planned_6 ?_
    refine x_geti (ci := 1) C hw 2 (xoL_0 (xpL_83 hX)) rfl inlX1 (by decide) rfl rfl xw_860 dX10_planned_9 ?_
    refine lv_icmp_lt (tgt := 21) hx hb dX10_planned_12 (by decide) (fun c4 => ?_) (fun c4 => ?_)
    · have h := h.1 c4
      refine lv_aload_n hx hb dX10_planned_21 rfl (lv_at hl 0 rfl) ?_
      refine x_getr (ci := 10) C hw 3 (xoX_0 hX) rfl inlX10 (by decide) rfl rfl xrX_0_3 xw_25 dX10_planned_22 ?_
      refine lv_aload_n hx hb dX10_planned_25 rfl (lv_at hl 0 rfl) ?_
      refine x_getr (ci := 10) C hw 0 (xoX_0 hX) rfl inlX10 (by decide) rfl rfl xrX_0_0 xw_16 dX10_planned_26 ?_
      refine x_callv hw (x_runV (ci := 6) C hw (m_X6_planErrands l C.2.2.2.2.2.2.2.2.1 hX (xpL_83 hX) h) (xoX_5 hX) rfl (x_gV xw_1580 xw_1581 xw_1582 xw_24 xw_1583) rfl rfl qX6_planErrands ⟨(Nat.le_of_ble_eq_true rfl), (Nat.le_of_ble_eq_true rfl)⟩ rfl hl.1 rfl (Nat.le_of_ble_eq_true rfl) dX10_planned_29) (fun u5 H locs hw h => ?_)
      refine lv_aload_n hx hb dX10_planned_32 rfl (lv_at hl 0 rfl) ?_
      refine lv_aload_n hx hb dX10_planned_33 rfl (lv_at hl 0 rfl) ?_
      refine x_getr (ci := 10) C hw 3 (xoX_0 hX) rfl inlX10 (by decide) rfl rfl xrX_0_3 xw_25 dX10_planned_34 ?_
      refine lv_iload_n hx hb dX10_planned_37 rfl (lv_at hl 1 rfl) ?_
      refine x_calli hw (x_runV (ci := 6) C hw (m_X6_plannedHour l C.2.2.2.2.2.2.2.2.1 hX h) (xoX_5 hX) rfl (x_gV xw_1659 xw_1660 xw_1661 xw_24 xw_1662) rfl rfl qX6_plannedHour ⟨(Nat.le_of_ble_eq_true rfl), (Nat.le_of_ble_eq_true rfl)⟩ rfl hl.1 rfl (Nat.le_of_ble_eq_true rfl) dX10_planned_38) (fun r7 u6 H locs hw h => ?_)
      refine x_calli hw (x_runV (ci := 10) C hw (m_X10_fine l C.2.2.2.2.2.2.2.2.1 hX h) (xoX_0 hX) rfl (x_gV xw_622 xw_623 xw_624 xw_2 xw_625) rfl rfl qX10_fine ⟨(Nat.le_of_ble_eq_true rfl), (Nat.le_of_ble_eq_true rfl)⟩ rfl hl.1 rfl (Nat.le_of_ble_eq_true rfl) dX10_planned_41) (fun r9 u8 H locs hw h => ?_)
      exact x_iret C hw h dX10_planned_44
    · have h := h.2 c4
      refine lv_aload_n hx hb dX10_planned_15 rfl (lv_at hl 0 rfl) ?_
      refine lv_iconst (v := 1) hx hb dX10_planned_16 (by decide) ?_
      refine x_calli hw (x_runV (ci := 10) C hw (m_X10_none l C.2.2.2.2.2.2.2.2.1 hX h) (xoX_0 hX) rfl (x_gV xw_343 xw_344 xw_345 xw_2 xw_346) rfl rfl qX10_none ⟨(Nat.le_of_ble_eq_true rfl), (Nat.le_of_ble_eq_true rfl)⟩ rfl hl.1 rfl (Nat.le_of_ble_eq_true rfl) dX10_planned_17) (fun r11 u10 H locs hw h => ?_)
      exact x_iret C hw h dX10_planned_20
set_option maxHeartbeats 4000000 in
set_option maxRecDepth 100000 in
theorem m_X10_planned (l : Launch) {g : xG} (hD : x_D g) (hX : xpX g) {a1 : Int32} {u : xM} {Qf : Int32 → xM → Prop} (h : p_X10_planned a1 u Qf) : Met l yX10_planned (Cond.code yX10_planned cX10_planned 2 (some .int) :: wsL_law) (x_rm 18 958) (va_Pc [.ref (xad g 0), .int a1] (x_B g u)) (x_Qi g Qf) 0 0 (x_A g) := by
  refine Met.ofW (cc := cX10_planned) (maxL := 2) (ret := (some .int)) (by decide) rfl ?_
  intro p e s m args below meth c s₁ B hml hv
  obtain ⟨rfl, hB⟩ := hv
  obtain ⟨C, hw⟩ := x_start B hml hD hB
  have hl := lv_entry [.ref (xad g 0), .int a1] (n := 2) (Nat.le_of_ble_eq_true rfl)
  rw [lg_entry_eq]
  exact s_X10_planned C hX hw hl h
set_option maxHeartbeats 4000000 in
set_option maxRecDepth 100000 in
theorem s_X6_planPumps_L21 {o1 : Nat} {Qf : xM → Prop} (C : x_C p s m args meth c g RX6 cX6_planPumps 5 none) (hX : xpX g) (ho1 : xpL g o1) : ∀ (nn : Nat) {v2 : Int32} {v3 : Int32} {u : xM} {H : Heap} {locs : List Loc} {ls : Array Slot} (hw : x_W g s.heap H locs u) (hl : lv_has ls 5 [(0, .ref (xad g 5)), (1, .ref (xad g o1)), (2, .int v2), (3, .int v3)]) (h : p_X6_planPumps_L21 o1 Qf nn v2 v3 u), W p l e (x_rm 5 173) s m args below meth c H locs 0 0 (MQ below (x_Qv g Qf) args s 0 0 (x_A g)) (F0 m 21 ls []) := by
  intro nn
  induction nn with
  | zero => intro v2 v3 u H locs ls hw hl h; exact h.elim
  | succ nn ih =>
    intro v2 v3 u H locs ls hw hl h
    unfold p_X6_planPumps_L21 at h
    have hx := C.1
    have hb := C.2.1
    refine lv_iload_n hx hb dX6_planPumps_21 rfl (lv_at hl 3 rfl) ?_
    refine lv_sipush (v := 4095) hx hb dX6_planPumps_22 (by decide) ?_
    refine lv_icmp_gt (tgt := 89) hx hb dX6_planPumps_25 (by decide) (fun c1 => ?_) (fun c1 => ?_)
    · have h := h.1 c1
      exact x_vret C hw h dX6_planPumps_89
    · have h := h.2 c1
      refine lv_iload_n hx hb dX6_planPumps_28 rfl (lv_at hl 3 rfl) ?_
      refine x_calli hw (x_runS C hw (m_J6_bitCount_0f7a4 l C.2.2.2.2.2.2.2.2.1  h) (x_gS xw_1556 xw_1310 xw_1311 xw_1312) rfl rfl qJ6_bitCount_0f7a4 ⟨(Nat.le_of_ble_eq_true rfl), (Nat.le_of_ble_eq_true rfl)⟩ rfl hl.1 rfl (Nat.le_of_ble_eq_true rfl) dX6_planPumps_29) (fun r3 u2 H locs hw h => ?_)
      refine lv_iload_n hx hb dX6_planPumps_32 rfl (lv_at hl 2 rfl) ?_
      refine lv_icmp_ne (tgt := 83) hx hb dX6_planPumps_33 (by decide) (fun c4 => ?_) (fun c4 => ?_)
      · have h := h.1 c4
        obtain ⟨x5, ex5⟩ : ∃ y : Int32, y = v3 + 1 := ⟨_, rfl⟩
        have h := h x5 ex5
        refine lv_iinc (v := x5) (lv' := [(3, .int x5), (0, .ref (xad g 5)), (1, .ref (xad g o1)), (2, .int v2)]) hx hb dX6_planPumps_83 hl (k := 3) rfl (by rw [ex5]; rfl) (by decide) rfl (fun ls hl => ?_)
        refine lv_goto (tgt := 21) hx hb dX6_planPumps_86 (by decide) ?_
        exact ih hw (lv_sub hl [1, 2, 3, 0] rfl) h
      · have h := h.2 c4
        refine lv_aload_n hx hb dX6_planPumps_36 rfl (lv_at hl 0 rfl) ?_
        refine x_getr (ci := 6) C hw 0 (xoX_5 hX) rfl inlX6 (by decide) rfl rfl xrX_5_0 xw_111 dX6_planPumps_37 ?_
        refine lv_aload_n hx hb dX6_planPumps_40 rfl (lv_at hl 1 rfl) ?_
        refine x_callv hw (x_runV (ci := 1) C hw (m_X1_copyWaterFrom l C.2.2.2.2.2.2.2.2.1 (xpL_137 hX) ho1 h) (xoL_0 (xpL_137 hX)) rfl (x_gV xw_1677 xw_1512 xw_1513 xw_15 xw_1514) rfl rfl qX1_copyWaterFrom ⟨(Nat.le_of_ble_eq_true rfl), (Nat.le_of_ble_eq_true rfl)⟩ rfl hl.1 rfl (Nat.le_of_ble_eq_true rfl) dX6_planPumps_41) (fun u6 H locs hw h => ?_)
        refine lv_aload_n hx hb dX6_planPumps_44 rfl (lv_at hl 0 rfl) ?_
        refine x_getr (ci := 6) C hw 0 (xoX_5 hX) rfl inlX6 (by decide) rfl rfl xrX_5_0 xw_111 dX6_planPumps_45 ?_
        refine lv_iload_n hx hb dX6_planPumps_48 rfl (lv_at hl 3 rfl) ?_
        obtain ⟨u7, eu7⟩ : ∃ q : xM, q = si u6 137 9 v3 := ⟨_, rfl⟩
        have h := h u7 eu7
        refine x_puti (ci := 1) (ty := .int) C hw 9 (xoL_0 (xpL_137 hX)) rfl inlX1 tyX1_ok nmX1 (by decide) rfl rfl xw_1676 rfl (by decide +kernel) rfl rfl dX6_planPumps_49 eu7 (fun H locs hw => ?_)
        refine lv_aload_n hx hb dX6_planPumps_52 rfl (lv_at hl 0 rfl) ?_
        refine x_getr (ci := 6) C hw 0 (xoX_5 hX) rfl inlX6 (by decide) rfl rfl xrX_5_0 xw_111 dX6_planPumps_53 ?_
        refine lv_bipush (v := 12) hx hb dX6_planPumps_56 (by decide) ?_
        refine x_calli hw (x_runV (ci := 1) C hw (m_X1_waterIn l C.2.2.2.2.2.2.2.2.1 (xpL_137 hX) h) (xoL_0 (xpL_137 hX)) rfl (x_gV xw_1678 xw_1355 xw_1356 xw_15 xw_1357) rfl rfl qX1_waterIn ⟨(Nat.le_of_ble_eq_true rfl), (Nat.le_of_ble_eq_true rfl)⟩ rfl hl.1 rfl (Nat.le_of_ble_eq_true rfl) dX6_planPumps_58) (fun r9 u8 H locs hw h => ?_)
        refine lv_istore (lv' := [(4, .int r9), (0, .ref (xad g 5)), (1, .ref (xad g o1)), (2, .int v2), (3, .int v3)]) hx hb dX6_planPumps_61 hl (by decide) rfl (fun ls hl => ?_)
        refine lv_iload hx hb dX6_planPumps_63 (lv_at hl 0 rfl) ?_
        refine lv_aload_n hx hb dX6_planPumps_65 rfl (lv_at hl 1 rfl) ?_
        refine x_geti (ci := 6) C hw 5 (xoX_5 hX) rfl inlX6 (by decide) rfl rfl xw_1586 dX6_planPumps_66 ?_
        refine lv_icmp_ge (tgt := 83) hx hb dX6_planPumps_69 (by decide) (fun c10 => ?_) (fun c10 => ?_)
        · have h := h.1 c10
          obtain ⟨x11, ex11⟩ : ∃ y : Int32, y = v3 + 1 := ⟨_, rfl⟩
          have h := h x11 ex11
          refine lv_iinc (v := x11) (lv' := [(3, .int x11), (4, .int r9), (0, .ref (xad g 5)), (1, .ref (xad g o1)), (2, .int v2)]) hx hb dX6_planPumps_83 hl (k := 4) rfl (by rw [ex11]; rfl) (by decide) rfl (fun ls hl => ?_)
          refine lv_goto (tgt := 21) hx hb dX6_planPumps_86 (by decide) ?_
          exact ih hw (lv_sub hl [2, 3, 4, 0] rfl) h
        · have h := h.2 c10
          refine lv_aload_n hx hb dX6_planPumps_72 rfl (lv_at hl 1 rfl) ?_
          refine lv_iload hx hb dX6_planPumps_73 (lv_at hl 0 rfl) ?_
          obtain ⟨u12, eu12⟩ : ∃ q : xM, q = si u8 5 5 r9 := ⟨_, rfl⟩
          have h := h u12 eu12
          refine x_puti (ci := 6) (ty := .int) C hw 5 (xoX_5 hX) rfl inlX6 tyX6_ok nmX6 (by decide) rfl rfl xw_1586 rfl (by decide +kernel) rfl rfl dX6_planPumps_75 eu12 (fun H locs hw => ?_)
          refine lv_aload_n hx hb dX6_planPumps_78 rfl (lv_at hl 1 rfl) ?_
          refine lv_iload_n hx hb dX6_planPumps_79 rfl (lv_at hl 4 rfl) ?_
          obtain ⟨u13, eu13⟩ : ∃ q : xM, q = si u12 5 6 v3 := ⟨_, rfl⟩
          have h := h u13 eu13
          refine x_puti (ci := 6) (ty := .int) C hw 6 (xoX_5 hX) rfl inlX6 tyX6_ok nmX6 (by decide) rfl rfl xw_1587 rfl (by decide +kernel) rfl rfl dX6_planPumps_80 eu13 (fun H locs hw => ?_)
          obtain ⟨x14, ex14⟩ : ∃ y : Int32, y = v3 + 1 := ⟨_, rfl⟩
          have h := h x14 ex14
          refine lv_iinc (v := x14) (lv' := [(3, .int x14), (4, .int r9), (0, .ref (xad g 5)), (1, .ref (xad g o1)), (2, .int v2)]) hx hb dX6_planPumps_83 hl (k := 4) rfl (by rw [ex14]; rfl) (by decide) rfl (fun ls hl => ?_)
          refine lv_goto (tgt := 21) hx hb dX6_planPumps_86 (by decide) ?_
          exact ih hw (lv_sub hl [2, 3, 4, 0] rfl) h
set_option maxHeartbeats 4000000 in
set_option maxRecDepth 100000 in
theorem s_X6_planPumps {o1 : Nat} {Qf : xM → Prop} {a2 : Int32} (C : x_C p s m args meth c g RX6 cX6_planPumps 5 none) (hX : xpX g) (ho1 : xpL g o1) {u : xM} {H : Heap} {locs : List Loc} {ls : Array Slot} (hw : x_W g s.heap H locs u) (hl : lv_has ls 5 [(0, .ref (xad g 5)), (1, .ref (xad g o1)), (2, .int a2)]) (h : p_X6_planPumps o1 a2 u Qf) : W p l e (x_rm 5 173) s m args below meth c H locs 0 0 (MQ below (x_Qv g Qf) args s 0 0 (x_A g)) (F0 m 0 ls []) := by
  unfold p_X6_planPumps at h
  have hx := C.1
  have hb := C.2.1
  refine lv_aload_n hx hb dX6_planPumps_0 rfl (lv_at hl 0 rfl) ?_
  refine x_getr (ci := 6) C hw 0 (xoX_5 hX) rfl inlX6 (by decide) rfl rfl xrX_5_0 xw_111 dX6_planPumps_1 ?_
  refine lv_aload_n hx hb dX6_planPumps_4 rfl (lv_at hl 1 rfl) ?_
  refine x_callv hw (x_runV (ci := 1) C hw (m_X1_copyFrom l C.2.2.2.2.2.2.2.2.1 (xpL_137 hX) ho1 h) (xoL_0 (xpL_137 hX)) rfl (x_gV xw_1589 xw_601 xw_602 xw_15 xw_603) rfl rfl qX1_copyFrom ⟨(Nat.le_of_ble_eq_true rfl), (Nat.le_of_ble_eq_true rfl)⟩ rfl hl.1 rfl (Nat.le_of_ble_eq_true rfl) dX6_planPumps_5) (fun u1 H locs hw h => ?_)
  refine lv_aload_n hx hb dX6_planPumps_8 rfl (lv_at hl 0 rfl) ?_
  refine lv_ldc (v := 1000000) hx hb C.2.2.2.1 (C.2.2.2.2.1 _ xw_1675) dX6_planPumps_9 ?_
  obtain ⟨u2, eu2⟩ : ∃ q : xM, q = si u1 5 5 (1000000 : Int32) := ⟨_, rfl⟩
  have h := h u2 eu2
  refine x_puti (ci := 6) (ty := .int) C hw 5 (xoX_5 hX) rfl inlX6 tyX6_ok nmX6 (by decide) rfl rfl xw_1586 rfl (by decide +kernel) rfl rfl dX6_planPumps_11 eu2 (fun H locs hw => ?_)
  refine lv_aload_n hx hb dX6_planPumps_14 rfl (lv_at hl 0 rfl) ?_
  refine lv_iconst (v := 0) hx hb dX6_planPumps_15 (by decide) ?_
  obtain ⟨u3, eu3⟩ : ∃ q : xM, q = si u2 5 6 (0 : Int32) := ⟨_, rfl⟩
  have h := h u3 eu3
  refine x_puti (ci := 6) (ty := .int) C hw 6 (xoX_5 hX) rfl inlX6 tyX6_ok nmX6 (by decide) rfl rfl xw_1587 rfl (by decide +kernel) rfl rfl dX6_planPumps_16 eu3 (fun H locs hw => ?_)
  refine lv_iconst (v := 0) hx hb dX6_planPumps_19 (by decide) ?_
  refine lv_istore_n (lv' := [(3, .int 0), (0, .ref (xad g 5)), (1, .ref (xad g o1)), (2, .int a2)]) hx hb dX6_planPumps_20 rfl hl (by decide) rfl (fun ls hl => ?_)
  obtain ⟨n9, h⟩ := h
  exact s_X6_planPumps_L21 C hX ho1 n9 hw (lv_sub hl [1, 2, 3, 0] rfl) h
set_option maxHeartbeats 4000000 in
set_option maxRecDepth 100000 in
theorem m_X6_planPumps (l : Launch) {g : xG} (hD : x_D g) {o1 : Nat} (hX : xpX g) (ho1 : xpL g o1) {a2 : Int32} {u : xM} {Qf : xM → Prop} (h : p_X6_planPumps o1 a2 u Qf) : Met l yX6_planPumps (Cond.code yX6_planPumps cX6_planPumps 5 none :: wsL_law) (x_rm 5 173) (va_Pc [.ref (xad g 5), .ref (xad g o1), .int a2] (x_B g u)) (x_Qv g Qf) 0 0 (x_A g) := by
  refine Met.ofW (cc := cX6_planPumps) (maxL := 5) (ret := none) (by decide) rfl ?_
  intro p e s m args below meth c s₁ B hml hv
  obtain ⟨rfl, hB⟩ := hv
  obtain ⟨C, hw⟩ := x_start B hml hD hB
  have hl := lv_entry [.ref (xad g 5), .ref (xad g o1), .int a2] (n := 5) (Nat.le_of_ble_eq_true rfl)
  rw [lg_entry_eq]
  exact s_X6_planPumps C hX ho1 hw hl h
set_option maxHeartbeats 4000000 in
set_option maxRecDepth 100000 in
theorem s_X10_save {Qf : Int32 → xM → Prop} {a1 : Int32} (C : x_C p s m args meth c g RX10 cX10_save 2 (some .int)) (hX : xpX g) {u : xM} {H : Heap} {locs : List Loc} {ls : Array Slot} (hw : x_W g s.heap H locs u) (hl : lv_has ls 2 [(0, .ref (xad g 0)), (1, .int a1)]) (h : p_X10_save a1 u Qf) : W p l e (x_rm 6 197) s m args below meth c H locs 0 0 (MQ below (x_Qi g Qf) args s 0 0 (x_A g)) (F0 m 0 ls []) := by
  unfold p_X10_save at h
  have hx := C.1
  have hb := C.2.1
  refine lv_iload_n hx hb dX10_save_0 rfl (lv_at hl 1 rfl) ?_
  refine lv_iconst (v := 0) hx hb dX10_save_1 (by decide) ?_
  refine lv_bipush (v := 12) hx hb dX10_save_2 (by decide) ?_
  refine x_callz hw (x_runS C hw (m_X10_isWithin l C.2.2.2.2.2.2.2.2.1  h) (x_gS xw_280 xw_281 xw_2 xw_282) rfl rfl qX10_isWithin ⟨(Nat.le_of_ble_eq_true rfl), (Nat.le_of_ble_eq_true rfl)⟩ rfl hl.1 rfl (Nat.le_of_ble_eq_true rfl) dX10_save_4) (fun r2 u1 H locs hw h => ?_)
  refine lv_if_ne (tgt := 16) hx hb dX10_save_7 (by decide) (fun c3 => ?_) (fun c3 => ?_)
  · have h := h.1 (xb_t c3)
    refine lv_aload_n hx hb dX10_save_16 rfl (lv_at hl 0 rfl) ?_
    refine x_getr (ci := 10) C hw 3 (xoX_0 hX) rfl inlX10 (by decide) rfl rfl xrX_0_3 xw_25 dX10_save_17 ?_
    refine lv_aload_n hx hb dX10_save_20 rfl (lv_at hl 0 rfl) ?_
    refine x_getr (ci := 10) C hw 0 (xoX_0 hX) rfl inlX10 (by decide) rfl rfl xrX_0_0 xw_16 dX10_save_21 ?_
    refine lv_iload_n hx hb dX10_save_24 rfl (lv_at hl 1 rfl) ?_
    refine x_callv hw (x_runV (ci := 6) C hw (m_X6_planPumps l C.2.2.2.2.2.2.2.2.1 hX (xpL_83 hX) h) (xoX_5 hX) rfl (x_gV xw_1671 xw_1672 xw_1673 xw_24 xw_1674) rfl rfl qX6_planPumps ⟨(Nat.le_of_ble_eq_true rfl), (Nat.le_of_ble_eq_true rfl)⟩ rfl hl.1 rfl (Nat.le_of_ble_eq_true rfl) dX10_save_25) (fun u4 H locs hw h => ?_)
    refine lv_aload_n hx hb dX10_save_28 rfl (lv_at hl 0 rfl) ?_
    refine lv_aload_n hx hb dX10_save_29 rfl (lv_at hl 0 rfl) ?_
    refine x_getr (ci := 10) C hw 3 (xoX_0 hX) rfl inlX10 (by decide) rfl rfl xrX_0_3 xw_25 dX10_save_30 ?_
    refine x_geti (ci := 6) C hw 5 (xoX_5 hX) rfl inlX6 (by decide) rfl rfl xw_1579 dX10_save_33 ?_
    refine x_calli hw (x_runV (ci := 10) C hw (m_X10_fine l C.2.2.2.2.2.2.2.2.1 hX h) (xoX_0 hX) rfl (x_gV xw_622 xw_623 xw_624 xw_2 xw_625) rfl rfl qX10_fine ⟨(Nat.le_of_ble_eq_true rfl), (Nat.le_of_ble_eq_true rfl)⟩ rfl hl.1 rfl (Nat.le_of_ble_eq_true rfl) dX10_save_36) (fun r6 u5 H locs hw h => ?_)
    exact x_iret C hw h dX10_save_39
  · have h := h.2 (xb_f c3)
    refine lv_aload_n hx hb dX10_save_10 rfl (lv_at hl 0 rfl) ?_
    refine lv_iconst (v := 1) hx hb dX10_save_11 (by decide) ?_
    refine x_calli hw (x_runV (ci := 10) C hw (m_X10_none l C.2.2.2.2.2.2.2.2.1 hX h) (xoX_0 hX) rfl (x_gV xw_343 xw_344 xw_345 xw_2 xw_346) rfl rfl qX10_none ⟨(Nat.le_of_ble_eq_true rfl), (Nat.le_of_ble_eq_true rfl)⟩ rfl hl.1 rfl (Nat.le_of_ble_eq_true rfl) dX10_save_12) (fun r8 u7 H locs hw h => ?_)
    exact x_iret C hw h dX10_save_15
set_option maxHeartbeats 4000000 in
set_option maxRecDepth 100000 in
theorem m_X10_save (l : Launch) {g : xG} (hD : x_D g) (hX : xpX g) {a1 : Int32} {u : xM} {Qf : Int32 → xM → Prop} (h : p_X10_save a1 u Qf) : Met l yX10_save (Cond.code yX10_save cX10_save 2 (some .int) :: wsL_law) (x_rm 6 197) (va_Pc [.ref (xad g 0), .int a1] (x_B g u)) (x_Qi g Qf) 0 0 (x_A g) := by
  refine Met.ofW (cc := cX10_save) (maxL := 2) (ret := (some .int)) (by decide) rfl ?_
  intro p e s m args below meth c s₁ B hml hv
  obtain ⟨rfl, hB⟩ := hv
  obtain ⟨C, hw⟩ := x_start B hml hD hB
  have hl := lv_entry [.ref (xad g 0), .int a1] (n := 2) (Nat.le_of_ble_eq_true rfl)
  rw [lg_entry_eq]
  exact s_X10_save C hX hw hl h
set_option maxHeartbeats 4000000 in
set_option maxRecDepth 100000 in
theorem s_X10_saveSet {Qf : Int32 → xM → Prop} {a1 : Int32} (C : x_C p s m args meth c g RX10 cX10_saveSet 2 (some .int)) (hX : xpX g) {u : xM} {H : Heap} {locs : List Loc} {ls : Array Slot} (hw : x_W g s.heap H locs u) (hl : lv_has ls 2 [(0, .ref (xad g 0)), (1, .int a1)]) (h : p_X10_saveSet a1 u Qf) : W p l e (x_rm 6 197) s m args below meth c H locs 0 0 (MQ below (x_Qi g Qf) args s 0 0 (x_A g)) (F0 m 0 ls []) := by
  unfold p_X10_saveSet at h
  have hx := C.1
  have hb := C.2.1
  refine lv_iload_n hx hb dX10_saveSet_0 rfl (lv_at hl 1 rfl) ?_
  refine lv_iconst (v := 0) hx hb dX10_saveSet_1 (by decide) ?_
  refine lv_bipush (v := 12) hx hb dX10_saveSet_2 (by decide) ?_
  refine x_callz hw (x_runS C hw (m_X10_isWithin l C.2.2.2.2.2.2.2.2.1  h) (x_gS xw_280 xw_281 xw_2 xw_282) rfl rfl qX10_isWithin ⟨(Nat.le_of_ble_eq_true rfl), (Nat.le_of_ble_eq_true rfl)⟩ rfl hl.1 rfl (Nat.le_of_ble_eq_true rfl) dX10_saveSet_4) (fun r2 u1 H locs hw h => ?_)
  refine lv_if_ne (tgt := 16) hx hb dX10_saveSet_7 (by decide) (fun c3 => ?_) (fun c3 => ?_)
  · have h := h.1 (xb_t c3)
    refine lv_aload_n hx hb dX10_saveSet_16 rfl (lv_at hl 0 rfl) ?_
    refine x_getr (ci := 10) C hw 3 (xoX_0 hX) rfl inlX10 (by decide) rfl rfl xrX_0_3 xw_25 dX10_saveSet_17 ?_
    refine lv_aload_n hx hb dX10_saveSet_20 rfl (lv_at hl 0 rfl) ?_
    refine x_getr (ci := 10) C hw 0 (xoX_0 hX) rfl inlX10 (by decide) rfl rfl xrX_0_0 xw_16 dX10_saveSet_21 ?_
    refine lv_iload_n hx hb dX10_saveSet_24 rfl (lv_at hl 1 rfl) ?_
    refine x_callv hw (x_runV (ci := 6) C hw (m_X6_planPumps l C.2.2.2.2.2.2.2.2.1 hX (xpL_83 hX) h) (xoX_5 hX) rfl (x_gV xw_1671 xw_1672 xw_1673 xw_24 xw_1674) rfl rfl qX6_planPumps ⟨(Nat.le_of_ble_eq_true rfl), (Nat.le_of_ble_eq_true rfl)⟩ rfl hl.1 rfl (Nat.le_of_ble_eq_true rfl) dX10_saveSet_25) (fun u4 H locs hw h => ?_)
    refine lv_aload_n hx hb dX10_saveSet_28 rfl (lv_at hl 0 rfl) ?_
    refine lv_aload_n hx hb dX10_saveSet_29 rfl (lv_at hl 0 rfl) ?_
    refine x_getr (ci := 10) C hw 3 (xoX_0 hX) rfl inlX10 (by decide) rfl rfl xrX_0_3 xw_25 dX10_saveSet_30 ?_
    refine x_geti (ci := 6) C hw 6 (xoX_5 hX) rfl inlX6 (by decide) rfl rfl xw_1693 dX10_saveSet_33 ?_
    refine x_calli hw (x_runV (ci := 10) C hw (m_X10_fine l C.2.2.2.2.2.2.2.2.1 hX h) (xoX_0 hX) rfl (x_gV xw_622 xw_623 xw_624 xw_2 xw_625) rfl rfl qX10_fine ⟨(Nat.le_of_ble_eq_true rfl), (Nat.le_of_ble_eq_true rfl)⟩ rfl hl.1 rfl (Nat.le_of_ble_eq_true rfl) dX10_saveSet_36) (fun r6 u5 H locs hw h => ?_)
    exact x_iret C hw h dX10_saveSet_39
  · have h := h.2 (xb_f c3)
    refine lv_aload_n hx hb dX10_saveSet_10 rfl (lv_at hl 0 rfl) ?_
    refine lv_iconst (v := 1) hx hb dX10_saveSet_11 (by decide) ?_
    refine x_calli hw (x_runV (ci := 10) C hw (m_X10_none l C.2.2.2.2.2.2.2.2.1 hX h) (xoX_0 hX) rfl (x_gV xw_343 xw_344 xw_345 xw_2 xw_346) rfl rfl qX10_none ⟨(Nat.le_of_ble_eq_true rfl), (Nat.le_of_ble_eq_true rfl)⟩ rfl hl.1 rfl (Nat.le_of_ble_eq_true rfl) dX10_saveSet_12) (fun r8 u7 H locs hw h => ?_)
    exact x_iret C hw h dX10_saveSet_15
set_option maxHeartbeats 4000000 in
set_option maxRecDepth 100000 in
theorem m_X10_saveSet (l : Launch) {g : xG} (hD : x_D g) (hX : xpX g) {a1 : Int32} {u : xM} {Qf : Int32 → xM → Prop} (h : p_X10_saveSet a1 u Qf) : Met l yX10_saveSet (Cond.code yX10_saveSet cX10_saveSet 2 (some .int) :: wsL_law) (x_rm 6 197) (va_Pc [.ref (xad g 0), .int a1] (x_B g u)) (x_Qi g Qf) 0 0 (x_A g) := by
  refine Met.ofW (cc := cX10_saveSet) (maxL := 2) (ret := (some .int)) (by decide) rfl ?_
  intro p e s m args below meth c s₁ B hml hv
  obtain ⟨rfl, hB⟩ := hv
  obtain ⟨C, hw⟩ := x_start B hml hD hB
  have hl := lv_entry [.ref (xad g 0), .int a1] (n := 2) (Nat.le_of_ble_eq_true rfl)
  rw [lg_entry_eq]
  exact s_X10_saveSet C hX hw hl h
set_option maxHeartbeats 4000000 in
set_option maxRecDepth 100000 in
theorem s_X10_isSetOfDoors {Qf : Bool → xM → Prop} {a1 : Int32} (C : x_C p s m args meth c g RX10 cX10_isSetOfDoors 2 (some .boolean)) (hX : xpX g) {u : xM} {H : Heap} {locs : List Loc} {ls : Array Slot} (hw : x_W g s.heap H locs u) (hl : lv_has ls 2 [(0, .ref (xad g 0)), (1, .int a1)]) (h : p_X10_isSetOfDoors a1 u Qf) : W p l e (x_rm 1 20) s m args below meth c H locs 0 0 (MQ below (x_Qz g Qf) args s 0 0 (x_A g)) (F0 m 0 ls []) := by
  unfold p_X10_isSetOfDoors at h
  have hx := C.1
  have hb := C.2.1
  refine lv_iload_n hx hb dX10_isSetOfDoors_0 rfl (lv_at hl 1 rfl) ?_
  refine lv_aload_n hx hb dX10_isSetOfDoors_1 rfl (lv_at hl 0 rfl) ?_
  refine x_getr (ci := 10) C hw 0 (xoX_0 hX) rfl inlX10 (by decide) rfl rfl xrX_0_0 xw_16 dX10_isSetOfDoors_2 ?_
  refine x_getr (ci := 1) C hw 1 (xoL_0 (xpL_83 hX)) rfl inlX1 (by decide) rfl rfl (xrL_0_1 (xpL_83 hX)) xw_398 dX10_isSetOfDoors_5 ?_
  refine x_calli hw (x_runV (ci := 0) C hw (m_X0_all l C.2.2.2.2.2.2.2.2.1 (xpL_83 hX) h) (xoL_9 (xpL_83 hX)) rfl (x_gV xw_1136 xw_1137 xw_1138 xw_61 xw_1139) rfl rfl qX0_all ⟨(Nat.le_of_ble_eq_true rfl), (Nat.le_of_ble_eq_true rfl)⟩ rfl hl.1 rfl (Nat.le_of_ble_eq_true rfl) dX10_isSetOfDoors_8) (fun r2 u1 H locs hw h => ?_)
  refine lv_iconst (v := -1) hx hb dX10_isSetOfDoors_11 (by decide) ?_
  refine lv_ixor hx hb dX10_isSetOfDoors_12 ?_
  refine lv_iand hx hb dX10_isSetOfDoors_13 ?_
  refine lv_if_ne (tgt := 21) hx hb dX10_isSetOfDoors_14 (by decide) (fun c3 => ?_) (fun c3 => ?_)
  · have h := h.1 c3
    refine lv_iconst (v := 0) hx hb dX10_isSetOfDoors_21 (by decide) ?_
    exact x_zret false C hw h rfl dX10_isSetOfDoors_22
  · have h := h.2 c3
    refine lv_iconst (v := 1) hx hb dX10_isSetOfDoors_17 (by decide) ?_
    refine lv_goto (tgt := 22) hx hb dX10_isSetOfDoors_18 (by decide) ?_
    exact x_zret true C hw h rfl dX10_isSetOfDoors_22
set_option maxHeartbeats 4000000 in
set_option maxRecDepth 100000 in
theorem m_X10_isSetOfDoors (l : Launch) {g : xG} (hD : x_D g) (hX : xpX g) {a1 : Int32} {u : xM} {Qf : Bool → xM → Prop} (h : p_X10_isSetOfDoors a1 u Qf) : Met l yX10_isSetOfDoors (Cond.code yX10_isSetOfDoors cX10_isSetOfDoors 2 (some .boolean) :: wsL_law) (x_rm 1 20) (va_Pc [.ref (xad g 0), .int a1] (x_B g u)) (x_Qz g Qf) 0 0 (x_A g) := by
  refine Met.ofW (cc := cX10_isSetOfDoors) (maxL := 2) (ret := (some .boolean)) (by decide) rfl ?_
  intro p e s m args below meth c s₁ B hml hv
  obtain ⟨rfl, hB⟩ := hv
  obtain ⟨C, hw⟩ := x_start B hml hD hB
  have hl := lv_entry [.ref (xad g 0), .int a1] (n := 2) (Nat.le_of_ble_eq_true rfl)
  rw [lg_entry_eq]
  exact s_X10_isSetOfDoors C hX hw hl h
set_option maxHeartbeats 4000000 in
set_option maxRecDepth 100000 in
theorem s_X0_openJust {o : Nat} {Qf : xM → Prop} {a1 : Int32} (C : x_C p s m args meth c g RX0 cX0_openJust 2 none) (ho : xpL g o) {u : xM} {H : Heap} {locs : List Loc} {ls : Array Slot} (hw : x_W g s.heap H locs u) (hl : lv_has ls 2 [(0, .ref (xad g (o + 9))), (1, .int a1)]) (h : p_X0_openJust o a1 u Qf) : W p l e (x_rm 1 21) s m args below meth c H locs 0 0 (MQ below (x_Qv g Qf) args s 0 0 (x_A g)) (F0 m 0 ls []) := by
  unfold p_X0_openJust at h
  have hx := C.1
  have hb := C.2.1
  refine lv_aload_n hx hb dX0_openJust_0 rfl (lv_at hl 0 rfl) ?_
  refine x_callv hw (x_runV (ci := 0) C hw (m_X0_clearRota l C.2.2.2.2.2.2.2.2.1 ho h) (xoL_9 ho) rfl (x_gV xw_423 xw_424 xw_425 xw_61 xw_426) rfl rfl qX0_clearRota ⟨(Nat.le_of_ble_eq_true rfl), (Nat.le_of_ble_eq_true rfl)⟩ rfl hl.1 rfl (Nat.le_of_ble_eq_true rfl) dX0_openJust_1) (fun u1 H locs hw h => ?_)
  refine lv_aload_n hx hb dX0_openJust_4 rfl (lv_at hl 0 rfl) ?_
  refine lv_iload_n hx hb dX0_openJust_5 rfl (lv_at hl 1 rfl) ?_
  obtain ⟨u2, eu2⟩ : ∃ q : xM, q = si u1 (o + 9) 1 a1 := ⟨_, rfl⟩
  have h := h u2 eu2
  refine x_puti (ci := 0) (ty := .int) C hw 1 (xoL_9 ho) rfl inlX0 tyX0_ok nmX0 (by decide) rfl rfl xw_421 rfl (by decide +kernel) rfl rfl dX0_openJust_6 eu2 (fun H locs hw => ?_)
  exact x_vret C hw h dX0_openJust_9
set_option maxHeartbeats 4000000 in
set_option maxRecDepth 100000 in
theorem m_X0_openJust (l : Launch) {g : xG} (hD : x_D g) {o : Nat} (ho : xpL g o) {a1 : Int32} {u : xM} {Qf : xM → Prop} (h : p_X0_openJust o a1 u Qf) : Met l yX0_openJust (Cond.code yX0_openJust cX0_openJust 2 none :: wsL_law) (x_rm 1 21) (va_Pc [.ref (xad g (o + 9)), .int a1] (x_B g u)) (x_Qv g Qf) 0 0 (x_A g) := by
  refine Met.ofW (cc := cX0_openJust) (maxL := 2) (ret := none) (by decide) rfl ?_
  intro p e s m args below meth c s₁ B hml hv
  obtain ⟨rfl, hB⟩ := hv
  obtain ⟨C, hw⟩ := x_start B hml hD hB
  have hl := lv_entry [.ref (xad g (o + 9)), .int a1] (n := 2) (Nat.le_of_ble_eq_true rfl)
  rw [lg_entry_eq]
  exact s_X0_openJust C ho hw hl h
set_option maxHeartbeats 4000000 in
set_option maxRecDepth 100000 in
theorem s_X6_damageBy {o1 : Nat} {Qf : Int32 → xM → Prop} {a2 : Int32} (C : x_C p s m args meth c g RX6 cX6_damageBy 3 (some .int)) (hX : xpX g) (ho1 : xpL g o1) {u : xM} {H : Heap} {locs : List Loc} {ls : Array Slot} (hw : x_W g s.heap H locs u) (hl : lv_has ls 3 [(0, .ref (xad g 5)), (1, .ref (xad g o1)), (2, .int a2)]) (h : p_X6_damageBy o1 a2 u Qf) : W p l e (x_rm 5 173) s m args below meth c H locs 0 0 (MQ below (x_Qi g Qf) args s 0 0 (x_A g)) (F0 m 0 ls []) := by
  unfold p_X6_damageBy at h
  have hx := C.1
  have hb := C.2.1
  refine lv_aload_n hx hb dX6_damageBy_0 rfl (lv_at hl 0 rfl) ?_
  refine x_getr (ci := 6) C hw 0 (xoX_5 hX) rfl inlX6 (by decide) rfl rfl xrX_5_0 xw_111 dX6_damageBy_1 ?_
  refine lv_aload_n hx hb dX6_damageBy_4 rfl (lv_at hl 1 rfl) ?_
  refine x_callv hw (x_runV (ci := 1) C hw (m_X1_copyFrom l C.2.2.2.2.2.2.2.2.1 (xpL_137 hX) ho1 h) (xoL_0 (xpL_137 hX)) rfl (x_gV xw_1589 xw_601 xw_602 xw_15 xw_603) rfl rfl qX1_copyFrom ⟨(Nat.le_of_ble_eq_true rfl), (Nat.le_of_ble_eq_true rfl)⟩ rfl hl.1 rfl (Nat.le_of_ble_eq_true rfl) dX6_damageBy_5) (fun u1 H locs hw h => ?_)
  refine lv_aload_n hx hb dX6_damageBy_8 rfl (lv_at hl 0 rfl) ?_
  refine x_getr (ci := 6) C hw 0 (xoX_5 hX) rfl inlX6 (by decide) rfl rfl xrX_5_0 xw_111 dX6_damageBy_9 ?_
  refine x_getr (ci := 1) C hw 1 (xoL_0 (xpL_137 hX)) rfl inlX1 (by decide) rfl rfl (xrL_0_1 (xpL_137 hX)) xw_1584 dX6_damageBy_12 ?_
  refine lv_iload_n hx hb dX6_damageBy_15 rfl (lv_at hl 2 rfl) ?_
  refine x_callv hw (x_runV (ci := 0) C hw (m_X0_openJust l C.2.2.2.2.2.2.2.2.1 (xpL_137 hX) h) (xoL_9 (xpL_137 hX)) rfl (x_gV xw_1710 xw_1711 xw_1712 xw_61 xw_1713) rfl rfl qX0_openJust ⟨(Nat.le_of_ble_eq_true rfl), (Nat.le_of_ble_eq_true rfl)⟩ rfl hl.1 rfl (Nat.le_of_ble_eq_true rfl) dX6_damageBy_16) (fun u2 H locs hw h => ?_)
  refine lv_aload_n hx hb dX6_damageBy_19 rfl (lv_at hl 0 rfl) ?_
  refine x_getr (ci := 6) C hw 0 (xoX_5 hX) rfl inlX6 (by decide) rfl rfl xrX_5_0 xw_111 dX6_damageBy_20 ?_
  refine lv_bipush (v := 12) hx hb dX6_damageBy_23 (by decide) ?_
  refine x_calli hw (x_runV (ci := 1) C hw (m_X1_waterIn l C.2.2.2.2.2.2.2.2.1 (xpL_137 hX) h) (xoL_0 (xpL_137 hX)) rfl (x_gV xw_1678 xw_1355 xw_1356 xw_15 xw_1357) rfl rfl qX1_waterIn ⟨(Nat.le_of_ble_eq_true rfl), (Nat.le_of_ble_eq_true rfl)⟩ rfl hl.1 rfl (Nat.le_of_ble_eq_true rfl) dX6_damageBy_25) (fun r4 u3 H locs hw h => ?_)
  exact x_iret C hw h dX6_damageBy_28
set_option maxHeartbeats 4000000 in
set_option maxRecDepth 100000 in
theorem m_X6_damageBy (l : Launch) {g : xG} (hD : x_D g) {o1 : Nat} (hX : xpX g) (ho1 : xpL g o1) {a2 : Int32} {u : xM} {Qf : Int32 → xM → Prop} (h : p_X6_damageBy o1 a2 u Qf) : Met l yX6_damageBy (Cond.code yX6_damageBy cX6_damageBy 3 (some .int) :: wsL_law) (x_rm 5 173) (va_Pc [.ref (xad g 5), .ref (xad g o1), .int a2] (x_B g u)) (x_Qi g Qf) 0 0 (x_A g) := by
  refine Met.ofW (cc := cX6_damageBy) (maxL := 3) (ret := (some .int)) (by decide) rfl ?_
  intro p e s m args below meth c s₁ B hml hv
  obtain ⟨rfl, hB⟩ := hv
  obtain ⟨C, hw⟩ := x_start B hml hD hB
  have hl := lv_entry [.ref (xad g 5), .ref (xad g o1), .int a2] (n := 3) (Nat.le_of_ble_eq_true rfl)
  rw [lg_entry_eq]
  exact s_X6_damageBy C hX ho1 hw hl h
set_option maxHeartbeats 4000000 in
set_option maxRecDepth 100000 in
theorem s_X10_damage {Qf : Int32 → xM → Prop} {a1 : Int32} (C : x_C p s m args meth c g RX10 cX10_damage 2 (some .int)) (hX : xpX g) {u : xM} {H : Heap} {locs : List Loc} {ls : Array Slot} (hw : x_W g s.heap H locs u) (hl : lv_has ls 2 [(0, .ref (xad g 0)), (1, .int a1)]) (h : p_X10_damage a1 u Qf) : W p l e (x_rm 6 195) s m args below meth c H locs 0 0 (MQ below (x_Qi g Qf) args s 0 0 (x_A g)) (F0 m 0 ls []) := by
  unfold p_X10_damage at h
  have hx := C.1
  have hb := C.2.1
  refine lv_aload_n hx hb dX10_damage_0 rfl (lv_at hl 0 rfl) ?_
  refine lv_iload_n hx hb dX10_damage_1 rfl (lv_at hl 1 rfl) ?_
  refine x_callz hw (x_runV (ci := 10) C hw (m_X10_isSetOfDoors l C.2.2.2.2.2.2.2.2.1 hX h) (xoX_0 hX) rfl (x_gV xw_1702 xw_1703 xw_1704 xw_2 xw_1705) rfl rfl qX10_isSetOfDoors ⟨(Nat.le_of_ble_eq_true rfl), (Nat.le_of_ble_eq_true rfl)⟩ rfl hl.1 rfl (Nat.le_of_ble_eq_true rfl) dX10_damage_2) (fun r2 u1 H locs hw h => ?_)
  refine lv_if_eq (tgt := 27) hx hb dX10_damage_5 (by decide) (fun c3 => ?_) (fun c3 => ?_)
  · have h := h.1 (xb_f c3)
    refine lv_aload_n hx hb dX10_damage_27 rfl (lv_at hl 0 rfl) ?_
    refine lv_iconst (v := 1) hx hb dX10_damage_28 (by decide) ?_
    refine x_calli hw (x_runV (ci := 10) C hw (m_X10_none l C.2.2.2.2.2.2.2.2.1 hX h) (xoX_0 hX) rfl (x_gV xw_343 xw_344 xw_345 xw_2 xw_346) rfl rfl qX10_none ⟨(Nat.le_of_ble_eq_true rfl), (Nat.le_of_ble_eq_true rfl)⟩ rfl hl.1 rfl (Nat.le_of_ble_eq_true rfl) dX10_damage_29) (fun r5 u4 H locs hw h => ?_)
    exact x_iret C hw h dX10_damage_32
  · have h := h.2 (xb_t c3)
    refine lv_aload_n hx hb dX10_damage_8 rfl (lv_at hl 0 rfl) ?_
    refine lv_aload_n hx hb dX10_damage_9 rfl (lv_at hl 0 rfl) ?_
    refine x_getr (ci := 10) C hw 3 (xoX_0 hX) rfl inlX10 (by decide) rfl rfl xrX_0_3 xw_25 dX10_damage_10 ?_
    refine lv_aload_n hx hb dX10_damage_13 rfl (lv_at hl 0 rfl) ?_
    refine x_getr (ci := 10) C hw 0 (xoX_0 hX) rfl inlX10 (by decide) rfl rfl xrX_0_0 xw_16 dX10_damage_14 ?_
    refine lv_iload_n hx hb dX10_damage_17 rfl (lv_at hl 1 rfl) ?_
    refine x_calli hw (x_runV (ci := 6) C hw (m_X6_damageBy l C.2.2.2.2.2.2.2.2.1 hX (xpL_83 hX) h) (xoX_5 hX) rfl (x_gV xw_1706 xw_1707 xw_1708 xw_24 xw_1709) rfl rfl qX6_damageBy ⟨(Nat.le_of_ble_eq_true rfl), (Nat.le_of_ble_eq_true rfl)⟩ rfl hl.1 rfl (Nat.le_of_ble_eq_true rfl) dX10_damage_18) (fun r7 u6 H locs hw h => ?_)
    refine x_calli hw (x_runV (ci := 10) C hw (m_X10_fine l C.2.2.2.2.2.2.2.2.1 hX h) (xoX_0 hX) rfl (x_gV xw_622 xw_623 xw_624 xw_2 xw_625) rfl rfl qX10_fine ⟨(Nat.le_of_ble_eq_true rfl), (Nat.le_of_ble_eq_true rfl)⟩ rfl hl.1 rfl (Nat.le_of_ble_eq_true rfl) dX10_damage_21) (fun r9 u8 H locs hw h => ?_)
    refine lv_goto (tgt := 32) hx hb dX10_damage_24 (by decide) ?_
    exact x_iret C hw h dX10_damage_32
set_option maxHeartbeats 4000000 in
set_option maxRecDepth 100000 in
theorem m_X10_damage (l : Launch) {g : xG} (hD : x_D g) (hX : xpX g) {a1 : Int32} {u : xM} {Qf : Int32 → xM → Prop} (h : p_X10_damage a1 u Qf) : Met l yX10_damage (Cond.code yX10_damage cX10_damage 2 (some .int) :: wsL_law) (x_rm 6 195) (va_Pc [.ref (xad g 0), .int a1] (x_B g u)) (x_Qi g Qf) 0 0 (x_A g) := by
  refine Met.ofW (cc := cX10_damage) (maxL := 2) (ret := (some .int)) (by decide) rfl ?_
  intro p e s m args below meth c s₁ B hml hv
  obtain ⟨rfl, hB⟩ := hv
  obtain ⟨C, hw⟩ := x_start B hml hD hB
  have hl := lv_entry [.ref (xad g 0), .int a1] (n := 2) (Nat.le_of_ble_eq_true rfl)
  rw [lg_entry_eq]
  exact s_X10_damage C hX hw hl h
set_option maxHeartbeats 4000000 in
set_option maxRecDepth 100000 in
theorem s_X6_ordersOf {Qf : Int32 → xM → Prop} {a1 : Int32} (C : x_C p s m args meth c g RX6 cX6_ordersOf 2 (some .int)) {u : xM} {H : Heap} {locs : List Loc} {ls : Array Slot} (hw : x_W g s.heap H locs u) (hl : lv_has ls 2 [(0, .int a1)]) (h : p_X6_ordersOf a1 u Qf) : W p l e (x_rm 1 20) s m args below meth c H locs 0 0 (MQ below (x_Qi g Qf) args s 0 0 (x_A g)) (F0 m 0 ls []) := by
  unfold p_X6_ordersOf at h
  have hx := C.1
  have hb := C.2.1
  refine lv_iload_n hx hb dX6_ordersOf_0 rfl (lv_at hl 0 rfl) ?_
  refine x_calli hw (x_runS C hw (m_J6_bitCount_0f7a4 l C.2.2.2.2.2.2.2.2.1  h) (x_gS xw_1556 xw_1310 xw_1311 xw_1312) rfl rfl qJ6_bitCount_0f7a4 ⟨(Nat.le_of_ble_eq_true rfl), (Nat.le_of_ble_eq_true rfl)⟩ rfl hl.1 rfl (Nat.le_of_ble_eq_true rfl) dX6_ordersOf_1) (fun r2 u1 H locs hw h => ?_)
  refine lv_istore_n (lv' := [(1, .int r2), (0, .int a1)]) hx hb dX6_ordersOf_4 rfl hl (by decide) rfl (fun ls hl => ?_)
  refine lv_iload_n hx hb dX6_ordersOf_5 rfl (lv_at hl 0 rfl) ?_
  refine va_gets hx hb C.2.2.2.2.2.2.2.2.2.2.1 hw.2 C.2.2.2.1 (C.2.2.2.2.1 _ xw_1737) (fun _ h9 => h9) dX6_ordersOf_6 ?_
  refine va_tlen hx hb C.2.2.2.2.2.2.2.2.2.2.2.1 hw.2 rfl dX6_ordersOf_9 ?_
  refine lv_icmp_ge (tgt := 21) hx hb dX6_ordersOf_10 (by decide) (fun c3 => ?_) (fun c3 => ?_)
  · have h := h.1 c3
    refine lv_iconst (v := 1) hx hb dX6_ordersOf_21 (by decide) ?_
    exact x_iret C hw h dX6_ordersOf_22
  · have h := h.2 c3
    refine va_gets hx hb C.2.2.2.2.2.2.2.2.2.2.1 hw.2 C.2.2.2.1 (C.2.2.2.2.1 _ xw_1737) (fun _ h9 => h9) dX6_ordersOf_13 ?_
    refine lv_iload_n hx hb dX6_ordersOf_16 rfl (lv_at hl 0 rfl) ?_
    have c4 := h.1
    have h := h.2
    refine va_ti hx hb C.2.2.2.2.2.2.2.2.2.2.2.1 hw.2 c4 rfl dX6_ordersOf_17 ?_
    refine lv_goto (tgt := 22) hx hb dX6_ordersOf_18 (by decide) ?_
    exact x_iret C hw h dX6_ordersOf_22
set_option maxHeartbeats 4000000 in
set_option maxRecDepth 100000 in
theorem m_X6_ordersOf (l : Launch) {g : xG} (hD : x_D g) {a1 : Int32} {u : xM} {Qf : Int32 → xM → Prop} (h : p_X6_ordersOf a1 u Qf) : Met l yX6_ordersOf (Cond.code yX6_ordersOf cX6_ordersOf 2 (some .int) :: wsL_law) (x_rm 1 20) (va_Pc [.int a1] (x_B g u)) (x_Qi g Qf) 0 0 (x_A g) := by
  refine Met.ofW (cc := cX6_ordersOf) (maxL := 2) (ret := (some .int)) (by decide) rfl ?_
  intro p e s m args below meth c s₁ B hml hv
  obtain ⟨rfl, hB⟩ := hv
  obtain ⟨C, hw⟩ := x_start B hml hD hB
  have hl := lv_entry [.int a1] (n := 2) (Nat.le_of_ble_eq_true rfl)
  rw [lg_entry_eq]
  exact s_X6_ordersOf C hw hl h
set_option maxHeartbeats 4000000 in
set_option maxRecDepth 100000 in
theorem s_X6_shareOfOrders_L15 {o1 : Nat} {Qf : Int64 → xM → Prop} (C : x_C p s m args meth c g RX6 cX6_shareOfOrders 10 (some .long)) (hX : xpX g) (ho1 : xpL g o1) : ∀ (nn : Nat) {v2 : Int32} {v4 : Int32} {v5 : Int64} {v7 : Int32} {u : xM} {H : Heap} {locs : List Loc} {ls : Array Slot} (hw : x_W g s.heap H locs u) (hl : lv_has ls 10 [(0, .ref (xad g 5)), (1, .ref (xad g o1)), (2, .int v2), (4, .int v4), (5, .long v5), (7, .int v7)]) (h : p_X6_shareOfOrders_L15 o1 Qf nn v2 v4 v5 v7 u), W p l e (x_rm 6 195) s m args below meth c H locs 0 0 (MQ below (x_Ql g Qf) args s 0 0 (x_A g)) (F0 m 15 ls []) := by
  intro nn
  induction nn with
  | zero => intro v2 v4 v5 v7 u H locs ls hw hl h; exact h.elim
  | succ nn ih =>
    intro v2 v4 v5 v7 u H locs ls hw hl h
    unfold p_X6_shareOfOrders_L15 at h
    have hx := C.1
    have hb := C.2.1
    refine lv_iload hx hb dX6_shareOfOrders_15 (lv_at hl 5 rfl) ?_
    refine lv_iload hx hb dX6_shareOfOrders_17 (lv_at hl 3 rfl) ?_
    refine lv_icmp_gt (tgt := 86) hx hb dX6_shareOfOrders_19 (by decide) (fun c1 => ?_) (fun c1 => ?_)
    · have h := h.1 c1
      refine lv_lload hx hb dX6_shareOfOrders_86 (lv_at hl 4 rfl) ?_
      exact x_lret C hw h dX6_shareOfOrders_88
    · have h := h.2 c1
      refine lv_iload hx hb dX6_shareOfOrders_22 (lv_at hl 5 rfl) ?_
      refine lv_iload hx hb dX6_shareOfOrders_24 (lv_at hl 3 rfl) ?_
      refine lv_iconst (v := -1) hx hb dX6_shareOfOrders_26 (by decide) ?_
      refine lv_ixor hx hb dX6_shareOfOrders_27 ?_
      refine lv_iand hx hb dX6_shareOfOrders_28 ?_
      refine lv_if_ne (tgt := 80) hx hb dX6_shareOfOrders_29 (by decide) (fun c2 => ?_) (fun c2 => ?_)
      · have h := h.1 c2
        obtain ⟨x3, ex3⟩ : ∃ y : Int32, y = v7 + 1 := ⟨_, rfl⟩
        have h := h x3 ex3
        refine lv_iinc (v := x3) (lv' := [(7, .int x3), (0, .ref (xad g 5)), (1, .ref (xad g o1)), (2, .int v2), (4, .int v4), (5, .long v5)]) hx hb dX6_shareOfOrders_80 hl (k := 5) rfl (by rw [ex3]; rfl) (by decide) rfl (fun ls hl => ?_)
        refine lv_goto (tgt := 15) hx hb dX6_shareOfOrders_83 (by decide) ?_
        exact ih hw (lv_sub hl [1, 2, 3, 4, 5, 0] rfl) h
      · have h := h.2 c2
        refine lv_iload hx hb dX6_shareOfOrders_32 (lv_at hl 5 rfl) ?_
        refine x_calli hw (x_runS C hw (m_X6_ordersOf l C.2.2.2.2.2.2.2.2.1  h) (x_gS xw_1734 xw_1735 xw_24 xw_1736) rfl rfl qX6_ordersOf ⟨(Nat.le_of_ble_eq_true rfl), (Nat.le_of_ble_eq_true rfl)⟩ rfl hl.1 rfl (Nat.le_of_ble_eq_true rfl) dX6_shareOfOrders_34) (fun r5 u4 H locs hw h => ?_)
        refine lv_i2l hx hb dX6_shareOfOrders_37 rfl ?_
        refine lv_iload hx hb dX6_shareOfOrders_38 (lv_at hl 3 rfl) ?_
        refine lv_iload hx hb dX6_shareOfOrders_40 (lv_at hl 5 rfl) ?_
        refine lv_iconst (v := -1) hx hb dX6_shareOfOrders_42 (by decide) ?_
        refine lv_ixor hx hb dX6_shareOfOrders_43 ?_
        refine lv_iand hx hb dX6_shareOfOrders_44 ?_
        refine x_calli hw (x_runS C hw (m_X6_ordersOf l C.2.2.2.2.2.2.2.2.1  h) (x_gS xw_1734 xw_1735 xw_24 xw_1736) rfl rfl qX6_ordersOf ⟨(Nat.le_of_ble_eq_true rfl), (Nat.le_of_ble_eq_true rfl)⟩ rfl hl.1 rfl (Nat.le_of_ble_eq_true rfl) dX6_shareOfOrders_45) (fun r7 u6 H locs hw h => ?_)
        refine lv_i2l hx hb dX6_shareOfOrders_48 rfl ?_
        refine lv_lmul hx hb dX6_shareOfOrders_49 ?_
        refine lv_topl (fun x8 ex8 => ?_)
        have h := h x8 ex8
        refine lv_lstore (lv' := [(8, .long x8), (0, .ref (xad g 5)), (1, .ref (xad g o1)), (2, .int v2), (4, .int v4), (5, .long v5), (7, .int v7)]) hx hb dX6_shareOfOrders_50 hl (by decide) rfl (fun ls hl => ?_)
        refine lv_lload hx hb dX6_shareOfOrders_52 (lv_at hl 5 rfl) ?_
        refine lv_lload hx hb dX6_shareOfOrders_54 (lv_at hl 0 rfl) ?_
        refine lv_aload_n hx hb dX6_shareOfOrders_56 rfl (lv_at hl 1 rfl) ?_
        refine lv_aload_n hx hb dX6_shareOfOrders_57 rfl (lv_at hl 2 rfl) ?_
        refine lv_iload hx hb dX6_shareOfOrders_58 (lv_at hl 6 rfl) ?_
        refine lv_iconst (v := 1) hx hb dX6_shareOfOrders_60 (by decide) ?_
        refine lv_iload_n hx hb dX6_shareOfOrders_61 rfl (lv_at hl 3 rfl) ?_
        refine lv_ishl hx hb dX6_shareOfOrders_62 ?_
        refine lv_ior hx hb dX6_shareOfOrders_63 ?_
        refine x_calli hw (x_runV (ci := 6) C hw (m_X6_damageBy l C.2.2.2.2.2.2.2.2.1 hX ho1 h) (xoX_5 hX) rfl (x_gV xw_1738 xw_1707 xw_1708 xw_24 xw_1709) rfl rfl qX6_damageBy ⟨(Nat.le_of_ble_eq_true rfl), (Nat.le_of_ble_eq_true rfl)⟩ rfl hl.1 rfl (Nat.le_of_ble_eq_true rfl) dX6_shareOfOrders_64) (fun r10 u9 H locs hw h => ?_)
        refine lv_aload_n hx hb dX6_shareOfOrders_67 rfl (lv_at hl 1 rfl) ?_
        refine lv_aload_n hx hb dX6_shareOfOrders_68 rfl (lv_at hl 2 rfl) ?_
        refine lv_iload hx hb dX6_shareOfOrders_69 (lv_at hl 6 rfl) ?_
        refine x_calli hw (x_runV (ci := 6) C hw (m_X6_damageBy l C.2.2.2.2.2.2.2.2.1 hX ho1 h) (xoX_5 hX) rfl (x_gV xw_1738 xw_1707 xw_1708 xw_24 xw_1709) rfl rfl qX6_damageBy ⟨(Nat.le_of_ble_eq_true rfl), (Nat.le_of_ble_eq_true rfl)⟩ rfl hl.1 rfl (Nat.le_of_ble_eq_true rfl) dX6_shareOfOrders_71) (fun r12 u11 H locs hw h => ?_)
        refine lv_isub hx hb dX6_shareOfOrders_74 ?_
        refine lv_i2l hx hb dX6_shareOfOrders_75 rfl ?_
        refine lv_lmul hx hb dX6_shareOfOrders_76 ?_
        refine lv_ladd hx hb dX6_shareOfOrders_77 ?_
        refine lv_topl (fun x13 ex13 => ?_)
        have h := h x13 ex13
        refine lv_lstore (lv' := [(5, .long x13), (8, .long x8), (0, .ref (xad g 5)), (1, .ref (xad g o1)), (2, .int v2), (4, .int v4), (7, .int v7)]) hx hb dX6_shareOfOrders_78 hl (by decide) rfl (fun ls hl => ?_)
        obtain ⟨x14, ex14⟩ : ∃ y : Int32, y = v7 + 1 := ⟨_, rfl⟩
        have h := h x14 ex14
        refine lv_iinc (v := x14) (lv' := [(7, .int x14), (5, .long x13), (8, .long x8), (0, .ref (xad g 5)), (1, .ref (xad g o1)), (2, .int v2), (4, .int v4)]) hx hb dX6_shareOfOrders_80 hl (k := 6) rfl (by rw [ex14]; rfl) (by decide) rfl (fun ls hl => ?_)
        refine lv_goto (tgt := 15) hx hb dX6_shareOfOrders_83 (by decide) ?_
        exact ih hw (lv_sub hl [3, 4, 5, 6, 1, 0] rfl) h
set_option maxHeartbeats 4000000 in
set_option maxRecDepth 100000 in
theorem s_X6_shareOfOrders {o1 : Nat} {Qf : Int64 → xM → Prop} {a2 : Int32} {a3 : Int32} (C : x_C p s m args meth c g RX6 cX6_shareOfOrders 10 (some .long)) (hX : xpX g) (ho1 : xpL g o1) {u : xM} {H : Heap} {locs : List Loc} {ls : Array Slot} (hw : x_W g s.heap H locs u) (hl : lv_has ls 10 [(0, .ref (xad g 5)), (1, .ref (xad g o1)), (2, .int a2), (3, .int a3)]) (h : p_X6_shareOfOrders o1 a2 a3 u Qf) : W p l e (x_rm 6 195) s m args below meth c H locs 0 0 (MQ below (x_Ql g Qf) args s 0 0 (x_A g)) (F0 m 0 ls []) := by
  unfold p_X6_shareOfOrders at h
  have hx := C.1
  have hb := C.2.1
  refine lv_iload_n hx hb dX6_shareOfOrders_0 rfl (lv_at hl 3 rfl) ?_
  refine lv_iconst (v := 1) hx hb dX6_shareOfOrders_1 (by decide) ?_
  refine lv_iload_n hx hb dX6_shareOfOrders_2 rfl (lv_at hl 2 rfl) ?_
  refine lv_ishl hx hb dX6_shareOfOrders_3 ?_
  refine lv_iconst (v := -1) hx hb dX6_shareOfOrders_4 (by decide) ?_
  refine lv_ixor hx hb dX6_shareOfOrders_5 ?_
  refine lv_iand hx hb dX6_shareOfOrders_6 ?_
  refine lv_topi (fun x1 ex1 => ?_)
  have h := h x1 ex1
  refine lv_istore (lv' := [(4, .int x1), (0, .ref (xad g 5)), (1, .ref (xad g o1)), (2, .int a2), (3, .int a3)]) hx hb dX6_shareOfOrders_7 hl (by decide) rfl (fun ls hl => ?_)
  refine lv_lconst (v := 0) hx hb dX6_shareOfOrders_9 (by decide) ?_
  refine lv_lstore (lv' := [(5, .long 0), (4, .int x1), (0, .ref (xad g 5)), (1, .ref (xad g o1)), (2, .int a2), (3, .int a3)]) hx hb dX6_shareOfOrders_10 hl (by decide) rfl (fun ls hl => ?_)
  refine lv_iconst (v := 0) hx hb dX6_shareOfOrders_12 (by decide) ?_
  refine lv_istore (lv' := [(7, .int 0), (5, .long 0), (4, .int x1), (0, .ref (xad g 5)), (1, .ref (xad g o1)), (2, .int a2), (3, .int a3)]) hx hb dX6_shareOfOrders_13 hl (by decide) rfl (fun ls hl => ?_)
  obtain ⟨n9, h⟩ := h
  exact s_X6_shareOfOrders_L15 C hX ho1 n9 hw (lv_sub hl [3, 4, 5, 2, 1, 0] rfl) h
set_option maxHeartbeats 4000000 in
set_option maxRecDepth 100000 in
theorem m_X6_shareOfOrders (l : Launch) {g : xG} (hD : x_D g) {o1 : Nat} (hX : xpX g) (ho1 : xpL g o1) {a2 : Int32} {a3 : Int32} {u : xM} {Qf : Int64 → xM → Prop} (h : p_X6_shareOfOrders o1 a2 a3 u Qf) : Met l yX6_shareOfOrders (Cond.code yX6_shareOfOrders cX6_shareOfOrders 10 (some .long) :: wsL_law) (x_rm 6 195) (va_Pc [.ref (xad g 5), .ref (xad g o1), .int a2, .int a3] (x_B g u)) (x_Ql g Qf) 0 0 (x_A g) := by
  refine Met.ofW (cc := cX6_shareOfOrders) (maxL := 10) (ret := (some .long)) (by decide) rfl ?_
  intro p e s m args below meth c s₁ B hml hv
  obtain ⟨rfl, hB⟩ := hv
  obtain ⟨C, hw⟩ := x_start B hml hD hB
  have hl := lv_entry [.ref (xad g 5), .ref (xad g o1), .int a2, .int a3] (n := 10) (Nat.le_of_ble_eq_true rfl)
  rw [lg_entry_eq]
  exact s_X6_shareOfOrders C hX ho1 hw hl h
set_option maxHeartbeats 4000000 in
set_option maxRecDepth 100000 in
theorem s_X10_guilt {Qf : Bool → xM → Prop} {a1 : Int32} {a2 : Int32} (C : x_C p s m args meth c g RX10 cX10_guilt 3 (some .boolean)) (hX : xpX g) {u : xM} {H : Heap} {locs : List Loc} {ls : Array Slot} (hw : x_W g s.heap H locs u) (hl : lv_has ls 3 [(0, .ref (xad g 0)), (1, .int a1), (2, .int a2)]) (h : p_X10_guilt a1 a2 u Qf) : W p l e (x_rm 7 224) s m args below meth c H locs 0 0 (MQ below (x_Qz g Qf) args s 0 0 (x_A g)) (F0 m 0 ls []) := by
  unfold p_X10_guilt at h
  have hx := C.1
  have hb := C.2.1
  refine lv_aload_n hx hb dX10_guilt_0 rfl (lv_at hl 0 rfl) ?_
  refine lv_iload_n hx hb dX10_guilt_1 rfl (lv_at hl 1 rfl) ?_
  refine x_callz hw (x_runV (ci := 10) C hw (m_X10_isDoor l C.2.2.2.2.2.2.2.2.1 hX h) (xoX_0 hX) rfl (x_gV xw_962 xw_963 xw_964 xw_2 xw_965) rfl rfl qX10_isDoor ⟨(Nat.le_of_ble_eq_true rfl), (Nat.le_of_ble_eq_true rfl)⟩ rfl hl.1 rfl (Nat.le_of_ble_eq_true rfl) dX10_guilt_2) (fun r2 u1 H locs hw h => ?_)
  refine lv_if_eq (tgt := 32) hx hb dX10_guilt_5 (by decide) (fun c3 => ?_) (fun c3 => ?_)
  · have h := h.1 (xb_f c3)
    refine lv_aload_n hx hb dX10_guilt_32 rfl (lv_at hl 0 rfl) ?_
    refine lv_iconst (v := 1) hx hb dX10_guilt_33 (by decide) ?_
    refine x_callz hw (x_runV (ci := 10) C hw (m_X10_refused l C.2.2.2.2.2.2.2.2.1 hX h) (xoX_0 hX) rfl (x_gV xw_283 xw_284 xw_285 xw_2 xw_286) rfl rfl qX10_refused ⟨(Nat.le_of_ble_eq_true rfl), (Nat.le_of_ble_eq_true rfl)⟩ rfl hl.1 rfl (Nat.le_of_ble_eq_true rfl) dX10_guilt_34) (fun r5 u4 H locs hw h => ?_)
    exact x_zret _ C hw h rfl dX10_guilt_37
  · have h := h.2 (xb_t c3)
    refine lv_aload_n hx hb dX10_guilt_8 rfl (lv_at hl 0 rfl) ?_
    refine lv_iload_n hx hb dX10_guilt_9 rfl (lv_at hl 2 rfl) ?_
    refine x_callz hw (x_runV (ci := 10) C hw (m_X10_isSetOfDoors l C.2.2.2.2.2.2.2.2.1 hX h) (xoX_0 hX) rfl (x_gV xw_1702 xw_1703 xw_1704 xw_2 xw_1705) rfl rfl qX10_isSetOfDoors ⟨(Nat.le_of_ble_eq_true rfl), (Nat.le_of_ble_eq_true rfl)⟩ rfl hl.1 rfl (Nat.le_of_ble_eq_true rfl) dX10_guilt_10) (fun r7 u6 H locs hw h => ?_)
    refine lv_if_eq (tgt := 32) hx hb dX10_guilt_13 (by decide) (fun c8 => ?_) (fun c8 => ?_)
    · have h := h.1 (xb_f c8)
      refine lv_aload_n hx hb dX10_guilt_32 rfl (lv_at hl 0 rfl) ?_
      refine lv_iconst (v := 1) hx hb dX10_guilt_33 (by decide) ?_
      refine x_callz hw (x_runV (ci := 10) C hw (m_X10_refused l C.2.2.2.2.2.2.2.2.1 hX h) (xoX_0 hX) rfl (x_gV xw_283 xw_284 xw_285 xw_2 xw_286) rfl rfl qX10_refused ⟨(Nat.le_of_ble_eq_true rfl), (Nat.le_of_ble_eq_true rfl)⟩ rfl hl.1 rfl (Nat.le_of_ble_eq_true rfl) dX10_guilt_34) (fun r10 u9 H locs hw h => ?_)
      exact x_zret _ C hw h rfl dX10_guilt_37
    · have h := h.2 (xb_t c8)
      refine lv_iload_n hx hb dX10_guilt_16 rfl (lv_at hl 2 rfl) ?_
      refine lv_iload_n hx hb dX10_guilt_17 rfl (lv_at hl 1 rfl) ?_
      refine lv_ishr hx hb dX10_guilt_18 ?_
      refine lv_iconst (v := 1) hx hb dX10_guilt_19 (by decide) ?_
      refine lv_iand hx hb dX10_guilt_20 ?_
      refine lv_if_eq (tgt := 32) hx hb dX10_guilt_21 (by decide) (fun c11 => ?_) (fun c11 => ?_)
      · have h := h.1 c11
        refine lv_aload_n hx hb dX10_guilt_32 rfl (lv_at hl 0 rfl) ?_
        refine lv_iconst (v := 1) hx hb dX10_guilt_33 (by decide) ?_
        refine x_callz hw (x_runV (ci := 10) C hw (m_X10_refused l C.2.2.2.2.2.2.2.2.1 hX h) (xoX_0 hX) rfl (x_gV xw_283 xw_284 xw_285 xw_2 xw_286) rfl rfl qX10_refused ⟨(Nat.le_of_ble_eq_true rfl), (Nat.le_of_ble_eq_true rfl)⟩ rfl hl.1 rfl (Nat.le_of_ble_eq_true rfl) dX10_guilt_34) (fun r13 u12 H locs hw h => ?_)
        exact x_zret _ C hw h rfl dX10_guilt_37
      · have h := h.2 c11
        refine lv_iload_n hx hb dX10_guilt_24 rfl (lv_at hl 2 rfl) ?_
        refine x_calli hw (x_runS C hw (m_J6_bitCount_0f7a4 l C.2.2.2.2.2.2.2.2.1  h) (x_gS xw_1309 xw_1310 xw_1311 xw_1312) rfl rfl qJ6_bitCount_0f7a4 ⟨(Nat.le_of_ble_eq_true rfl), (Nat.le_of_ble_eq_true rfl)⟩ rfl hl.1 rfl (Nat.le_of_ble_eq_true rfl) dX10_guilt_25) (fun r15 u14 H locs hw h => ?_)
        refine lv_iconst (v := 5) hx hb dX10_guilt_28 (by decide) ?_
        refine lv_icmp_le (tgt := 38) hx hb dX10_guilt_29 (by decide) (fun c16 => ?_) (fun c16 => ?_)
        · have h := h.1 c16
          refine lv_aload_n hx hb dX10_guilt_38 rfl (lv_at hl 0 rfl) ?_
          refine lv_aload_n hx hb dX10_guilt_39 rfl (lv_at hl 0 rfl) ?_
          refine x_getr (ci := 10) C hw 3 (xoX_0 hX) rfl inlX10 (by decide) rfl rfl xrX_0_3 xw_25 dX10_guilt_40 ?_
          refine lv_aload_n hx hb dX10_guilt_43 rfl (lv_at hl 0 rfl) ?_
          refine x_getr (ci := 10) C hw 0 (xoX_0 hX) rfl inlX10 (by decide) rfl rfl xrX_0_0 xw_16 dX10_guilt_44 ?_
          refine lv_iload_n hx hb dX10_guilt_47 rfl (lv_at hl 1 rfl) ?_
          refine lv_iload_n hx hb dX10_guilt_48 rfl (lv_at hl 2 rfl) ?_
          refine x_calll hw (x_runV (ci := 6) C hw (m_X6_shareOfOrders l C.2.2.2.2.2.2.2.2.1 hX (xpL_83 hX) h) (xoX_5 hX) rfl (x_gV xw_1730 xw_1731 xw_1732 xw_24 xw_1733) rfl rfl qX6_shareOfOrders ⟨(Nat.le_of_ble_eq_true rfl), (Nat.le_of_ble_eq_true rfl)⟩ rfl hl.1 rfl (Nat.le_of_ble_eq_true rfl) dX10_guilt_49) (fun r18 u17 H locs hw h => ?_)
          refine lv_iload_n hx hb dX10_guilt_52 rfl (lv_at hl 2 rfl) ?_
          refine x_calli hw (x_runS C hw (m_X6_ordersOf l C.2.2.2.2.2.2.2.2.1  h) (x_gS xw_1739 xw_1735 xw_24 xw_1736) rfl rfl qX6_ordersOf ⟨(Nat.le_of_ble_eq_true rfl), (Nat.le_of_ble_eq_true rfl)⟩ rfl hl.1 rfl (Nat.le_of_ble_eq_true rfl) dX10_guilt_53) (fun r20 u19 H locs hw h => ?_)
          refine lv_i2l hx hb dX10_guilt_56 rfl ?_
          refine x_callv hw (x_runV (ci := 10) C hw (m_X10_tellFraction l C.2.2.2.2.2.2.2.2.1 hX h) (xoX_0 hX) rfl (x_gV xw_1740 xw_1741 xw_1742 xw_2 xw_1743) rfl rfl qX10_tellFraction ⟨(Nat.le_of_ble_eq_true rfl), (Nat.le_of_ble_eq_true rfl)⟩ rfl hl.1 rfl (Nat.le_of_ble_eq_true rfl) dX10_guilt_57) (fun u21 H locs hw h => ?_)
          refine lv_aload_n hx hb dX10_guilt_60 rfl (lv_at hl 0 rfl) ?_
          refine x_callz hw (x_runV (ci := 10) C hw (m_X10_done l C.2.2.2.2.2.2.2.2.1 hX h) (xoX_0 hX) rfl (x_gV xw_292 xw_293 xw_294 xw_2 xw_295) rfl rfl qX10_done ⟨(Nat.le_of_ble_eq_true rfl), (Nat.le_of_ble_eq_true rfl)⟩ rfl hl.1 rfl (Nat.le_of_ble_eq_true rfl) dX10_guilt_61) (fun r23 u22 H locs hw h => ?_)
          exact x_zret _ C hw h rfl dX10_guilt_64
        · have h := h.2 c16
          refine lv_aload_n hx hb dX10_guilt_32 rfl (lv_at hl 0 rfl) ?_
          refine lv_iconst (v := 1) hx hb dX10_guilt_33 (by decide) ?_
          refine x_callz hw (x_runV (ci := 10) C hw (m_X10_refused l C.2.2.2.2.2.2.2.2.1 hX h) (xoX_0 hX) rfl (x_gV xw_283 xw_284 xw_285 xw_2 xw_286) rfl rfl qX10_refused ⟨(Nat.le_of_ble_eq_true rfl), (Nat.le_of_ble_eq_true rfl)⟩ rfl hl.1 rfl (Nat.le_of_ble_eq_true rfl) dX10_guilt_34) (fun r25 u24 H locs hw h => ?_)
          exact x_zret _ C hw h rfl dX10_guilt_37
set_option maxHeartbeats 4000000 in
set_option maxRecDepth 100000 in
theorem m_X10_guilt (l : Launch) {g : xG} (hD : x_D g) (hX : xpX g) {a1 : Int32} {a2 : Int32} {u : xM} {Qf : Bool → xM → Prop} (h : p_X10_guilt a1 a2 u Qf) : Met l yX10_guilt (Cond.code yX10_guilt cX10_guilt 3 (some .boolean) :: wsL_law) (x_rm 7 224) (va_Pc [.ref (xad g 0), .int a1, .int a2] (x_B g u)) (x_Qz g Qf) 0 0 (x_A g) := by
  refine Met.ofW (cc := cX10_guilt) (maxL := 3) (ret := (some .boolean)) (by decide) rfl ?_
  intro p e s m args below meth c s₁ B hml hv
  obtain ⟨rfl, hB⟩ := hv
  obtain ⟨C, hw⟩ := x_start B hml hD hB
  have hl := lv_entry [.ref (xad g 0), .int a1, .int a2] (n := 3) (Nat.le_of_ble_eq_true rfl)
  rw [lg_entry_eq]
  exact s_X10_guilt C hX hw hl h
set_option maxHeartbeats 4000000 in
set_option maxRecDepth 100000 in
theorem s_X6_findPrints_L2 {o1 : Nat} {Qf : xM → Prop} (C : x_C p s m args meth c g RX6 cX6_findPrints 3 none) (hX : xpX g) (ho1 : xpL g o1) : ∀ (nn : Nat) {v2 : Int32} {u : xM} {H : Heap} {locs : List Loc} {ls : Array Slot} (hw : x_W g s.heap H locs u) (hl : lv_has ls 3 [(0, .ref (xad g 5)), (1, .ref (xad g o1)), (2, .int v2)]) (h : p_X6_findPrints_L2 o1 Qf nn v2 u), W p l e (x_rm 4 152) s m args below meth c H locs 0 0 (MQ below (x_Qv g Qf) args s 0 0 (x_A g)) (F0 m 2 ls []) := by
  intro nn
  induction nn with
  | zero => intro v2 u H locs ls hw hl h; exact h.elim
  | succ nn ih =>
    intro v2 u H locs ls hw hl h
    unfold p_X6_findPrints_L2 at h
    have hx := C.1
    have hb := C.2.1
    refine lv_iload_n hx hb dX6_findPrints_2 rfl (lv_at hl 2 rfl) ?_
    refine lv_aload_n hx hb dX6_findPrints_3 rfl (lv_at hl 1 rfl) ?_
    refine x_getr (ci := 1) C hw 1 (xoL_0 ho1) rfl inlX1 (by decide) rfl rfl (xrL_0_1 ho1) xw_1584 dX6_findPrints_4 ?_
    refine x_geti (ci := 0) C hw 0 (xoL_9 ho1) rfl inlX0 (by decide) rfl rfl xw_1770 dX6_findPrints_7 ?_
    refine lv_icmp_ge (tgt := 83) hx hb dX6_findPrints_10 (by decide) (fun c1 => ?_) (fun c1 => ?_)
    · have h := h.1 c1
      exact x_vret C hw h dX6_findPrints_83
    · have h := h.2 c1
      refine lv_aload_n hx hb dX6_findPrints_13 rfl (lv_at hl 0 rfl) ?_
      refine x_getr (ci := 6) C hw 0 (xoX_5 hX) rfl inlX6 (by decide) rfl rfl xrX_5_0 xw_111 dX6_findPrints_14 ?_
      refine lv_aload_n hx hb dX6_findPrints_17 rfl (lv_at hl 1 rfl) ?_
      refine x_callv hw (x_runV (ci := 1) C hw (m_X1_copyFrom l C.2.2.2.2.2.2.2.2.1 (xpL_137 hX) ho1 h) (xoL_0 (xpL_137 hX)) rfl (x_gV xw_1589 xw_601 xw_602 xw_15 xw_603) rfl rfl qX1_copyFrom ⟨(Nat.le_of_ble_eq_true rfl), (Nat.le_of_ble_eq_true rfl)⟩ rfl hl.1 rfl (Nat.le_of_ble_eq_true rfl) dX6_findPrints_18) (fun u2 H locs hw h => ?_)
      refine lv_aload_n hx hb dX6_findPrints_21 rfl (lv_at hl 0 rfl) ?_
      refine x_getr (ci := 6) C hw 0 (xoX_5 hX) rfl inlX6 (by decide) rfl rfl xrX_5_0 xw_111 dX6_findPrints_22 ?_
      refine x_getr (ci := 1) C hw 0 (xoL_0 (xpL_137 hX)) rfl inlX1 (by decide) rfl rfl (xrL_0_0 (xpL_137 hX)) xw_1599 dX6_findPrints_25 ?_
      refine x_calli hw (x_runV (ci := 7) C hw (m_X7_wipeMarks l C.2.2.2.2.2.2.2.2.1 (xpL_137 hX) h) (xoL_1 (xpL_137 hX)) rfl (x_gV xw_1772 xw_1256 xw_1257 xw_57 xw_1258) rfl rfl qX7_wipeMarks ⟨(Nat.le_of_ble_eq_true rfl), (Nat.le_of_ble_eq_true rfl)⟩ rfl hl.1 rfl (Nat.le_of_ble_eq_true rfl) dX6_findPrints_28) (fun r4 u3 H locs hw h => ?_)
      refine lv_pop hx hb dX6_findPrints_31 rfl ?_
      refine lv_aload_n hx hb dX6_findPrints_32 rfl (lv_at hl 0 rfl) ?_
      refine x_getr (ci := 6) C hw 0 (xoX_5 hX) rfl inlX6 (by decide) rfl rfl xrX_5_0 xw_111 dX6_findPrints_33 ?_
      refine x_getr (ci := 1) C hw 1 (xoL_0 (xpL_137 hX)) rfl inlX1 (by decide) rfl rfl (xrL_0_1 (xpL_137 hX)) xw_1584 dX6_findPrints_36 ?_
      refine lv_iconst (v := 1) hx hb dX6_findPrints_39 (by decide) ?_
      refine lv_iload_n hx hb dX6_findPrints_40 rfl (lv_at hl 2 rfl) ?_
      refine lv_ishl hx hb dX6_findPrints_41 ?_
      refine x_callv hw (x_runV (ci := 0) C hw (m_X0_openJust l C.2.2.2.2.2.2.2.2.1 (xpL_137 hX) h) (xoL_9 (xpL_137 hX)) rfl (x_gV xw_1710 xw_1711 xw_1712 xw_61 xw_1713) rfl rfl qX0_openJust ⟨(Nat.le_of_ble_eq_true rfl), (Nat.le_of_ble_eq_true rfl)⟩ rfl hl.1 rfl (Nat.le_of_ble_eq_true rfl) dX6_findPrints_42) (fun u5 H locs hw h => ?_)
      refine lv_aload_n hx hb dX6_findPrints_45 rfl (lv_at hl 0 rfl) ?_
      refine x_getr (ci := 6) C hw 0 (xoX_5 hX) rfl inlX6 (by decide) rfl rfl xrX_5_0 xw_111 dX6_findPrints_46 ?_
      refine lv_bipush (v := 12) hx hb dX6_findPrints_49 (by decide) ?_
      refine x_callv hw (x_runV (ci := 1) C hw (m_X1_goOn l C.2.2.2.2.2.2.2.2.1 (xpL_137 hX) h) (xoL_0 (xpL_137 hX)) rfl (x_gV xw_1773 xw_1161 xw_1162 xw_15 xw_1163) rfl rfl qX1_goOn ⟨(Nat.le_of_ble_eq_true rfl), (Nat.le_of_ble_eq_true rfl)⟩ rfl hl.1 rfl (Nat.le_of_ble_eq_true rfl) dX6_findPrints_51) (fun u6 H locs hw h => ?_)
      refine lv_aload_n hx hb dX6_findPrints_54 rfl (lv_at hl 0 rfl) ?_
      refine x_getr (ci := 6) C hw 0 (xoX_5 hX) rfl inlX6 (by decide) rfl rfl xrX_5_0 xw_111 dX6_findPrints_55 ?_
      refine x_getr (ci := 1) C hw 0 (xoL_0 (xpL_137 hX)) rfl inlX1 (by decide) rfl rfl (xrL_0_0 (xpL_137 hX)) xw_1599 dX6_findPrints_58 ?_
      refine x_getr (ci := 7) C hw 8 (xoL_1 (xpL_137 hX)) rfl inlX7 (by decide) rfl rfl (xrL_1_8 (xpL_137 hX)) xw_1771 dX6_findPrints_61 ?_
      refine lv_iconst (v := 0) hx hb dX6_findPrints_64 (by decide) ?_
      refine lv_aload_n hx hb dX6_findPrints_65 rfl (lv_at hl 0 rfl) ?_
      refine x_getr (ci := 6) C hw 1 (xoX_5 hX) rfl inlX6 (by decide) rfl rfl xrX_5_1 xw_113 dX6_findPrints_66 ?_
      refine lv_iload_n hx hb dX6_findPrints_69 rfl (lv_at hl 2 rfl) ?_
      have c7 := h.1
      have h := h.2
      refine x_aald C hw (xoX_6 hX) (by decide) (by decide) c7 (xa_6 c7) dX6_findPrints_70 ?_
      refine lv_iconst (v := 0) hx hb dX6_findPrints_71 (by decide) ?_
      refine lv_bipush (v := 7) hx hb dX6_findPrints_72 (by decide) ?_
      obtain ⟨u8, eu8⟩ : ∃ q : xM, q = cpi u6 145 0 (7 + v2.toNatClampNeg) 0 7 := ⟨_, rfl⟩
      have h := h u8 eu8
      refine x_cpyi C hl.1 xw_1607 hw (xoL_8 (xpL_137 hX)) (xok_6 hX c7) ⟨by decide, by decide, by decide, by decide, by decide⟩ (Nat.le_of_ble_eq_true rfl) (Nat.le_of_ble_eq_true rfl) dX6_findPrints_74 eu8 (fun H locs hw => ?_)
      obtain ⟨x9, ex9⟩ : ∃ y : Int32, y = v2 + 1 := ⟨_, rfl⟩
      have h := h x9 ex9
      refine lv_iinc (v := x9) (lv' := [(2, .int x9), (0, .ref (xad g 5)), (1, .ref (xad g o1))]) hx hb dX6_findPrints_77 hl (k := 2) rfl (by rw [ex9]; rfl) (by decide) rfl (fun ls hl => ?_)
      refine lv_goto (tgt := 2) hx hb dX6_findPrints_80 (by decide) ?_
      exact ih hw (lv_sub hl [1, 2, 0] rfl) h
set_option maxHeartbeats 4000000 in
set_option maxRecDepth 100000 in
theorem s_X6_findPrints {o1 : Nat} {Qf : xM → Prop} (C : x_C p s m args meth c g RX6 cX6_findPrints 3 none) (hX : xpX g) (ho1 : xpL g o1) {u : xM} {H : Heap} {locs : List Loc} {ls : Array Slot} (hw : x_W g s.heap H locs u) (hl : lv_has ls 3 [(0, .ref (xad g 5)), (1, .ref (xad g o1))]) (h : p_X6_findPrints o1 u Qf) : W p l e (x_rm 4 152) s m args below meth c H locs 0 0 (MQ below (x_Qv g Qf) args s 0 0 (x_A g)) (F0 m 0 ls []) := by
  unfold p_X6_findPrints at h
  have hx := C.1
  have hb := C.2.1
  refine lv_iconst (v := 0) hx hb dX6_findPrints_0 (by decide) ?_
  refine lv_istore_n (lv' := [(2, .int 0), (0, .ref (xad g 5)), (1, .ref (xad g o1))]) hx hb dX6_findPrints_1 rfl hl (by decide) rfl (fun ls hl => ?_)
  obtain ⟨n9, h⟩ := h
  exact s_X6_findPrints_L2 C hX ho1 n9 hw (lv_sub hl [1, 2, 0] rfl) h
set_option maxHeartbeats 4000000 in
set_option maxRecDepth 100000 in
theorem m_X6_findPrints (l : Launch) {g : xG} (hD : x_D g) {o1 : Nat} (hX : xpX g) (ho1 : xpL g o1) {u : xM} {Qf : xM → Prop} (h : p_X6_findPrints o1 u Qf) : Met l yX6_findPrints (Cond.code yX6_findPrints cX6_findPrints 3 none :: wsL_law) (x_rm 4 152) (va_Pc [.ref (xad g 5), .ref (xad g o1)] (x_B g u)) (x_Qv g Qf) 0 0 (x_A g) := by
  refine Met.ofW (cc := cX6_findPrints) (maxL := 3) (ret := none) (by decide) rfl ?_
  intro p e s m args below meth c s₁ B hml hv
  obtain ⟨rfl, hB⟩ := hv
  obtain ⟨C, hw⟩ := x_start B hml hD hB
  have hl := lv_entry [.ref (xad g 5), .ref (xad g o1)] (n := 3) (Nat.le_of_ble_eq_true rfl)
  rw [lg_entry_eq]
  exact s_X6_findPrints C hX ho1 hw hl h
set_option maxHeartbeats 4000000 in
set_option maxRecDepth 100000 in
theorem s_X10_print_L75 {Qf : Int32 → xM → Prop} (C : x_C p s m args meth c g RX10 cX10_print 5 (some .int)) (hX : xpX g) : ∀ (nn : Nat) {v1 : Int32} {v3 : Nat} {v4 : Int32} {u : xM} {H : Heap} {locs : List Loc} {ls : Array Slot} (hv3 : xpY g v3) (hw : x_W g s.heap H locs u) (hl : lv_has ls 5 [(0, .ref (xad g 0)), (1, .int v1), (3, .ref (xad g v3)), (4, .int v4)]) (h : p_X10_print_L75 Qf nn v1 v3 v4 u), W p l e (x_rm 5 174) s m args below meth c H locs 0 0 (MQ below (x_Qi g Qf) args s 0 0 (x_A g)) (F0 m 75 ls []) := by
  intro nn
  induction nn with
  | zero => intro v1 v3 v4 u H locs ls hv3 hw hl h; exact h.elim
  | succ nn ih =>
    intro v1 v3 v4 u H locs ls hv3 hw hl h
    unfold p_X10_print_L75 at h
    have hx := C.1
    have hb := C.2.1
    refine lv_iload hx hb dX10_print_75 (lv_at hl 3 rfl) ?_
    refine lv_aload_n hx hb dX10_print_77 rfl (lv_at hl 0 rfl) ?_
    refine x_getr (ci := 10) C hw 0 (xoX_0 hX) rfl inlX10 (by decide) rfl rfl xrX_0_0 xw_16 dX10_print_78 ?_
    refine x_getr (ci := 1) C hw 0 (xoL_0 (xpL_83 hX)) rfl inlX1 (by decide) rfl rfl (xrL_0_0 (xpL_83 hX)) xw_858 dX10_print_81 ?_
    refine x_geti (ci := 7) C hw 0 (xoL_1 (xpL_83 hX)) rfl inlX7 (by decide) rfl rfl xw_859 dX10_print_84 ?_
    refine lv_icmp_ge (tgt := 115) hx hb dX10_print_87 (by decide) (fun c1 => ?_) (fun c1 => ?_)
    · have h := h.1 c1
      refine lv_aload_n hx hb dX10_print_115 rfl (lv_at hl 0 rfl) ?_
      refine lv_aload_n hx hb dX10_print_116 rfl (lv_at hl 0 rfl) ?_
      refine x_getr (ci := 10) C hw 0 (xoX_0 hX) rfl inlX10 (by decide) rfl rfl xrX_0_0 xw_16 dX10_print_117 ?_
      refine x_getr (ci := 1) C hw 0 (xoL_0 (xpL_83 hX)) rfl inlX1 (by decide) rfl rfl (xrL_0_0 (xpL_83 hX)) xw_858 dX10_print_120 ?_
      refine x_geti (ci := 7) C hw 0 (xoL_1 (xpL_83 hX)) rfl inlX7 (by decide) rfl rfl xw_859 dX10_print_123 ?_
      refine x_calli hw (x_runV (ci := 10) C hw (m_X10_fine l C.2.2.2.2.2.2.2.2.1 hX h) (xoX_0 hX) rfl (x_gV xw_622 xw_623 xw_624 xw_2 xw_625) rfl rfl qX10_fine ⟨(Nat.le_of_ble_eq_true rfl), (Nat.le_of_ble_eq_true rfl)⟩ rfl hl.1 rfl (Nat.le_of_ble_eq_true rfl) dX10_print_126) (fun r3 u2 H locs hw h => ?_)
      exact x_iret C hw h dX10_print_129
    · have h := h.2 c1
      refine lv_aload_n hx hb dX10_print_90 rfl (lv_at hl 2 rfl) ?_
      refine lv_iload hx hb dX10_print_91 (lv_at hl 3 rfl) ?_
      refine lv_aload_n hx hb dX10_print_93 rfl (lv_at hl 0 rfl) ?_
      refine x_getr (ci := 10) C hw 3 (xoX_0 hX) rfl inlX10 (by decide) rfl rfl xrX_0_3 xw_25 dX10_print_94 ?_
      refine x_getr (ci := 6) C hw 1 (xoX_5 hX) rfl inlX6 (by decide) rfl rfl xrX_5_1 xw_1765 dX10_print_97 ?_
      refine lv_iload_n hx hb dX10_print_100 rfl (lv_at hl 1 rfl) ?_
      have c4 := h.1
      have h := h.2
      refine x_aald C hw (xoX_6 hX) (by decide) (by decide) c4 (xa_6 c4) dX10_print_101 ?_
      refine lv_iload hx hb dX10_print_102 (lv_at hl 3 rfl) ?_
      have c5 := h.1
      have h := h.2
      refine x_iald C hw (xok_6 hX c4) c5 dX10_print_104 ?_
      refine lv_i2l hx hb dX10_print_105 rfl ?_
      refine x_callv hw (x_runV (ci := 9) C hw (m_X9_put l C.2.2.2.2.2.2.2.2.1 hv3 h) (xoY_0 hv3) rfl (x_gV xw_319 xw_320 xw_321 xw_50 xw_322) rfl rfl qX9_put ⟨(Nat.le_of_ble_eq_true rfl), (Nat.le_of_ble_eq_true rfl)⟩ rfl hl.1 rfl (Nat.le_of_ble_eq_true rfl) dX10_print_106) (fun u6 H locs hw h => ?_)
      obtain ⟨x7, ex7⟩ : ∃ y : Int32, y = v4 + 1 := ⟨_, rfl⟩
      have h := h x7 ex7
      refine lv_iinc (v := x7) (lv' := [(4, .int x7), (0, .ref (xad g 0)), (1, .int v1), (3, .ref (xad g v3))]) hx hb dX10_print_109 hl (k := 3) rfl (by rw [ex7]; rfl) (by decide) rfl (fun ls hl => ?_)
      refine lv_goto (tgt := 75) hx hb dX10_print_112 (by decide) ?_
      exact ih hv3 hw (lv_sub hl [1, 2, 3, 0] rfl) h
set_option maxHeartbeats 4000000 in
set_option maxRecDepth 100000 in
theorem s_X10_print {Qf : Int32 → xM → Prop} {a1 : Int32} {a2 : Int32} (C : x_C p s m args meth c g RX10 cX10_print 5 (some .int)) (hX : xpX g) {u : xM} {H : Heap} {locs : List Loc} {ls : Array Slot} (hw : x_W g s.heap H locs u) (hl : lv_has ls 5 [(0, .ref (xad g 0)), (1, .int a1), (2, .int a2)]) (h : p_X10_print a1 a2 u Qf) : W p l e (x_rm 5 174) s m args below meth c H locs 0 0 (MQ below (x_Qi g Qf) args s 0 0 (x_A g)) (F0 m 0 ls []) := by
  unfold p_X10_print at h
  have hx := C.1
  have hb := C.2.1
  refine lv_aload_n hx hb dX10_print_0 rfl (lv_at hl 0 rfl) ?_
  refine lv_iload_n hx hb dX10_print_1 rfl (lv_at hl 2 rfl) ?_
  refine x_callq hw (x_runV (ci := 10) C hw (m_X10_trayAt l C.2.2.2.2.2.2.2.2.1 hX h) (xoX_0 hX) rfl (x_gV xw_276 xw_277 xw_278 xw_2 xw_279) rfl rfl qX10_trayAt ⟨(Nat.le_of_ble_eq_true rfl), (Nat.le_of_ble_eq_true rfl)⟩ rfl hl.1 rfl (Nat.le_of_ble_eq_true rfl) dX10_print_2) (fun u1 H locs hw h => ?_) (fun t2 u1 H locs hw hkt2 h => ?_)
  · have h := h.1 rfl
    refine lv_astore_nN (lv' := [(3, .null), (0, .ref (xad g 0)), (1, .int a1), (2, .int a2)]) hx hb dX10_print_5 rfl hl (by decide) rfl (fun ls hl => ?_)
    refine lv_aload_n hx hb dX10_print_6 rfl (lv_at hl 1 rfl) ?_
    refine lv_iload_n hx hb dX10_print_7 rfl (lv_at hl 2 rfl) ?_
    refine x_callz hw (x_runV (ci := 10) C hw (m_X10_isDoor l C.2.2.2.2.2.2.2.2.1 hX h) (xoX_0 hX) rfl (x_gV xw_962 xw_963 xw_964 xw_2 xw_965) rfl rfl qX10_isDoor ⟨(Nat.le_of_ble_eq_true rfl), (Nat.le_of_ble_eq_true rfl)⟩ rfl hl.1 rfl (Nat.le_of_ble_eq_true rfl) dX10_print_8) (fun r4 u3 H locs hw h => ?_)
    refine lv_if_eq (tgt := 18) hx hb dX10_print_11 (by decide) (fun c5 => ?_) (fun c5 => ?_)
    · have h := h.1 (xb_f c5)
      refine lv_aload_n hx hb dX10_print_18 rfl (lv_at hl 1 rfl) ?_
      refine lv_iconst (v := 1) hx hb dX10_print_19 (by decide) ?_
      refine x_calli hw (x_runV (ci := 10) C hw (m_X10_none l C.2.2.2.2.2.2.2.2.1 hX h) (xoX_0 hX) rfl (x_gV xw_343 xw_344 xw_345 xw_2 xw_346) rfl rfl qX10_none ⟨(Nat.le_of_ble_eq_true rfl), (Nat.le_of_ble_eq_true rfl)⟩ rfl hl.1 rfl (Nat.le_of_ble_eq_true rfl) dX10_print_20) (fun r7 u6 H locs hw h => ?_)
      exact x_iret C hw h dX10_print_23
    · have h := h.2 (xb_t c5)
      refine lv_aload_nN hx hb dX10_print_14 rfl (lv_at hl 0 rfl) ?_
      refine lv_ifnonnullN hx hb dX10_print_15 ?_
      refine lv_aload_n hx hb dX10_print_18 rfl (lv_at hl 1 rfl) ?_
      refine lv_iconst (v := 1) hx hb dX10_print_19 (by decide) ?_
      refine x_calli hw (x_runV (ci := 10) C hw (m_X10_none l C.2.2.2.2.2.2.2.2.1 hX h) (xoX_0 hX) rfl (x_gV xw_343 xw_344 xw_345 xw_2 xw_346) rfl rfl qX10_none ⟨(Nat.le_of_ble_eq_true rfl), (Nat.le_of_ble_eq_true rfl)⟩ rfl hl.1 rfl (Nat.le_of_ble_eq_true rfl) dX10_print_20) (fun r9 u8 H locs hw h => ?_)
      exact x_iret C hw h dX10_print_23
  · have h := h.2 t2 rfl
    have ht2 : xpY g t2 := xpY_of hX hkt2
    refine lv_astore_n (lv' := [(3, .ref (xad g t2)), (0, .ref (xad g 0)), (1, .int a1), (2, .int a2)]) hx hb dX10_print_5 rfl hl (by decide) rfl (fun ls hl => ?_)
    refine lv_aload_n hx hb dX10_print_6 rfl (lv_at hl 1 rfl) ?_
    refine lv_iload_n hx hb dX10_print_7 rfl (lv_at hl 2 rfl) ?_
    refine x_callz hw (x_runV (ci := 10) C hw (m_X10_isDoor l C.2.2.2.2.2.2.2.2.1 hX h) (xoX_0 hX) rfl (x_gV xw_962 xw_963 xw_964 xw_2 xw_965) rfl rfl qX10_isDoor ⟨(Nat.le_of_ble_eq_true rfl), (Nat.le_of_ble_eq_true rfl)⟩ rfl hl.1 rfl (Nat.le_of_ble_eq_true rfl) dX10_print_8) (fun r11 u10 H locs hw h => ?_)
    refine lv_if_eq (tgt := 18) hx hb dX10_print_11 (by decide) (fun c12 => ?_) (fun c12 => ?_)
    · have h := h.1 (xb_f c12)
      refine lv_aload_n hx hb dX10_print_18 rfl (lv_at hl 1 rfl) ?_
      refine lv_iconst (v := 1) hx hb dX10_print_19 (by decide) ?_
      refine x_calli hw (x_runV (ci := 10) C hw (m_X10_none l C.2.2.2.2.2.2.2.2.1 hX h) (xoX_0 hX) rfl (x_gV xw_343 xw_344 xw_345 xw_2 xw_346) rfl rfl qX10_none ⟨(Nat.le_of_ble_eq_true rfl), (Nat.le_of_ble_eq_true rfl)⟩ rfl hl.1 rfl (Nat.le_of_ble_eq_true rfl) dX10_print_20) (fun r14 u13 H locs hw h => ?_)
      exact x_iret C hw h dX10_print_23
    · have h := h.2 (xb_t c12)
      refine lv_aload_n hx hb dX10_print_14 rfl (lv_at hl 0 rfl) ?_
      refine lv_ifnonnull (tgt := 24) hx hb dX10_print_15 (by decide) ?_
      refine lv_aload_n hx hb dX10_print_24 rfl (lv_at hl 0 rfl) ?_
      refine x_callz hw (x_runV (ci := 9) C hw (m_X9_isMissing l C.2.2.2.2.2.2.2.2.1 ht2 h) (xoY_0 ht2) rfl (x_gV xw_311 xw_312 xw_313 xw_50 xw_314) rfl rfl qX9_isMissing ⟨(Nat.le_of_ble_eq_true rfl), (Nat.le_of_ble_eq_true rfl)⟩ rfl hl.1 rfl (Nat.le_of_ble_eq_true rfl) dX10_print_25) (fun r16 u15 H locs hw h => ?_)
      refine lv_if_eq (tgt := 37) hx hb dX10_print_28 (by decide) (fun c17 => ?_) (fun c17 => ?_)
      · have h := h.1 (xb_f c17)
        refine lv_aload_n hx hb dX10_print_37 rfl (lv_at hl 0 rfl) ?_
        refine lv_iconst (v := 0) hx hb dX10_print_38 (by decide) ?_
        refine lv_aload_n hx hb dX10_print_39 rfl (lv_at hl 1 rfl) ?_
        refine x_getr (ci := 10) C hw 0 (xoX_0 hX) rfl inlX10 (by decide) rfl rfl xrX_0_0 xw_16 dX10_print_40 ?_
        refine x_getr (ci := 1) C hw 0 (xoL_0 (xpL_83 hX)) rfl inlX1 (by decide) rfl rfl (xrL_0_0 (xpL_83 hX)) xw_858 dX10_print_43 ?_
        refine x_geti (ci := 7) C hw 0 (xoL_1 (xpL_83 hX)) rfl inlX7 (by decide) rfl rfl xw_859 dX10_print_46 ?_
        refine x_callz hw (x_runV (ci := 9) C hw (m_X9_hasRow l C.2.2.2.2.2.2.2.2.1 ht2 h) (xoY_0 ht2) rfl (x_gV xw_366 xw_367 xw_368 xw_50 xw_369) rfl rfl qX9_hasRow ⟨(Nat.le_of_ble_eq_true rfl), (Nat.le_of_ble_eq_true rfl)⟩ rfl hl.1 rfl (Nat.le_of_ble_eq_true rfl) dX10_print_49) (fun r19 u18 H locs hw h => ?_)
        refine lv_if_ne (tgt := 61) hx hb dX10_print_52 (by decide) (fun c20 => ?_) (fun c20 => ?_)
        · have h := h.1 (xb_t c20)
          refine lv_aload_n hx hb dX10_print_61 rfl (lv_at hl 1 rfl) ?_
          refine x_getr (ci := 10) C hw 3 (xoX_0 hX) rfl inlX10 (by decide) rfl rfl xrX_0_3 xw_25 dX10_print_62 ?_
          refine lv_aload_n hx hb dX10_print_65 rfl (lv_at hl 1 rfl) ?_
          refine x_getr (ci := 10) C hw 0 (xoX_0 hX) rfl inlX10 (by decide) rfl rfl xrX_0_0 xw_16 dX10_print_66 ?_
          refine x_callv hw (x_runV (ci := 6) C hw (m_X6_findPrints l C.2.2.2.2.2.2.2.2.1 hX (xpL_83 hX) h) (xoX_5 hX) rfl (x_gV xw_1766 xw_1767 xw_1768 xw_24 xw_1769) rfl rfl qX6_findPrints ⟨(Nat.le_of_ble_eq_true rfl), (Nat.le_of_ble_eq_true rfl)⟩ rfl hl.1 rfl (Nat.le_of_ble_eq_true rfl) dX10_print_69) (fun u21 H locs hw h => ?_)
          refine lv_iconst (v := 0) hx hb dX10_print_72 (by decide) ?_
          refine lv_istore (lv' := [(4, .int 0), (3, .ref (xad g t2)), (0, .ref (xad g 0)), (1, .int a1), (2, .int a2)]) hx hb dX10_print_73 hl (by decide) rfl (fun ls hl => ?_)
          obtain ⟨n9, h⟩ := h
          exact s_X10_print_L75 C hX n9 ht2 hw (lv_sub hl [2, 3, 1, 0] rfl) h
        · have h := h.2 (xb_f c20)
          refine lv_aload_n hx hb dX10_print_55 rfl (lv_at hl 1 rfl) ?_
          refine lv_iconst (v := 3) hx hb dX10_print_56 (by decide) ?_
          refine x_calli hw (x_runV (ci := 10) C hw (m_X10_none l C.2.2.2.2.2.2.2.2.1 hX h) (xoX_0 hX) rfl (x_gV xw_343 xw_344 xw_345 xw_2 xw_346) rfl rfl qX10_none ⟨(Nat.le_of_ble_eq_true rfl), (Nat.le_of_ble_eq_true rfl)⟩ rfl hl.1 rfl (Nat.le_of_ble_eq_true rfl) dX10_print_57) (fun r23 u22 H locs hw h => ?_)
          exact x_iret C hw h dX10_print_60
      · have h := h.2 (xb_t c17)
        refine lv_aload_n hx hb dX10_print_31 rfl (lv_at hl 1 rfl) ?_
        refine lv_iconst (v := 2) hx hb dX10_print_32 (by decide) ?_
        refine x_calli hw (x_runV (ci := 10) C hw (m_X10_none l C.2.2.2.2.2.2.2.2.1 hX h) (xoX_0 hX) rfl (x_gV xw_343 xw_344 xw_345 xw_2 xw_346) rfl rfl qX10_none ⟨(Nat.le_of_ble_eq_true rfl), (Nat.le_of_ble_eq_true rfl)⟩ rfl hl.1 rfl (Nat.le_of_ble_eq_true rfl) dX10_print_33) (fun r25 u24 H locs hw h => ?_)
        exact x_iret C hw h dX10_print_36
set_option maxHeartbeats 4000000 in
set_option maxRecDepth 100000 in
theorem m_X10_print (l : Launch) {g : xG} (hD : x_D g) (hX : xpX g) {a1 : Int32} {a2 : Int32} {u : xM} {Qf : Int32 → xM → Prop} (h : p_X10_print a1 a2 u Qf) : Met l yX10_print (Cond.code yX10_print cX10_print 5 (some .int) :: wsL_law) (x_rm 5 174) (va_Pc [.ref (xad g 0), .int a1, .int a2] (x_B g u)) (x_Qi g Qf) 0 0 (x_A g) := by
  refine Met.ofW (cc := cX10_print) (maxL := 5) (ret := (some .int)) (by decide) rfl ?_
  intro p e s m args below meth c s₁ B hml hv
  obtain ⟨rfl, hB⟩ := hv
  obtain ⟨C, hw⟩ := x_start B hml hD hB
  have hl := lv_entry [.ref (xad g 0), .int a1, .int a2] (n := 5) (Nat.le_of_ble_eq_true rfl)
  rw [lg_entry_eq]
  exact s_X10_print C hX hw hl h
set_option maxHeartbeats 4000000 in
set_option maxRecDepth 100000 in
theorem s_X9_startsWith_L18 {o : Nat} {k1 : Nat} {Qf : Bool → xM → Prop} (C : x_C p s m args meth c g RX9 cX9_startsWith 4 (some .boolean)) (ho : xpY g o) (hk1 : x_ok g k1 (0, x_len k1)) : ∀ (nn : Nat) {v2 : Int32} {v3 : Int32} {u : xM} {H : Heap} {locs : List Loc} {ls : Array Slot} (hw : x_W g s.heap H locs u) (hl : lv_has ls 4 [(0, .ref (xad g o)), (1, .ref (xad g k1)), (2, .int v2), (3, .int v3)]) (h : p_X9_startsWith_L18 o k1 Qf nn v2 v3 u), W p l e (x_rm 0 0) s m args below meth c H locs 0 0 (MQ below (x_Qz g Qf) args s 0 0 (x_A g)) (F0 m 18 ls []) := by
  intro nn
  induction nn with
  | zero => intro v2 v3 u H locs ls hw hl h; exact h.elim
  | succ nn ih =>
    intro v2 v3 u H locs ls hw hl h
    unfold p_X9_startsWith_L18 at h
    have hx := C.1
    have hb := C.2.1
    refine lv_iload_n hx hb dX9_startsWith_18 rfl (lv_at hl 3 rfl) ?_
    refine lv_iload_n hx hb dX9_startsWith_19 rfl (lv_at hl 2 rfl) ?_
    refine lv_icmp_ge (tgt := 45) hx hb dX9_startsWith_20 (by decide) (fun c1 => ?_) (fun c1 => ?_)
    · have h := h.1 c1
      refine lv_iconst (v := 1) hx hb dX9_startsWith_45 (by decide) ?_
      exact x_zret true C hw h rfl dX9_startsWith_46
    · have h := h.2 c1
      refine lv_aload_n hx hb dX9_startsWith_23 rfl (lv_at hl 0 rfl) ?_
      refine x_getr (ci := 9) C hw 0 (xoY_0 ho) rfl inlX9 (by decide) rfl rfl (xrY_0_0 ho) xw_213 dX9_startsWith_24 ?_
      refine lv_iload_n hx hb dX9_startsWith_27 rfl (lv_at hl 3 rfl) ?_
      have c2 := h.1
      have h := h.2
      refine x_lald C hw (xoY_1 ho) c2 dX9_startsWith_28 ?_
      refine lv_aload_n hx hb dX9_startsWith_29 rfl (lv_at hl 1 rfl) ?_
      refine lv_iload_n hx hb dX9_startsWith_30 rfl (lv_at hl 3 rfl) ?_
      have c3 := h.1
      have h := h.2
      refine x_iald C hw hk1 c3 dX9_startsWith_31 ?_
      refine lv_i2l hx hb dX9_startsWith_32 rfl ?_
      refine W.lcmp hx hb dX9_startsWith_33 ?_
      refine lv_if_eq (tgt := 39) hx hb dX9_startsWith_34 (by decide) (fun c4 => ?_) (fun c4 => ?_)
      · have h := h.1 c4
        obtain ⟨x5, ex5⟩ : ∃ y : Int32, y = v3 + 1 := ⟨_, rfl⟩
        have h := h x5 ex5
        refine lv_iinc (v := x5) (lv' := [(3, .int x5), (0, .ref (xad g o)), (1, .ref (xad g k1)), (2, .int v2)]) hx hb dX9_startsWith_39 hl (k := 3) rfl (by rw [ex5]; rfl) (by decide) rfl (fun ls hl => ?_)
        refine lv_goto (tgt := 18) hx hb dX9_startsWith_42 (by decide) ?_
        exact ih hw (lv_sub hl [1, 2, 3, 0] rfl) h
      · have h := h.2 c4
        refine lv_iconst (v := 0) hx hb dX9_startsWith_37 (by decide) ?_
        exact x_zret false C hw h rfl dX9_startsWith_38
set_option maxHeartbeats 4000000 in
set_option maxRecDepth 100000 in
theorem s_X9_startsWith {o : Nat} {k1 : Nat} {Qf : Bool → xM → Prop} {a2 : Int32} (C : x_C p s m args meth c g RX9 cX9_startsWith 4 (some .boolean)) (ho : xpY g o) (hk1 : x_ok g k1 (0, x_len k1)) {u : xM} {H : Heap} {locs : List Loc} {ls : Array Slot} (hw : x_W g s.heap H locs u) (hl : lv_has ls 4 [(0, .ref (xad g o)), (1, .ref (xad g k1)), (2, .int a2)]) (h : p_X9_startsWith o k1 a2 u Qf) : W p l e (x_rm 0 0) s m args below meth c H locs 0 0 (MQ below (x_Qz g Qf) args s 0 0 (x_A g)) (F0 m 0 ls []) := by
  unfold p_X9_startsWith at h
  have hx := C.1
  have hb := C.2.1
  refine lv_iload_n hx hb dX9_startsWith_0 rfl (lv_at hl 2 rfl) ?_
  refine lv_aload_n hx hb dX9_startsWith_1 rfl (lv_at hl 0 rfl) ?_
  refine x_geti (ci := 9) C hw 2 (xoY_0 ho) rfl inlX9 (by decide) rfl rfl xw_214 dX9_startsWith_2 ?_
  refine lv_icmp_gt (tgt := 14) hx hb dX9_startsWith_5 (by decide) (fun c1 => ?_) (fun c1 => ?_)
  · have h := h.1 c1
    refine lv_iconst (v := 0) hx hb dX9_startsWith_14 (by decide) ?_
    exact x_zret false C hw h rfl dX9_startsWith_15
  · have h := h.2 c1
    refine lv_iload_n hx hb dX9_startsWith_8 rfl (lv_at hl 2 rfl) ?_
    refine lv_aload_n hx hb dX9_startsWith_9 rfl (lv_at hl 1 rfl) ?_
    refine x_alen C hw hk1 (by decide) dX9_startsWith_10 ?_
    refine lv_icmp_le (tgt := 16) hx hb dX9_startsWith_11 (by decide) (fun c2 => ?_) (fun c2 => ?_)
    · have h := h.1 c2
      refine lv_iconst (v := 0) hx hb dX9_startsWith_16 (by decide) ?_
      refine lv_istore_n (lv' := [(3, .int 0), (0, .ref (xad g o)), (1, .ref (xad g k1)), (2, .int a2)]) hx hb dX9_startsWith_17 rfl hl (by decide) rfl (fun ls hl => ?_)
      obtain ⟨n9, h⟩ := h
      exact s_X9_startsWith_L18 C ho hk1 n9 hw (lv_sub hl [1, 2, 3, 0] rfl) h
    · have h := h.2 c2
      refine lv_iconst (v := 0) hx hb dX9_startsWith_14 (by decide) ?_
      exact x_zret false C hw h rfl dX9_startsWith_15
set_option maxHeartbeats 4000000 in
set_option maxRecDepth 100000 in
theorem m_X9_startsWith (l : Launch) {g : xG} (hD : x_D g) {o : Nat} {k1 : Nat} (ho : xpY g o) (hk1 : x_ok g k1 (0, x_len k1)) {a2 : Int32} {u : xM} {Qf : Bool → xM → Prop} (h : p_X9_startsWith o k1 a2 u Qf) : Met l yX9_startsWith (Cond.code yX9_startsWith cX9_startsWith 4 (some .boolean) :: wsL_law) (x_rm 0 0) (va_Pc [.ref (xad g o), .ref (xad g k1), .int a2] (x_B g u)) (x_Qz g Qf) 0 0 (x_A g) := by
  refine Met.ofW (cc := cX9_startsWith) (maxL := 4) (ret := (some .boolean)) (by decide) rfl ?_
  intro p e s m args below meth c s₁ B hml hv
  obtain ⟨rfl, hB⟩ := hv
  obtain ⟨C, hw⟩ := x_start B hml hD hB
  have hl := lv_entry [.ref (xad g o), .ref (xad g k1), .int a2] (n := 4) (Nat.le_of_ble_eq_true rfl)
  rw [lg_entry_eq]
  exact s_X9_startsWith C ho hk1 hw hl h
set_option maxHeartbeats 4000000 in
set_option maxRecDepth 100000 in
theorem s_X10_suspects_L69 {Qf : Int32 → xM → Prop} (C : x_C p s m args meth c g RX10 cX10_suspects 5 (some .int)) (hX : xpX g) : ∀ (nn : Nat) {v2 : Nat} {v3 : Int32} {v4 : Int32} {u : xM} {H : Heap} {locs : List Loc} {ls : Array Slot} (hv2 : xpY g v2) (hw : x_W g s.heap H locs u) (hl : lv_has ls 5 [(0, .ref (xad g 0)), (2, .ref (xad g v2)), (3, .int v3), (4, .int v4)]) (h : p_X10_suspects_L69 Qf nn v2 v3 v4 u), W p l e (x_rm 5 174) s m args below meth c H locs 0 0 (MQ below (x_Qi g Qf) args s 0 0 (x_A g)) (F0 m 69 ls []) := by
  intro nn
  induction nn with
  | zero => intro v2 v3 v4 u H locs ls hv2 hw hl h; exact h.elim
  | succ nn ih =>
    intro v2 v3 v4 u H locs ls hv2 hw hl h
    unfold p_X10_suspects_L69 at h
    have hx := C.1
    have hb := C.2.1
    refine lv_iload hx hb dX10_suspects_69 (lv_at hl 3 rfl) ?_
    refine lv_aload_n hx hb dX10_suspects_71 rfl (lv_at hl 0 rfl) ?_
    refine x_getr (ci := 10) C hw 0 (xoX_0 hX) rfl inlX10 (by decide) rfl rfl xrX_0_0 xw_16 dX10_suspects_72 ?_
    refine x_getr (ci := 1) C hw 1 (xoL_0 (xpL_83 hX)) rfl inlX1 (by decide) rfl rfl (xrL_0_1 (xpL_83 hX)) xw_398 dX10_suspects_75 ?_
    refine x_geti (ci := 0) C hw 0 (xoL_9 (xpL_83 hX)) rfl inlX0 (by decide) rfl rfl xw_399 dX10_suspects_78 ?_
    refine lv_icmp_ge (tgt := 139) hx hb dX10_suspects_81 (by decide) (fun c1 => ?_) (fun c1 => ?_)
    · have h := h.1 c1
      refine lv_aload_n hx hb dX10_suspects_139 rfl (lv_at hl 0 rfl) ?_
      refine lv_iload_n hx hb dX10_suspects_140 rfl (lv_at hl 2 rfl) ?_
      refine x_calli hw (x_runV (ci := 10) C hw (m_X10_fine l C.2.2.2.2.2.2.2.2.1 hX h) (xoX_0 hX) rfl (x_gV xw_622 xw_623 xw_624 xw_2 xw_625) rfl rfl qX10_fine ⟨(Nat.le_of_ble_eq_true rfl), (Nat.le_of_ble_eq_true rfl)⟩ rfl hl.1 rfl (Nat.le_of_ble_eq_true rfl) dX10_suspects_141) (fun r3 u2 H locs hw h => ?_)
      exact x_iret C hw h dX10_suspects_144
    · have h := h.2 c1
      refine lv_aload_n hx hb dX10_suspects_84 rfl (lv_at hl 0 rfl) ?_
      refine x_getr (ci := 10) C hw 0 (xoX_0 hX) rfl inlX10 (by decide) rfl rfl xrX_0_0 xw_16 dX10_suspects_85 ?_
      refine x_getr (ci := 1) C hw 1 (xoL_0 (xpL_83 hX)) rfl inlX1 (by decide) rfl rfl (xrL_0_1 (xpL_83 hX)) xw_398 dX10_suspects_88 ?_
      refine lv_iload hx hb dX10_suspects_91 (lv_at hl 3 rfl) ?_
      refine x_callz hw (x_runV (ci := 0) C hw (m_X0_isWalled l C.2.2.2.2.2.2.2.2.1 (xpL_83 hX) h) (xoL_9 (xpL_83 hX)) rfl (x_gV xw_1233 xw_1045 xw_1046 xw_61 xw_1047) rfl rfl qX0_isWalled ⟨(Nat.le_of_ble_eq_true rfl), (Nat.le_of_ble_eq_true rfl)⟩ rfl hl.1 rfl (Nat.le_of_ble_eq_true rfl) dX10_suspects_93) (fun r5 u4 H locs hw h => ?_)
      refine lv_if_ne (tgt := 133) hx hb dX10_suspects_96 (by decide) (fun c6 => ?_) (fun c6 => ?_)
      · have h := h.1 (xb_t c6)
        obtain ⟨x7, ex7⟩ : ∃ y : Int32, y = v4 + 1 := ⟨_, rfl⟩
        have h := h x7 ex7
        refine lv_iinc (v := x7) (lv' := [(4, .int x7), (0, .ref (xad g 0)), (2, .ref (xad g v2)), (3, .int v3)]) hx hb dX10_suspects_133 hl (k := 3) rfl (by rw [ex7]; rfl) (by decide) rfl (fun ls hl => ?_)
        refine lv_goto (tgt := 69) hx hb dX10_suspects_136 (by decide) ?_
        exact ih hv2 hw (lv_sub hl [1, 2, 3, 0] rfl) h
      · have h := h.2 (xb_f c6)
        refine lv_aload_n hx hb dX10_suspects_99 rfl (lv_at hl 1 rfl) ?_
        refine lv_aload_n hx hb dX10_suspects_100 rfl (lv_at hl 0 rfl) ?_
        refine x_getr (ci := 10) C hw 3 (xoX_0 hX) rfl inlX10 (by decide) rfl rfl xrX_0_3 xw_25 dX10_suspects_101 ?_
        refine x_getr (ci := 6) C hw 1 (xoX_5 hX) rfl inlX6 (by decide) rfl rfl xrX_5_1 xw_1765 dX10_suspects_104 ?_
        refine lv_iload hx hb dX10_suspects_107 (lv_at hl 3 rfl) ?_
        have c8 := h.1
        have h := h.2
        refine x_aald C hw (xoX_6 hX) (by decide) (by decide) c8 (xa_6 c8) dX10_suspects_109 ?_
        refine lv_aload_n hx hb dX10_suspects_110 rfl (lv_at hl 0 rfl) ?_
        refine x_getr (ci := 10) C hw 0 (xoX_0 hX) rfl inlX10 (by decide) rfl rfl xrX_0_0 xw_16 dX10_suspects_111 ?_
        refine x_getr (ci := 1) C hw 0 (xoL_0 (xpL_83 hX)) rfl inlX1 (by decide) rfl rfl (xrL_0_0 (xpL_83 hX)) xw_858 dX10_suspects_114 ?_
        refine x_geti (ci := 7) C hw 0 (xoL_1 (xpL_83 hX)) rfl inlX7 (by decide) rfl rfl xw_859 dX10_suspects_117 ?_
        refine x_callz hw (x_runV (ci := 9) C hw (m_X9_startsWith l C.2.2.2.2.2.2.2.2.1 hv2 (x_okl (xok_6 hX c8)) h) (xoY_0 hv2) rfl (x_gV xw_1790 xw_1791 xw_1792 xw_50 xw_1793) rfl rfl qX9_startsWith ⟨(Nat.le_of_ble_eq_true rfl), (Nat.le_of_ble_eq_true rfl)⟩ rfl hl.1 rfl (Nat.le_of_ble_eq_true rfl) dX10_suspects_120) (fun r10 u9 H locs hw h => ?_)
        refine lv_if_eq (tgt := 133) hx hb dX10_suspects_123 (by decide) (fun c11 => ?_) (fun c11 => ?_)
        · have h := h.1 (xb_f c11)
          obtain ⟨x12, ex12⟩ : ∃ y : Int32, y = v4 + 1 := ⟨_, rfl⟩
          have h := h x12 ex12
          refine lv_iinc (v := x12) (lv' := [(4, .int x12), (0, .ref (xad g 0)), (2, .ref (xad g v2)), (3, .int v3)]) hx hb dX10_suspects_133 hl (k := 3) rfl (by rw [ex12]; rfl) (by decide) rfl (fun ls hl => ?_)
          refine lv_goto (tgt := 69) hx hb dX10_suspects_136 (by decide) ?_
          exact ih hv2 hw (lv_sub hl [1, 2, 3, 0] rfl) h
        · have h := h.2 (xb_t c11)
          refine lv_iload_n hx hb dX10_suspects_126 rfl (lv_at hl 2 rfl) ?_
          refine lv_iconst (v := 1) hx hb dX10_suspects_127 (by decide) ?_
          refine lv_iload hx hb dX10_suspects_128 (lv_at hl 3 rfl) ?_
          refine lv_ishl hx hb dX10_suspects_130 ?_
          refine lv_ior hx hb dX10_suspects_131 ?_
          refine lv_topi (fun x13 ex13 => ?_)
          have h := h x13 ex13
          refine lv_istore_n (lv' := [(3, .int x13), (0, .ref (xad g 0)), (2, .ref (xad g v2)), (4, .int v4)]) hx hb dX10_suspects_132 rfl hl (by decide) rfl (fun ls hl => ?_)
          obtain ⟨x14, ex14⟩ : ∃ y : Int32, y = v4 + 1 := ⟨_, rfl⟩
          have h := h x14 ex14
          refine lv_iinc (v := x14) (lv' := [(4, .int x14), (3, .int x13), (0, .ref (xad g 0)), (2, .ref (xad g v2))]) hx hb dX10_suspects_133 hl (k := 3) rfl (by rw [ex14]; rfl) (by decide) rfl (fun ls hl => ?_)
          refine lv_goto (tgt := 69) hx hb dX10_suspects_136 (by decide) ?_
          exact ih hv2 hw (lv_sub hl [2, 3, 1, 0] rfl) h
set_option maxHeartbeats 4000000 in
set_option maxRecDepth 100000 in
theorem s_X10_suspects {Qf : Int32 → xM → Prop} {a1 : Int32} (C : x_C p s m args meth c g RX10 cX10_suspects 5 (some .int)) (hX : xpX g) {u : xM} {H : Heap} {locs : List Loc} {ls : Array Slot} (hw : x_W g s.heap H locs u) (hl : lv_has ls 5 [(0, .ref (xad g 0)), (1, .int a1)]) (h : p_X10_suspects a1 u Qf) : W p l e (x_rm 5 174) s m args below meth c H locs 0 0 (MQ below (x_Qi g Qf) args s 0 0 (x_A g)) (F0 m 0 ls []) := by
  unfold p_X10_suspects at h
  have hx := C.1
  have hb := C.2.1
  refine lv_aload_n hx hb dX10_suspects_0 rfl (lv_at hl 0 rfl) ?_
  refine lv_iload_n hx hb dX10_suspects_1 rfl (lv_at hl 1 rfl) ?_
  refine x_callq hw (x_runV (ci := 10) C hw (m_X10_trayAt l C.2.2.2.2.2.2.2.2.1 hX h) (xoX_0 hX) rfl (x_gV xw_276 xw_277 xw_278 xw_2 xw_279) rfl rfl qX10_trayAt ⟨(Nat.le_of_ble_eq_true rfl), (Nat.le_of_ble_eq_true rfl)⟩ rfl hl.1 rfl (Nat.le_of_ble_eq_true rfl) dX10_suspects_2) (fun u1 H locs hw h => ?_) (fun t2 u1 H locs hw hkt2 h => ?_)
  · have h := h.1 rfl
    refine lv_astore_nN (lv' := [(2, .null), (0, .ref (xad g 0)), (1, .int a1)]) hx hb dX10_suspects_5 rfl hl (by decide) rfl (fun ls hl => ?_)
    refine lv_aload_nN hx hb dX10_suspects_6 rfl (lv_at hl 0 rfl) ?_
    refine lv_ifnonnullN hx hb dX10_suspects_7 ?_
    refine lv_aload_n hx hb dX10_suspects_10 rfl (lv_at hl 1 rfl) ?_
    refine lv_iconst (v := 1) hx hb dX10_suspects_11 (by decide) ?_
    refine x_calli hw (x_runV (ci := 10) C hw (m_X10_none l C.2.2.2.2.2.2.2.2.1 hX h) (xoX_0 hX) rfl (x_gV xw_343 xw_344 xw_345 xw_2 xw_346) rfl rfl qX10_none ⟨(Nat.le_of_ble_eq_true rfl), (Nat.le_of_ble_eq_true rfl)⟩ rfl hl.1 rfl (Nat.le_of_ble_eq_true rfl) dX10_suspects_12) (fun r4 u3 H locs hw h => ?_)
    exact x_iret C hw h dX10_suspects_15
  · have h := h.2 t2 rfl
    have ht2 : xpY g t2 := xpY_of hX hkt2
    refine lv_astore_n (lv' := [(2, .ref (xad g t2)), (0, .ref (xad g 0)), (1, .int a1)]) hx hb dX10_suspects_5 rfl hl (by decide) rfl (fun ls hl => ?_)
    refine lv_aload_n hx hb dX10_suspects_6 rfl (lv_at hl 0 rfl) ?_
    refine lv_ifnonnull (tgt := 16) hx hb dX10_suspects_7 (by decide) ?_
    refine lv_aload_n hx hb dX10_suspects_16 rfl (lv_at hl 0 rfl) ?_
    refine x_callz hw (x_runV (ci := 9) C hw (m_X9_isMissing l C.2.2.2.2.2.2.2.2.1 ht2 h) (xoY_0 ht2) rfl (x_gV xw_311 xw_312 xw_313 xw_50 xw_314) rfl rfl qX9_isMissing ⟨(Nat.le_of_ble_eq_true rfl), (Nat.le_of_ble_eq_true rfl)⟩ rfl hl.1 rfl (Nat.le_of_ble_eq_true rfl) dX10_suspects_17) (fun r6 u5 H locs hw h => ?_)
    refine lv_if_eq (tgt := 29) hx hb dX10_suspects_20 (by decide) (fun c7 => ?_) (fun c7 => ?_)
    · have h := h.1 (xb_f c7)
      refine lv_aload_n hx hb dX10_suspects_29 rfl (lv_at hl 0 rfl) ?_
      refine lv_iconst (v := 0) hx hb dX10_suspects_30 (by decide) ?_
      refine lv_aload_n hx hb dX10_suspects_31 rfl (lv_at hl 1 rfl) ?_
      refine x_getr (ci := 10) C hw 0 (xoX_0 hX) rfl inlX10 (by decide) rfl rfl xrX_0_0 xw_16 dX10_suspects_32 ?_
      refine x_getr (ci := 1) C hw 0 (xoL_0 (xpL_83 hX)) rfl inlX1 (by decide) rfl rfl (xrL_0_0 (xpL_83 hX)) xw_858 dX10_suspects_35 ?_
      refine x_geti (ci := 7) C hw 0 (xoL_1 (xpL_83 hX)) rfl inlX7 (by decide) rfl rfl xw_859 dX10_suspects_38 ?_
      refine x_callz hw (x_runV (ci := 9) C hw (m_X9_hasRow l C.2.2.2.2.2.2.2.2.1 ht2 h) (xoY_0 ht2) rfl (x_gV xw_366 xw_367 xw_368 xw_50 xw_369) rfl rfl qX9_hasRow ⟨(Nat.le_of_ble_eq_true rfl), (Nat.le_of_ble_eq_true rfl)⟩ rfl hl.1 rfl (Nat.le_of_ble_eq_true rfl) dX10_suspects_41) (fun r9 u8 H locs hw h => ?_)
      refine lv_if_ne (tgt := 53) hx hb dX10_suspects_44 (by decide) (fun c10 => ?_) (fun c10 => ?_)
      · have h := h.1 (xb_t c10)
        refine lv_aload_n hx hb dX10_suspects_53 rfl (lv_at hl 1 rfl) ?_
        refine x_getr (ci := 10) C hw 3 (xoX_0 hX) rfl inlX10 (by decide) rfl rfl xrX_0_3 xw_25 dX10_suspects_54 ?_
        refine lv_aload_n hx hb dX10_suspects_57 rfl (lv_at hl 1 rfl) ?_
        refine x_getr (ci := 10) C hw 0 (xoX_0 hX) rfl inlX10 (by decide) rfl rfl xrX_0_0 xw_16 dX10_suspects_58 ?_
        refine x_callv hw (x_runV (ci := 6) C hw (m_X6_findPrints l C.2.2.2.2.2.2.2.2.1 hX (xpL_83 hX) h) (xoX_5 hX) rfl (x_gV xw_1766 xw_1767 xw_1768 xw_24 xw_1769) rfl rfl qX6_findPrints ⟨(Nat.le_of_ble_eq_true rfl), (Nat.le_of_ble_eq_true rfl)⟩ rfl hl.1 rfl (Nat.le_of_ble_eq_true rfl) dX10_suspects_61) (fun u11 H locs hw h => ?_)
        refine lv_iconst (v := 0) hx hb dX10_suspects_64 (by decide) ?_
        refine lv_istore_n (lv' := [(3, .int 0), (2, .ref (xad g t2)), (0, .ref (xad g 0)), (1, .int a1)]) hx hb dX10_suspects_65 rfl hl (by decide) rfl (fun ls hl => ?_)
        refine lv_iconst (v := 0) hx hb dX10_suspects_66 (by decide) ?_
        refine lv_istore (lv' := [(4, .int 0), (3, .int 0), (2, .ref (xad g t2)), (0, .ref (xad g 0)), (1, .int a1)]) hx hb dX10_suspects_67 hl (by decide) rfl (fun ls hl => ?_)
        obtain ⟨n9, h⟩ := h
        exact s_X10_suspects_L69 C hX n9 ht2 hw (lv_sub hl [3, 2, 1, 0] rfl) h
      · have h := h.2 (xb_f c10)
        refine lv_aload_n hx hb dX10_suspects_47 rfl (lv_at hl 1 rfl) ?_
        refine lv_iconst (v := 3) hx hb dX10_suspects_48 (by decide) ?_
        refine x_calli hw (x_runV (ci := 10) C hw (m_X10_none l C.2.2.2.2.2.2.2.2.1 hX h) (xoX_0 hX) rfl (x_gV xw_343 xw_344 xw_345 xw_2 xw_346) rfl rfl qX10_none ⟨(Nat.le_of_ble_eq_true rfl), (Nat.le_of_ble_eq_true rfl)⟩ rfl hl.1 rfl (Nat.le_of_ble_eq_true rfl) dX10_suspects_49) (fun r13 u12 H locs hw h => ?_)
        exact x_iret C hw h dX10_suspects_52
    · have h := h.2 (xb_t c7)
      refine lv_aload_n hx hb dX10_suspects_23 rfl (lv_at hl 1 rfl) ?_
      refine lv_iconst (v := 2) hx hb dX10_suspects_24 (by decide) ?_
      refine x_calli hw (x_runV (ci := 10) C hw (m_X10_none l C.2.2.2.2.2.2.2.2.1 hX h) (xoX_0 hX) rfl (x_gV xw_343 xw_344 xw_345 xw_2 xw_346) rfl rfl qX10_none ⟨(Nat.le_of_ble_eq_true rfl), (Nat.le_of_ble_eq_true rfl)⟩ rfl hl.1 rfl (Nat.le_of_ble_eq_true rfl) dX10_suspects_25) (fun r15 u14 H locs hw h => ?_)
      exact x_iret C hw h dX10_suspects_28
set_option maxHeartbeats 4000000 in
set_option maxRecDepth 100000 in
theorem m_X10_suspects (l : Launch) {g : xG} (hD : x_D g) (hX : xpX g) {a1 : Int32} {u : xM} {Qf : Int32 → xM → Prop} (h : p_X10_suspects a1 u Qf) : Met l yX10_suspects (Cond.code yX10_suspects cX10_suspects 5 (some .int) :: wsL_law) (x_rm 5 174) (va_Pc [.ref (xad g 0), .int a1] (x_B g u)) (x_Qi g Qf) 0 0 (x_A g) := by
  refine Met.ofW (cc := cX10_suspects) (maxL := 5) (ret := (some .int)) (by decide) rfl ?_
  intro p e s m args below meth c s₁ B hml hv
  obtain ⟨rfl, hB⟩ := hv
  obtain ⟨C, hw⟩ := x_start B hml hD hB
  have hl := lv_entry [.ref (xad g 0), .int a1] (n := 5) (Nat.le_of_ble_eq_true rfl)
  rw [lg_entry_eq]
  exact s_X10_suspects C hX hw hl h
set_option maxHeartbeats 4000000 in
set_option maxRecDepth 100000 in
theorem s_X6_isAmong_L3 {o1 : Nat} {Qf : Bool → xM → Prop} (C : x_C p s m args meth c g RX6 cX6_isAmong 5 (some .boolean)) (hX : xpX g) (ho1 : xpL g o1) : ∀ (nn : Nat) {v2 : Int32} {v3 : Int32} {v4 : Int32} {u : xM} {H : Heap} {locs : List Loc} {ls : Array Slot} (hw : x_W g s.heap H locs u) (hl : lv_has ls 5 [(0, .ref (xad g 5)), (1, .ref (xad g (o1 + 9))), (2, .int v2), (3, .int v3), (4, .int v4)]) (h : p_X6_isAmong_L3 o1 Qf nn v2 v3 v4 u), W p l e (x_rm 1 21) s m args below meth c H locs 0 0 (MQ below (x_Qz g Qf) args s 0 0 (x_A g)) (F0 m 3 ls []) := by
  intro nn
  induction nn with
  | zero => intro v2 v3 v4 u H locs ls hw hl h; exact h.elim
  | succ nn ih =>
    intro v2 v3 v4 u H locs ls hw hl h
    unfold p_X6_isAmong_L3 at h
    have hx := C.1
    have hb := C.2.1
    refine lv_iload hx hb dX6_isAmong_3 (lv_at hl 4 rfl) ?_
    refine lv_iload_n hx hb dX6_isAmong_5 rfl (lv_at hl 2 rfl) ?_
    refine lv_icmp_ge (tgt := 46) hx hb dX6_isAmong_6 (by decide) (fun c1 => ?_) (fun c1 => ?_)
    · have h := h.1 c1
      refine lv_iconst (v := 0) hx hb dX6_isAmong_46 (by decide) ?_
      exact x_zret false C hw h rfl dX6_isAmong_47
    · have h := h.2 c1
      refine lv_aload_n hx hb dX6_isAmong_9 rfl (lv_at hl 1 rfl) ?_
      refine lv_iload hx hb dX6_isAmong_10 (lv_at hl 4 rfl) ?_
      refine x_callz hw (x_runV (ci := 0) C hw (m_X0_isWalled l C.2.2.2.2.2.2.2.2.1 ho1 h) (xoL_9 ho1) rfl (x_gV xw_1806 xw_1045 xw_1046 xw_61 xw_1047) rfl rfl qX0_isWalled ⟨(Nat.le_of_ble_eq_true rfl), (Nat.le_of_ble_eq_true rfl)⟩ rfl hl.1 rfl (Nat.le_of_ble_eq_true rfl) dX6_isAmong_12) (fun r3 u2 H locs hw h => ?_)
      refine lv_if_ne (tgt := 40) hx hb dX6_isAmong_15 (by decide) (fun c4 => ?_) (fun c4 => ?_)
      · have h := h.1 (xb_t c4)
        obtain ⟨x5, ex5⟩ : ∃ y : Int32, y = v4 + 1 := ⟨_, rfl⟩
        have h := h x5 ex5
        refine lv_iinc (v := x5) (lv' := [(4, .int x5), (0, .ref (xad g 5)), (1, .ref (xad g (o1 + 9))), (2, .int v2), (3, .int v3)]) hx hb dX6_isAmong_40 hl (k := 4) rfl (by rw [ex5]; rfl) (by decide) rfl (fun ls hl => ?_)
        refine lv_goto (tgt := 3) hx hb dX6_isAmong_43 (by decide) ?_
        exact ih hw (lv_sub hl [1, 2, 3, 4, 0] rfl) h
      · have h := h.2 (xb_f c4)
        refine lv_aload_n hx hb dX6_isAmong_18 rfl (lv_at hl 0 rfl) ?_
        refine x_getr (ci := 6) C hw 1 (xoX_5 hX) rfl inlX6 (by decide) rfl rfl xrX_5_1 xw_113 dX6_isAmong_19 ?_
        refine lv_iload hx hb dX6_isAmong_22 (lv_at hl 4 rfl) ?_
        have c6 := h.1
        have h := h.2
        refine x_aald C hw (xoX_6 hX) (by decide) (by decide) c6 (xa_6 c6) dX6_isAmong_24 ?_
        refine lv_iload_n hx hb dX6_isAmong_25 rfl (lv_at hl 3 rfl) ?_
        have c7 := h.1
        have h := h.2
        refine x_iald C hw (xok_6 hX c6) c7 dX6_isAmong_26 ?_
        refine lv_aload_n hx hb dX6_isAmong_27 rfl (lv_at hl 0 rfl) ?_
        refine x_getr (ci := 6) C hw 1 (xoX_5 hX) rfl inlX6 (by decide) rfl rfl xrX_5_1 xw_113 dX6_isAmong_28 ?_
        refine lv_iload_n hx hb dX6_isAmong_31 rfl (lv_at hl 2 rfl) ?_
        have c8 := h.1
        have h := h.2
        refine x_aald C hw (xoX_6 hX) (by decide) (by decide) c8 (xa_6 c8) dX6_isAmong_32 ?_
        refine lv_iload_n hx hb dX6_isAmong_33 rfl (lv_at hl 3 rfl) ?_
        have c9 := h.1
        have h := h.2
        refine x_iald C hw (xok_6 hX c8) c9 dX6_isAmong_34 ?_
        refine lv_icmp_ne (tgt := 40) hx hb dX6_isAmong_35 (by decide) (fun c10 => ?_) (fun c10 => ?_)
        · have h := h.1 c10
          obtain ⟨x11, ex11⟩ : ∃ y : Int32, y = v4 + 1 := ⟨_, rfl⟩
          have h := h x11 ex11
          refine lv_iinc (v := x11) (lv' := [(4, .int x11), (0, .ref (xad g 5)), (1, .ref (xad g (o1 + 9))), (2, .int v2), (3, .int v3)]) hx hb dX6_isAmong_40 hl (k := 4) rfl (by rw [ex11]; rfl) (by decide) rfl (fun ls hl => ?_)
          refine lv_goto (tgt := 3) hx hb dX6_isAmong_43 (by decide) ?_
          exact ih hw (lv_sub hl [1, 2, 3, 4, 0] rfl) h
        · have h := h.2 c10
          refine lv_iconst (v := 1) hx hb dX6_isAmong_38 (by decide) ?_
          exact x_zret true C hw h rfl dX6_isAmong_39
set_option maxHeartbeats 4000000 in
set_option maxRecDepth 100000 in
theorem s_X6_isAmong {o1 : Nat} {Qf : Bool → xM → Prop} {a2 : Int32} {a3 : Int32} (C : x_C p s m args meth c g RX6 cX6_isAmong 5 (some .boolean)) (hX : xpX g) (ho1 : xpL g o1) {u : xM} {H : Heap} {locs : List Loc} {ls : Array Slot} (hw : x_W g s.heap H locs u) (hl : lv_has ls 5 [(0, .ref (xad g 5)), (1, .ref (xad g (o1 + 9))), (2, .int a2), (3, .int a3)]) (h : p_X6_isAmong o1 a2 a3 u Qf) : W p l e (x_rm 1 21) s m args below meth c H locs 0 0 (MQ below (x_Qz g Qf) args s 0 0 (x_A g)) (F0 m 0 ls []) := by
  unfold p_X6_isAmong at h
  have hx := C.1
  have hb := C.2.1
  refine lv_iconst (v := 0) hx hb dX6_isAmong_0 (by decide) ?_
  refine lv_istore (lv' := [(4, .int 0), (0, .ref (xad g 5)), (1, .ref (xad g (o1 + 9))), (2, .int a2), (3, .int a3)]) hx hb dX6_isAmong_1 hl (by decide) rfl (fun ls hl => ?_)
  obtain ⟨n9, h⟩ := h
  exact s_X6_isAmong_L3 C hX ho1 n9 hw (lv_sub hl [1, 2, 3, 4, 0] rfl) h
set_option maxHeartbeats 4000000 in
set_option maxRecDepth 100000 in
theorem m_X6_isAmong (l : Launch) {g : xG} (hD : x_D g) {o1 : Nat} (hX : xpX g) (ho1 : xpL g o1) {a2 : Int32} {a3 : Int32} {u : xM} {Qf : Bool → xM → Prop} (h : p_X6_isAmong o1 a2 a3 u Qf) : Met l yX6_isAmong (Cond.code yX6_isAmong cX6_isAmong 5 (some .boolean) :: wsL_law) (x_rm 1 21) (va_Pc [.ref (xad g 5), .ref (xad g (o1 + 9)), .int a2, .int a3] (x_B g u)) (x_Qz g Qf) 0 0 (x_A g) := by
  refine Met.ofW (cc := cX6_isAmong) (maxL := 5) (ret := (some .boolean)) (by decide) rfl ?_
  intro p e s m args below meth c s₁ B hml hv
  obtain ⟨rfl, hB⟩ := hv
  obtain ⟨C, hw⟩ := x_start B hml hD hB
  have hl := lv_entry [.ref (xad g 5), .ref (xad g (o1 + 9)), .int a2, .int a3] (n := 5) (Nat.le_of_ble_eq_true rfl)
  rw [lg_entry_eq]
  exact s_X6_isAmong C hX ho1 hw hl h
set_option maxHeartbeats 4000000 in
set_option maxRecDepth 100000 in
theorem s_X6_unlikeMarks_L5 {o1 : Nat} {Qf : Int32 → xM → Prop} (C : x_C p s m args meth c g RX6 cX6_unlikeMarks 5 (some .int)) (hX : xpX g) (ho1 : xpL g o1) : ∀ (nn : Nat) {v2 : Int32} {v3 : Int32} {v4 : Int32} {u : xM} {H : Heap} {locs : List Loc} {ls : Array Slot} (hw : x_W g s.heap H locs u) (hl : lv_has ls 5 [(0, .ref (xad g 5)), (1, .ref (xad g (o1 + 9))), (2, .int v2), (3, .int v3), (4, .int v4)]) (h : p_X6_unlikeMarks_L5 o1 Qf nn v2 v3 v4 u), W p l e (x_rm 2 45) s m args below meth c H locs 0 0 (MQ below (x_Qi g Qf) args s 0 0 (x_A g)) (F0 m 5 ls []) := by
  intro nn
  induction nn with
  | zero => intro v2 v3 v4 u H locs ls hw hl h; exact h.elim
  | succ nn ih =>
    intro v2 v3 v4 u H locs ls hw hl h
    unfold p_X6_unlikeMarks_L5 at h
    have hx := C.1
    have hb := C.2.1
    refine lv_iload hx hb dX6_unlikeMarks_5 (lv_at hl 4 rfl) ?_
    refine lv_aload_n hx hb dX6_unlikeMarks_7 rfl (lv_at hl 1 rfl) ?_
    refine x_geti (ci := 0) C hw 0 (xoL_9 ho1) rfl inlX0 (by decide) rfl rfl xw_1770 dX6_unlikeMarks_8 ?_
    refine lv_icmp_ge (tgt := 43) hx hb dX6_unlikeMarks_11 (by decide) (fun c1 => ?_) (fun c1 => ?_)
    · have h := h.1 c1
      refine lv_iload_n hx hb dX6_unlikeMarks_43 rfl (lv_at hl 3 rfl) ?_
      exact x_iret C hw h dX6_unlikeMarks_44
    · have h := h.2 c1
      refine lv_aload_n hx hb dX6_unlikeMarks_14 rfl (lv_at hl 1 rfl) ?_
      refine lv_iload hx hb dX6_unlikeMarks_15 (lv_at hl 4 rfl) ?_
      refine x_callz hw (x_runV (ci := 0) C hw (m_X0_isWalled l C.2.2.2.2.2.2.2.2.1 ho1 h) (xoL_9 ho1) rfl (x_gV xw_1806 xw_1045 xw_1046 xw_61 xw_1047) rfl rfl qX0_isWalled ⟨(Nat.le_of_ble_eq_true rfl), (Nat.le_of_ble_eq_true rfl)⟩ rfl hl.1 rfl (Nat.le_of_ble_eq_true rfl) dX6_unlikeMarks_17) (fun r3 u2 H locs hw h => ?_)
      refine lv_if_ne (tgt := 37) hx hb dX6_unlikeMarks_20 (by decide) (fun c4 => ?_) (fun c4 => ?_)
      · have h := h.1 (xb_t c4)
        obtain ⟨x5, ex5⟩ : ∃ y : Int32, y = v4 + 1 := ⟨_, rfl⟩
        have h := h x5 ex5
        refine lv_iinc (v := x5) (lv' := [(4, .int x5), (0, .ref (xad g 5)), (1, .ref (xad g (o1 + 9))), (2, .int v2), (3, .int v3)]) hx hb dX6_unlikeMarks_37 hl (k := 4) rfl (by rw [ex5]; rfl) (by decide) rfl (fun ls hl => ?_)
        refine lv_goto (tgt := 5) hx hb dX6_unlikeMarks_40 (by decide) ?_
        exact ih hw (lv_sub hl [1, 2, 3, 4, 0] rfl) h
      · have h := h.2 (xb_f c4)
        refine lv_aload_n hx hb dX6_unlikeMarks_23 rfl (lv_at hl 0 rfl) ?_
        refine lv_aload_n hx hb dX6_unlikeMarks_24 rfl (lv_at hl 1 rfl) ?_
        refine lv_iload hx hb dX6_unlikeMarks_25 (lv_at hl 4 rfl) ?_
        refine lv_iload_n hx hb dX6_unlikeMarks_27 rfl (lv_at hl 2 rfl) ?_
        refine x_callz hw (x_runV (ci := 6) C hw (m_X6_isAmong l C.2.2.2.2.2.2.2.2.1 hX ho1 h) (xoX_5 hX) rfl (x_gV xw_1807 xw_1808 xw_1809 xw_24 xw_1810) rfl rfl qX6_isAmong ⟨(Nat.le_of_ble_eq_true rfl), (Nat.le_of_ble_eq_true rfl)⟩ rfl hl.1 rfl (Nat.le_of_ble_eq_true rfl) dX6_unlikeMarks_28) (fun r7 u6 H locs hw h => ?_)
        refine lv_if_ne (tgt := 37) hx hb dX6_unlikeMarks_31 (by decide) (fun c8 => ?_) (fun c8 => ?_)
        · have h := h.1 (xb_t c8)
          obtain ⟨x9, ex9⟩ : ∃ y : Int32, y = v4 + 1 := ⟨_, rfl⟩
          have h := h x9 ex9
          refine lv_iinc (v := x9) (lv' := [(4, .int x9), (0, .ref (xad g 5)), (1, .ref (xad g (o1 + 9))), (2, .int v2), (3, .int v3)]) hx hb dX6_unlikeMarks_37 hl (k := 4) rfl (by rw [ex9]; rfl) (by decide) rfl (fun ls hl => ?_)
          refine lv_goto (tgt := 5) hx hb dX6_unlikeMarks_40 (by decide) ?_
          exact ih hw (lv_sub hl [1, 2, 3, 4, 0] rfl) h
        · have h := h.2 (xb_f c8)
          obtain ⟨x10, ex10⟩ : ∃ y : Int32, y = v3 + 1 := ⟨_, rfl⟩
          have h := h x10 ex10
          refine lv_iinc (v := x10) (lv' := [(3, .int x10), (0, .ref (xad g 5)), (1, .ref (xad g (o1 + 9))), (2, .int v2), (4, .int v4)]) hx hb dX6_unlikeMarks_34 hl (k := 3) rfl (by rw [ex10]; rfl) (by decide) rfl (fun ls hl => ?_)
          obtain ⟨x11, ex11⟩ : ∃ y : Int32, y = v4 + 1 := ⟨_, rfl⟩
          have h := h x11 ex11
          refine lv_iinc (v := x11) (lv' := [(4, .int x11), (3, .int x10), (0, .ref (xad g 5)), (1, .ref (xad g (o1 + 9))), (2, .int v2)]) hx hb dX6_unlikeMarks_37 hl (k := 4) rfl (by rw [ex11]; rfl) (by decide) rfl (fun ls hl => ?_)
          refine lv_goto (tgt := 5) hx hb dX6_unlikeMarks_40 (by decide) ?_
          exact ih hw (lv_sub hl [2, 3, 4, 1, 0] rfl) h
set_option maxHeartbeats 4000000 in
set_option maxRecDepth 100000 in
theorem s_X6_unlikeMarks {o1 : Nat} {Qf : Int32 → xM → Prop} {a2 : Int32} (C : x_C p s m args meth c g RX6 cX6_unlikeMarks 5 (some .int)) (hX : xpX g) (ho1 : xpL g o1) {u : xM} {H : Heap} {locs : List Loc} {ls : Array Slot} (hw : x_W g s.heap H locs u) (hl : lv_has ls 5 [(0, .ref (xad g 5)), (1, .ref (xad g (o1 + 9))), (2, .int a2)]) (h : p_X6_unlikeMarks o1 a2 u Qf) : W p l e (x_rm 2 45) s m args below meth c H locs 0 0 (MQ below (x_Qi g Qf) args s 0 0 (x_A g)) (F0 m 0 ls []) := by
  unfold p_X6_unlikeMarks at h
  have hx := C.1
  have hb := C.2.1
  refine lv_iconst (v := 0) hx hb dX6_unlikeMarks_0 (by decide) ?_
  refine lv_istore_n (lv' := [(3, .int 0), (0, .ref (xad g 5)), (1, .ref (xad g (o1 + 9))), (2, .int a2)]) hx hb dX6_unlikeMarks_1 rfl hl (by decide) rfl (fun ls hl => ?_)
  refine lv_iconst (v := 0) hx hb dX6_unlikeMarks_2 (by decide) ?_
  refine lv_istore (lv' := [(4, .int 0), (3, .int 0), (0, .ref (xad g 5)), (1, .ref (xad g (o1 + 9))), (2, .int a2)]) hx hb dX6_unlikeMarks_3 hl (by decide) rfl (fun ls hl => ?_)
  obtain ⟨n9, h⟩ := h
  exact s_X6_unlikeMarks_L5 C hX ho1 n9 hw (lv_sub hl [2, 3, 4, 1, 0] rfl) h
set_option maxHeartbeats 4000000 in
set_option maxRecDepth 100000 in
theorem m_X6_unlikeMarks (l : Launch) {g : xG} (hD : x_D g) {o1 : Nat} (hX : xpX g) (ho1 : xpL g o1) {a2 : Int32} {u : xM} {Qf : Int32 → xM → Prop} (h : p_X6_unlikeMarks o1 a2 u Qf) : Met l yX6_unlikeMarks (Cond.code yX6_unlikeMarks cX6_unlikeMarks 5 (some .int) :: wsL_law) (x_rm 2 45) (va_Pc [.ref (xad g 5), .ref (xad g (o1 + 9)), .int a2] (x_B g u)) (x_Qi g Qf) 0 0 (x_A g) := by
  refine Met.ofW (cc := cX6_unlikeMarks) (maxL := 5) (ret := (some .int)) (by decide) rfl ?_
  intro p e s m args below meth c s₁ B hml hv
  obtain ⟨rfl, hB⟩ := hv
  obtain ⟨C, hw⟩ := x_start B hml hD hB
  have hl := lv_entry [.ref (xad g 5), .ref (xad g (o1 + 9)), .int a2] (n := 5) (Nat.le_of_ble_eq_true rfl)
  rw [lg_entry_eq]
  exact s_X6_unlikeMarks C hX ho1 hw hl h
set_option maxHeartbeats 4000000 in
set_option maxRecDepth 100000 in
theorem s_X10_telling_L17 {Qf : Int32 → xM → Prop} (C : x_C p s m args meth c g RX10 cX10_telling 5 (some .int)) (hX : xpX g) : ∀ (nn : Nat) {v1 : Int32} {v2 : Int32} {v3 : Int32} {u : xM} {H : Heap} {locs : List Loc} {ls : Array Slot} (hw : x_W g s.heap H locs u) (hl : lv_has ls 5 [(0, .ref (xad g 0)), (1, .int v1), (2, .int v2), (3, .int v3)]) (h : p_X10_telling_L17 Qf nn v1 v2 v3 u), W p l e (x_rm 5 174) s m args below meth c H locs 0 0 (MQ below (x_Qi g Qf) args s 0 0 (x_A g)) (F0 m 17 ls []) := by
  intro nn
  induction nn with
  | zero => intro v1 v2 v3 u H locs ls hw hl h; exact h.elim
  | succ nn ih =>
    intro v1 v2 v3 u H locs ls hw hl h
    unfold p_X10_telling_L17 at h
    have hx := C.1
    have hb := C.2.1
    refine lv_iload_n hx hb dX10_telling_17 rfl (lv_at hl 3 rfl) ?_
    refine lv_aload_n hx hb dX10_telling_18 rfl (lv_at hl 0 rfl) ?_
    refine x_getr (ci := 10) C hw 0 (xoX_0 hX) rfl inlX10 (by decide) rfl rfl xrX_0_0 xw_16 dX10_telling_19 ?_
    refine x_getr (ci := 1) C hw 0 (xoL_0 (xpL_83 hX)) rfl inlX1 (by decide) rfl rfl (xrL_0_0 (xpL_83 hX)) xw_858 dX10_telling_22 ?_
    refine x_geti (ci := 7) C hw 0 (xoL_1 (xpL_83 hX)) rfl inlX7 (by decide) rfl rfl xw_859 dX10_telling_25 ?_
    refine lv_icmp_ge (tgt := 65) hx hb dX10_telling_28 (by decide) (fun c1 => ?_) (fun c1 => ?_)
    · have h := h.1 c1
      refine lv_iload_n hx hb dX10_telling_65 rfl (lv_at hl 1 rfl) ?_
      refine lv_iconst (v := -1) hx hb dX10_telling_66 (by decide) ?_
      refine lv_icmp_ne (tgt := 79) hx hb dX10_telling_67 (by decide) (fun c2 => ?_) (fun c2 => ?_)
      · have h := h.1 c2
        refine lv_aload_n hx hb dX10_telling_79 rfl (lv_at hl 0 rfl) ?_
        refine lv_iload_n hx hb dX10_telling_80 rfl (lv_at hl 1 rfl) ?_
        refine x_calli hw (x_runV (ci := 10) C hw (m_X10_fine l C.2.2.2.2.2.2.2.2.1 hX h) (xoX_0 hX) rfl (x_gV xw_622 xw_623 xw_624 xw_2 xw_625) rfl rfl qX10_fine ⟨(Nat.le_of_ble_eq_true rfl), (Nat.le_of_ble_eq_true rfl)⟩ rfl hl.1 rfl (Nat.le_of_ble_eq_true rfl) dX10_telling_81) (fun r4 u3 H locs hw h => ?_)
        exact x_iret C hw h dX10_telling_84
      · have h := h.2 c2
        refine lv_aload_n hx hb dX10_telling_70 rfl (lv_at hl 0 rfl) ?_
        refine lv_bipush (v := 6) hx hb dX10_telling_71 (by decide) ?_
        refine x_calli hw (x_runV (ci := 10) C hw (m_X10_none l C.2.2.2.2.2.2.2.2.1 hX h) (xoX_0 hX) rfl (x_gV xw_343 xw_344 xw_345 xw_2 xw_346) rfl rfl qX10_none ⟨(Nat.le_of_ble_eq_true rfl), (Nat.le_of_ble_eq_true rfl)⟩ rfl hl.1 rfl (Nat.le_of_ble_eq_true rfl) dX10_telling_73) (fun r6 u5 H locs hw h => ?_)
        refine lv_goto (tgt := 84) hx hb dX10_telling_76 (by decide) ?_
        exact x_iret C hw h dX10_telling_84
    · have h := h.2 c1
      refine lv_aload_n hx hb dX10_telling_31 rfl (lv_at hl 0 rfl) ?_
      refine x_getr (ci := 10) C hw 3 (xoX_0 hX) rfl inlX10 (by decide) rfl rfl xrX_0_3 xw_25 dX10_telling_32 ?_
      refine lv_aload_n hx hb dX10_telling_35 rfl (lv_at hl 0 rfl) ?_
      refine x_getr (ci := 10) C hw 0 (xoX_0 hX) rfl inlX10 (by decide) rfl rfl xrX_0_0 xw_16 dX10_telling_36 ?_
      refine x_getr (ci := 1) C hw 1 (xoL_0 (xpL_83 hX)) rfl inlX1 (by decide) rfl rfl (xrL_0_1 (xpL_83 hX)) xw_398 dX10_telling_39 ?_
      refine lv_iload_n hx hb dX10_telling_42 rfl (lv_at hl 3 rfl) ?_
      refine x_calli hw (x_runV (ci := 6) C hw (m_X6_unlikeMarks l C.2.2.2.2.2.2.2.2.1 hX (xpL_83 hX) h) (xoX_5 hX) rfl (x_gV xw_1802 xw_1803 xw_1804 xw_24 xw_1805) rfl rfl qX6_unlikeMarks ⟨(Nat.le_of_ble_eq_true rfl), (Nat.le_of_ble_eq_true rfl)⟩ rfl hl.1 rfl (Nat.le_of_ble_eq_true rfl) dX10_telling_43) (fun r8 u7 H locs hw h => ?_)
      refine lv_istore (lv' := [(4, .int r8), (0, .ref (xad g 0)), (1, .int v1), (2, .int v2), (3, .int v3)]) hx hb dX10_telling_46 hl (by decide) rfl (fun ls hl => ?_)
      refine lv_iload hx hb dX10_telling_48 (lv_at hl 0 rfl) ?_
      refine lv_iload_n hx hb dX10_telling_50 rfl (lv_at hl 3 rfl) ?_
      refine lv_icmp_le (tgt := 59) hx hb dX10_telling_51 (by decide) (fun c9 => ?_) (fun c9 => ?_)
      · have h := h.1 c9
        obtain ⟨x10, ex10⟩ : ∃ y : Int32, y = v3 + 1 := ⟨_, rfl⟩
        have h := h x10 ex10
        refine lv_iinc (v := x10) (lv' := [(3, .int x10), (4, .int r8), (0, .ref (xad g 0)), (1, .int v1), (2, .int v2)]) hx hb dX10_telling_59 hl (k := 4) rfl (by rw [ex10]; rfl) (by decide) rfl (fun ls hl => ?_)
        refine lv_goto (tgt := 17) hx hb dX10_telling_62 (by decide) ?_
        exact ih hw (lv_sub hl [2, 3, 4, 0] rfl) h
      · have h := h.2 c9
        refine lv_iload hx hb dX10_telling_54 (lv_at hl 0 rfl) ?_
        refine lv_istore_n (lv' := [(2, .int r8), (4, .int r8), (0, .ref (xad g 0)), (1, .int v1), (3, .int v3)]) hx hb dX10_telling_56 rfl hl (by decide) rfl (fun ls hl => ?_)
        refine lv_iload_n hx hb dX10_telling_57 rfl (lv_at hl 4 rfl) ?_
        refine lv_istore_n (lv' := [(1, .int v3), (2, .int r8), (4, .int r8), (0, .ref (xad g 0)), (3, .int v3)]) hx hb dX10_telling_58 rfl hl (by decide) rfl (fun ls hl => ?_)
        obtain ⟨x11, ex11⟩ : ∃ y : Int32, y = v3 + 1 := ⟨_, rfl⟩
        have h := h x11 ex11
        refine lv_iinc (v := x11) (lv' := [(3, .int x11), (1, .int v3), (2, .int r8), (4, .int r8), (0, .ref (xad g 0))]) hx hb dX10_telling_59 hl (k := 4) rfl (by rw [ex11]; rfl) (by decide) rfl (fun ls hl => ?_)
        refine lv_goto (tgt := 17) hx hb dX10_telling_62 (by decide) ?_
        exact ih hw (lv_sub hl [4, 1, 2, 0] rfl) h
set_option maxHeartbeats 4000000 in
set_option maxRecDepth 100000 in
theorem s_X10_telling {Qf : Int32 → xM → Prop} (C : x_C p s m args meth c g RX10 cX10_telling 5 (some .int)) (hX : xpX g) {u : xM} {H : Heap} {locs : List Loc} {ls : Array Slot} (hw : x_W g s.heap H locs u) (hl : lv_has ls 5 [(0, .ref (xad g 0))]) (h : p_X10_telling  u Qf) : W p l e (x_rm 5 174) s m args below meth c H locs 0 0 (MQ below (x_Qi g Qf) args s 0 0 (x_A g)) (F0 m 0 ls []) := by
  unfold p_X10_telling at h
  have hx := C.1
  have hb := C.2.1
  refine lv_aload_n hx hb dX10_telling_0 rfl (lv_at hl 0 rfl) ?_
  refine x_getr (ci := 10) C hw 3 (xoX_0 hX) rfl inlX10 (by decide) rfl rfl xrX_0_3 xw_25 dX10_telling_1 ?_
  refine lv_aload_n hx hb dX10_telling_4 rfl (lv_at hl 0 rfl) ?_
  refine x_getr (ci := 10) C hw 0 (xoX_0 hX) rfl inlX10 (by decide) rfl rfl xrX_0_0 xw_16 dX10_telling_5 ?_
  refine x_callv hw (x_runV (ci := 6) C hw (m_X6_findPrints l C.2.2.2.2.2.2.2.2.1 hX (xpL_83 hX) h) (xoX_5 hX) rfl (x_gV xw_1766 xw_1767 xw_1768 xw_24 xw_1769) rfl rfl qX6_findPrints ⟨(Nat.le_of_ble_eq_true rfl), (Nat.le_of_ble_eq_true rfl)⟩ rfl hl.1 rfl (Nat.le_of_ble_eq_true rfl) dX10_telling_8) (fun u1 H locs hw h => ?_)
  refine lv_iconst (v := -1) hx hb dX10_telling_11 (by decide) ?_
  refine lv_istore_n (lv' := [(1, .int (-1)), (0, .ref (xad g 0))]) hx hb dX10_telling_12 rfl hl (by decide) rfl (fun ls hl => ?_)
  refine lv_iconst (v := -1) hx hb dX10_telling_13 (by decide) ?_
  refine lv_istore_n (lv' := [(2, .int (-1)), (1, .int (-1)), (0, .ref (xad g 0))]) hx hb dX10_telling_14 rfl hl (by decide) rfl (fun ls hl => ?_)
  refine lv_iconst (v := 0) hx hb dX10_telling_15 (by decide) ?_
  refine lv_istore_n (lv' := [(3, .int 0), (2, .int (-1)), (1, .int (-1)), (0, .ref (xad g 0))]) hx hb dX10_telling_16 rfl hl (by decide) rfl (fun ls hl => ?_)
  obtain ⟨n9, h⟩ := h
  exact s_X10_telling_L17 C hX n9 hw (lv_sub hl [3, 2, 1, 0] rfl) h
set_option maxHeartbeats 4000000 in
set_option maxRecDepth 100000 in
theorem m_X10_telling (l : Launch) {g : xG} (hD : x_D g) (hX : xpX g) {u : xM} {Qf : Int32 → xM → Prop} (h : p_X10_telling  u Qf) : Met l yX10_telling (Cond.code yX10_telling cX10_telling 5 (some .int) :: wsL_law) (x_rm 5 174) (va_Pc [.ref (xad g 0)] (x_B g u)) (x_Qi g Qf) 0 0 (x_A g) := by
  refine Met.ofW (cc := cX10_telling) (maxL := 5) (ret := (some .int)) (by decide) rfl ?_
  intro p e s m args below meth c s₁ B hml hv
  obtain ⟨rfl, hB⟩ := hv
  obtain ⟨C, hw⟩ := x_start B hml hD hB
  have hl := lv_entry [.ref (xad g 0)] (n := 5) (Nat.le_of_ble_eq_true rfl)
  rw [lg_entry_eq]
  exact s_X10_telling C hX hw hl h
set_option maxHeartbeats 4000000 in
set_option maxRecDepth 100000 in
theorem s_X10_prints {Qf : Int32 → xM → Prop} {a1 : Int32} (C : x_C p s m args meth c g RX10 cX10_prints 2 (some .int)) (hX : xpX g) {u : xM} {H : Heap} {locs : List Loc} {ls : Array Slot} (hw : x_W g s.heap H locs u) (hl : lv_has ls 2 [(0, .ref (xad g 0)), (1, .int a1)]) (h : p_X10_prints a1 u Qf) : W p l e (x_rm 5 174) s m args below meth c H locs 0 0 (MQ below (x_Qi g Qf) args s 0 0 (x_A g)) (F0 m 0 ls []) := by
  unfold p_X10_prints at h
  have hx := C.1
  have hb := C.2.1
  refine lv_aload_n hx hb dX10_prints_0 rfl (lv_at hl 0 rfl) ?_
  refine lv_iload_n hx hb dX10_prints_1 rfl (lv_at hl 1 rfl) ?_
  refine x_callz hw (x_runV (ci := 10) C hw (m_X10_isRoom l C.2.2.2.2.2.2.2.2.1 hX h) (xoX_0 hX) rfl (x_gV xw_936 xw_937 xw_938 xw_2 xw_939) rfl rfl qX10_isRoom ⟨(Nat.le_of_ble_eq_true rfl), (Nat.le_of_ble_eq_true rfl)⟩ rfl hl.1 rfl (Nat.le_of_ble_eq_true rfl) dX10_prints_2) (fun r2 u1 H locs hw h => ?_)
  refine lv_if_ne (tgt := 14) hx hb dX10_prints_5 (by decide) (fun c3 => ?_) (fun c3 => ?_)
  · have h := h.1 (xb_t c3)
    refine lv_aload_n hx hb dX10_prints_14 rfl (lv_at hl 0 rfl) ?_
    refine x_getr (ci := 10) C hw 3 (xoX_0 hX) rfl inlX10 (by decide) rfl rfl xrX_0_3 xw_25 dX10_prints_15 ?_
    refine lv_aload_n hx hb dX10_prints_18 rfl (lv_at hl 0 rfl) ?_
    refine x_getr (ci := 10) C hw 0 (xoX_0 hX) rfl inlX10 (by decide) rfl rfl xrX_0_0 xw_16 dX10_prints_19 ?_
    refine x_callv hw (x_runV (ci := 6) C hw (m_X6_findPrints l C.2.2.2.2.2.2.2.2.1 hX (xpL_83 hX) h) (xoX_5 hX) rfl (x_gV xw_1766 xw_1767 xw_1768 xw_24 xw_1769) rfl rfl qX6_findPrints ⟨(Nat.le_of_ble_eq_true rfl), (Nat.le_of_ble_eq_true rfl)⟩ rfl hl.1 rfl (Nat.le_of_ble_eq_true rfl) dX10_prints_22) (fun u4 H locs hw h => ?_)
    refine lv_aload_n hx hb dX10_prints_25 rfl (lv_at hl 0 rfl) ?_
    refine lv_aload_n hx hb dX10_prints_26 rfl (lv_at hl 0 rfl) ?_
    refine x_getr (ci := 10) C hw 3 (xoX_0 hX) rfl inlX10 (by decide) rfl rfl xrX_0_3 xw_25 dX10_prints_27 ?_
    refine lv_aload_n hx hb dX10_prints_30 rfl (lv_at hl 0 rfl) ?_
    refine x_getr (ci := 10) C hw 0 (xoX_0 hX) rfl inlX10 (by decide) rfl rfl xrX_0_0 xw_16 dX10_prints_31 ?_
    refine x_getr (ci := 1) C hw 1 (xoL_0 (xpL_83 hX)) rfl inlX1 (by decide) rfl rfl (xrL_0_1 (xpL_83 hX)) xw_398 dX10_prints_34 ?_
    refine lv_iload_n hx hb dX10_prints_37 rfl (lv_at hl 1 rfl) ?_
    refine x_calli hw (x_runV (ci := 6) C hw (m_X6_unlikeMarks l C.2.2.2.2.2.2.2.2.1 hX (xpL_83 hX) h) (xoX_5 hX) rfl (x_gV xw_1802 xw_1803 xw_1804 xw_24 xw_1805) rfl rfl qX6_unlikeMarks ⟨(Nat.le_of_ble_eq_true rfl), (Nat.le_of_ble_eq_true rfl)⟩ rfl hl.1 rfl (Nat.le_of_ble_eq_true rfl) dX10_prints_38) (fun r6 u5 H locs hw h => ?_)
    refine x_calli hw (x_runV (ci := 10) C hw (m_X10_fine l C.2.2.2.2.2.2.2.2.1 hX h) (xoX_0 hX) rfl (x_gV xw_622 xw_623 xw_624 xw_2 xw_625) rfl rfl qX10_fine ⟨(Nat.le_of_ble_eq_true rfl), (Nat.le_of_ble_eq_true rfl)⟩ rfl hl.1 rfl (Nat.le_of_ble_eq_true rfl) dX10_prints_41) (fun r8 u7 H locs hw h => ?_)
    exact x_iret C hw h dX10_prints_44
  · have h := h.2 (xb_f c3)
    refine lv_aload_n hx hb dX10_prints_8 rfl (lv_at hl 0 rfl) ?_
    refine lv_iconst (v := 1) hx hb dX10_prints_9 (by decide) ?_
    refine x_calli hw (x_runV (ci := 10) C hw (m_X10_none l C.2.2.2.2.2.2.2.2.1 hX h) (xoX_0 hX) rfl (x_gV xw_343 xw_344 xw_345 xw_2 xw_346) rfl rfl qX10_none ⟨(Nat.le_of_ble_eq_true rfl), (Nat.le_of_ble_eq_true rfl)⟩ rfl hl.1 rfl (Nat.le_of_ble_eq_true rfl) dX10_prints_10) (fun r10 u9 H locs hw h => ?_)
    exact x_iret C hw h dX10_prints_13
set_option maxHeartbeats 4000000 in
set_option maxRecDepth 100000 in
theorem m_X10_prints (l : Launch) {g : xG} (hD : x_D g) (hX : xpX g) {a1 : Int32} {u : xM} {Qf : Int32 → xM → Prop} (h : p_X10_prints a1 u Qf) : Met l yX10_prints (Cond.code yX10_prints cX10_prints 2 (some .int) :: wsL_law) (x_rm 5 174) (va_Pc [.ref (xad g 0), .int a1] (x_B g u)) (x_Qi g Qf) 0 0 (x_A g) := by
  refine Met.ofW (cc := cX10_prints) (maxL := 2) (ret := (some .int)) (by decide) rfl ?_
  intro p e s m args below meth c s₁ B hml hv
  obtain ⟨rfl, hB⟩ := hv
  obtain ⟨C, hw⟩ := x_start B hml hD hB
  have hl := lv_entry [.ref (xad g 0), .int a1] (n := 2) (Nat.le_of_ble_eq_true rfl)
  rw [lg_entry_eq]
  exact s_X10_prints C hX hw hl h
set_option maxHeartbeats 4000000 in
set_option maxRecDepth 100000 in
theorem s_X3_behindEnd {o : Nat} {o1 : Nat} {Qf : Int32 → xM → Prop} {a2 : Int32} (C : x_C p s m args meth c g RX3 cX3_behindEnd 4 (some .int)) (ho : xpF g o) (ho1 : xpN g o1) {u : xM} {H : Heap} {locs : List Loc} {ls : Array Slot} (hw : x_W g s.heap H locs u) (hl : lv_has ls 4 [(0, .ref (xad g o)), (1, .ref (xad g o1)), (2, .int a2)]) (h : p_X3_behindEnd o o1 a2 u Qf) : W p l e (x_rm 0 0) s m args below meth c H locs 0 0 (MQ below (x_Qi g Qf) args s 0 0 (x_A g)) (F0 m 0 ls []) := by
  unfold p_X3_behindEnd at h
  have hx := C.1
  have hb := C.2.1
  refine lv_aload_n hx hb dX3_behindEnd_0 rfl (lv_at hl 1 rfl) ?_
  refine x_getr (ci := 4) C hw 6 (xoN_0 ho1) rfl inlX4 (by decide) rfl rfl (xrN_0_6 ho1) xw_1852 dX3_behindEnd_1 ?_
  refine lv_iload_n hx hb dX3_behindEnd_4 rfl (lv_at hl 2 rfl) ?_
  have c1 := h.1
  have h := h.2
  refine x_iald C hw (xoN_4 ho1) c1 dX3_behindEnd_5 ?_
  refine lv_topi (fun x2 ex2 => ?_)
  have h := h x2 ex2
  refine lv_istore_n (lv' := [(3, .int x2), (0, .ref (xad g o)), (1, .ref (xad g o1)), (2, .int a2)]) hx hb dX3_behindEnd_6 rfl hl (by decide) rfl (fun ls hl => ?_)
  refine lv_iload_n hx hb dX3_behindEnd_7 rfl (lv_at hl 0 rfl) ?_
  refine lv_if_lt (tgt := 27) hx hb dX3_behindEnd_8 (by decide) (fun c3 => ?_) (fun c3 => ?_)
  · have h := h.1 c3
    refine lv_iload_n hx hb dX3_behindEnd_27 rfl (lv_at hl 3 rfl) ?_
    refine lv_iconst (v := 1) hx hb dX3_behindEnd_28 (by decide) ?_
    refine lv_iadd hx hb dX3_behindEnd_29 ?_
    exact x_iret C hw h dX3_behindEnd_30
  · have h := h.2 c3
    refine lv_iload_n hx hb dX3_behindEnd_11 rfl (lv_at hl 0 rfl) ?_
    refine lv_iload_n hx hb dX3_behindEnd_12 rfl (lv_at hl 3 rfl) ?_
    refine lv_icmp_ge (tgt := 27) hx hb dX3_behindEnd_13 (by decide) (fun c4 => ?_) (fun c4 => ?_)
    · have h := h.1 c4
      refine lv_iload_n hx hb dX3_behindEnd_27 rfl (lv_at hl 3 rfl) ?_
      refine lv_iconst (v := 1) hx hb dX3_behindEnd_28 (by decide) ?_
      refine lv_iadd hx hb dX3_behindEnd_29 ?_
      exact x_iret C hw h dX3_behindEnd_30
    · have h := h.2 c4
      refine lv_aload_n hx hb dX3_behindEnd_16 rfl (lv_at hl 2 rfl) ?_
      refine x_getr (ci := 4) C hw 3 (xoN_0 ho1) rfl inlX4 (by decide) rfl rfl (xrN_0_3 ho1) xw_1847 dX3_behindEnd_17 ?_
      refine lv_iload_n hx hb dX3_behindEnd_20 rfl (lv_at hl 0 rfl) ?_
      have c5 := h.1
      have h := h.2
      refine x_iald C hw (xoN_1 ho1) c5 dX3_behindEnd_21 ?_
      refine lv_bipush (v := 10) hx hb dX3_behindEnd_22 (by decide) ?_
      refine lv_icmp_eq (tgt := 31) hx hb dX3_behindEnd_24 (by decide) (fun c6 => ?_) (fun c6 => ?_)
      · have h := h.1 c6
        refine lv_aload_n hx hb dX3_behindEnd_31 rfl (lv_at hl 1 rfl) ?_
        refine x_getr (ci := 3) C hw 8 (xoF_0 ho) rfl inlX3 (by decide) rfl rfl (xrF_0_8 ho) xw_209 dX3_behindEnd_32 ?_
        refine lv_iload_n hx hb dX3_behindEnd_35 rfl (lv_at hl 0 rfl) ?_
        refine lv_dup2_11 hx hb dX3_behindEnd_36 rfl rfl ?_
        have c7 := h.1
        have h := h.2
        refine x_iald C hw (xoF_1 ho) c7 dX3_behindEnd_37 ?_
        refine lv_iconst (v := 1) hx hb dX3_behindEnd_38 (by decide) ?_
        refine lv_isub hx hb dX3_behindEnd_39 ?_
        have c8 := h.1
        have h := h.2
        obtain ⟨u9, eu9⟩ : ∃ q : xM, q = si u (o + 1) x2.toNatClampNeg ((gi u (o + 1) x2.toNatClampNeg) - (1 : Int32)) := ⟨_, rfl⟩
        have h := h u9 eu9
        refine x_iast C hw (xoF_1 ho) c8 dX3_behindEnd_40 eu9 (fun H locs hw => ?_)
        refine lv_aload_n hx hb dX3_behindEnd_41 rfl (lv_at hl 1 rfl) ?_
        refine x_getr (ci := 3) C hw 8 (xoF_0 ho) rfl inlX3 (by decide) rfl rfl (xrF_0_8 ho) xw_209 dX3_behindEnd_42 ?_
        refine lv_iload_n hx hb dX3_behindEnd_45 rfl (lv_at hl 0 rfl) ?_
        have c10 := h.1
        have h := h.2
        refine x_iald C hw (xoF_1 ho) c10 dX3_behindEnd_46 ?_
        refine lv_if_le (tgt := 56) hx hb dX3_behindEnd_47 (by decide) (fun c11 => ?_) (fun c11 => ?_)
        · have h := h.1 c11
          refine lv_iload_n hx hb dX3_behindEnd_56 rfl (lv_at hl 3 rfl) ?_
          refine lv_iconst (v := 1) hx hb dX3_behindEnd_57 (by decide) ?_
          refine lv_iadd hx hb dX3_behindEnd_58 ?_
          exact x_iret C hw h dX3_behindEnd_59
        · have h := h.2 c11
          refine lv_iload_n hx hb dX3_behindEnd_50 rfl (lv_at hl 0 rfl) ?_
          refine lv_iconst (v := 1) hx hb dX3_behindEnd_51 (by decide) ?_
          refine lv_iadd hx hb dX3_behindEnd_52 ?_
          refine lv_goto (tgt := 59) hx hb dX3_behindEnd_53 (by decide) ?_
          exact x_iret C hw h dX3_behindEnd_59
      · have h := h.2 c6
        refine lv_iload_n hx hb dX3_behindEnd_27 rfl (lv_at hl 3 rfl) ?_
        refine lv_iconst (v := 1) hx hb dX3_behindEnd_28 (by decide) ?_
        refine lv_iadd hx hb dX3_behindEnd_29 ?_
        exact x_iret C hw h dX3_behindEnd_30
set_option maxHeartbeats 4000000 in
set_option maxRecDepth 100000 in
theorem m_X3_behindEnd (l : Launch) {g : xG} (hD : x_D g) {o : Nat} {o1 : Nat} (ho : xpF g o) (ho1 : xpN g o1) {a2 : Int32} {u : xM} {Qf : Int32 → xM → Prop} (h : p_X3_behindEnd o o1 a2 u Qf) : Met l yX3_behindEnd (Cond.code yX3_behindEnd cX3_behindEnd 4 (some .int) :: wsL_law) (x_rm 0 0) (va_Pc [.ref (xad g o), .ref (xad g o1), .int a2] (x_B g u)) (x_Qi g Qf) 0 0 (x_A g) := by
  refine Met.ofW (cc := cX3_behindEnd) (maxL := 4) (ret := (some .int)) (by decide) rfl ?_
  intro p e s m args below meth c s₁ B hml hv
  obtain ⟨rfl, hB⟩ := hv
  obtain ⟨C, hw⟩ := x_start B hml hD hB
  have hl := lv_entry [.ref (xad g o), .ref (xad g o1), .int a2] (n := 4) (Nat.le_of_ble_eq_true rfl)
  rw [lg_entry_eq]
  exact s_X3_behindEnd C ho ho1 hw hl h
set_option maxHeartbeats 4000000 in
set_option maxRecDepth 100000 in
theorem s_X3_goOn_L34 {o : Nat} {o1 : Nat} {Qf : xM → Prop} (C : x_C p s m args meth c g RX3 cX3_goOn 5 none) (ho : xpF g o) (ho1 : xpL g o1) : ∀ (nn : Nat) {v2 : Int32} {v3 : Int32} {v4 : Int32} {u : xM} {H : Heap} {locs : List Loc} {ls : Array Slot} (hw : x_W g s.heap H locs u) (hl : lv_has ls 5 [(0, .ref (xad g o)), (1, .ref (xad g o1)), (2, .int v2), (3, .int v3), (4, .int v4)]) (h : p_X3_goOn_L34 o o1 Qf nn v2 v3 v4 u), W p l e (x_rm 3 130) s m args below meth c H locs 0 0 (MQ below (x_Qv g Qf) args s 0 0 (x_A g)) (F0 m 34 ls []) := by
  intro nn
  induction nn with
  | zero => intro v2 v3 v4 u H locs ls hw hl h; exact h.elim
  | succ nn ih =>
    intro v2 v3 v4 u H locs ls hw hl h
    unfold p_X3_goOn_L34 at h
    have hx := C.1
    have hb := C.2.1
    refine lv_iload hx hb dX3_goOn_34 (lv_at hl 4 rfl) ?_
    refine lv_iload_n hx hb dX3_goOn_36 rfl (lv_at hl 2 rfl) ?_
    refine lv_icmp_ge (tgt := 50) hx hb dX3_goOn_37 (by decide) (fun c1 => ?_) (fun c1 => ?_)
    · have h := h.1 c1
      refine lv_aload_n hx hb dX3_goOn_50 rfl (lv_at hl 0 rfl) ?_
      refine lv_dup hx hb dX3_goOn_51 rfl ?_
      refine x_geti (ci := 3) C hw 3 (xoF_0 ho) rfl inlX3 (by decide) rfl rfl xw_1840 dX3_goOn_52 ?_
      refine lv_iload_n hx hb dX3_goOn_55 rfl (lv_at hl 2 rfl) ?_
      refine lv_iadd hx hb dX3_goOn_56 ?_
      obtain ⟨u2, eu2⟩ : ∃ q : xM, q = si u o 3 ((gi u o 3) + v2) := ⟨_, rfl⟩
      have h := h u2 eu2
      refine x_puti (ci := 3) (ty := .int) C hw 3 (xoF_0 ho) rfl inlX3 tyX3_ok nmX3 (by decide) rfl rfl xw_1840 rfl (by decide +kernel) rfl rfl dX3_goOn_57 eu2 (fun H locs hw => ?_)
      refine lv_aload_n hx hb dX3_goOn_60 rfl (lv_at hl 0 rfl) ?_
      refine lv_dup hx hb dX3_goOn_61 rfl ?_
      refine x_geti (ci := 3) C hw 5 (xoF_0 ho) rfl inlX3 (by decide) rfl rfl xw_1842 dX3_goOn_62 ?_
      refine lv_aload_n hx hb dX3_goOn_65 rfl (lv_at hl 1 rfl) ?_
      refine x_getr (ci := 1) C hw 0 (xoL_0 ho1) rfl inlX1 (by decide) rfl rfl (xrL_0_0 ho1) xw_1864 dX3_goOn_66 ?_
      refine x_geti (ci := 7) C hw 1 (xoL_1 ho1) rfl inlX7 (by decide) rfl rfl xw_1865 dX3_goOn_69 ?_
      refine lv_iload_n hx hb dX3_goOn_72 rfl (lv_at hl 3 rfl) ?_
      refine lv_iconst (v := -1) hx hb dX3_goOn_73 (by decide) ?_
      refine lv_ixor hx hb dX3_goOn_74 ?_
      refine lv_iand hx hb dX3_goOn_75 ?_
      refine x_calli hw (x_runS C hw (m_J6_bitCount_0f7a4 l C.2.2.2.2.2.2.2.2.1  h) (x_gS xw_1867 xw_1310 xw_1311 xw_1312) rfl rfl qJ6_bitCount_0f7a4 ⟨(Nat.le_of_ble_eq_true rfl), (Nat.le_of_ble_eq_true rfl)⟩ rfl hl.1 rfl (Nat.le_of_ble_eq_true rfl) dX3_goOn_76) (fun r4 u3 H locs hw h => ?_)
      refine lv_iadd hx hb dX3_goOn_79 ?_
      obtain ⟨u5, eu5⟩ : ∃ q : xM, q = si u3 o 5 ((gi u2 o 5) + r4) := ⟨_, rfl⟩
      have h := h u5 eu5
      refine x_puti (ci := 3) (ty := .int) C hw 5 (xoF_0 ho) rfl inlX3 tyX3_ok nmX3 (by decide) rfl rfl xw_1842 rfl (by decide +kernel) rfl rfl dX3_goOn_80 eu5 (fun H locs hw => ?_)
      exact x_vret C hw h dX3_goOn_83
    · have h := h.2 c1
      refine lv_aload_n hx hb dX3_goOn_40 rfl (lv_at hl 1 rfl) ?_
      refine x_callv hw (x_runV (ci := 1) C hw (m_X1_goOneHour l C.2.2.2.2.2.2.2.2.1 ho1 h) (xoL_0 ho1) rfl (x_gV xw_1866 xw_1165 xw_1166 xw_15 xw_1167) rfl rfl qX1_goOneHour ⟨(Nat.le_of_ble_eq_true rfl), (Nat.le_of_ble_eq_true rfl)⟩ rfl hl.1 rfl (Nat.le_of_ble_eq_true rfl) dX3_goOn_41) (fun u6 H locs hw h => ?_)
      obtain ⟨x7, ex7⟩ : ∃ y : Int32, y = v4 + 1 := ⟨_, rfl⟩
      have h := h x7 ex7
      refine lv_iinc (v := x7) (lv' := [(4, .int x7), (0, .ref (xad g o)), (1, .ref (xad g o1)), (2, .int v2), (3, .int v3)]) hx hb dX3_goOn_44 hl (k := 4) rfl (by rw [ex7]; rfl) (by decide) rfl (fun ls hl => ?_)
      refine lv_goto (tgt := 34) hx hb dX3_goOn_47 (by decide) ?_
      exact ih hw (lv_sub hl [1, 2, 3, 4, 0] rfl) h
set_option maxHeartbeats 4000000 in
set_option maxRecDepth 100000 in
theorem s_X3_goOn {o : Nat} {o1 : Nat} {Qf : xM → Prop} {a2 : Int32} (C : x_C p s m args meth c g RX3 cX3_goOn 5 none) (ho : xpF g o) (ho1 : xpL g o1) {u : xM} {H : Heap} {locs : List Loc} {ls : Array Slot} (hw : x_W g s.heap H locs u) (hl : lv_has ls 5 [(0, .ref (xad g o)), (1, .ref (xad g o1)), (2, .int a2)]) (h : p_X3_goOn o o1 a2 u Qf) : W p l e (x_rm 3 130) s m args below meth c H locs 0 0 (MQ below (x_Qv g Qf) args s 0 0 (x_A g)) (F0 m 0 ls []) := by
  unfold p_X3_goOn at h
  have hx := C.1
  have hb := C.2.1
  refine lv_aload_n hx hb dX3_goOn_0 rfl (lv_at hl 1 rfl) ?_
  refine x_geti (ci := 1) C hw 8 (xoL_0 ho1) rfl inlX1 (by decide) rfl rfl xw_1863 dX3_goOn_1 ?_
  refine lv_iload_n hx hb dX3_goOn_4 rfl (lv_at hl 2 rfl) ?_
  refine lv_iadd hx hb dX3_goOn_5 ?_
  refine lv_sipush (v := 9999) hx hb dX3_goOn_6 (by decide) ?_
  refine lv_icmp_le (tgt := 23) hx hb dX3_goOn_9 (by decide) (fun c1 => ?_) (fun c1 => ?_)
  · have h := h.1 c1
    refine lv_aload_n hx hb dX3_goOn_23 rfl (lv_at hl 1 rfl) ?_
    refine x_getr (ci := 1) C hw 0 (xoL_0 ho1) rfl inlX1 (by decide) rfl rfl (xrL_0_0 ho1) xw_1864 dX3_goOn_24 ?_
    refine x_geti (ci := 7) C hw 1 (xoL_1 ho1) rfl inlX7 (by decide) rfl rfl xw_1865 dX3_goOn_27 ?_
    refine lv_topi (fun x2 ex2 => ?_)
    have h := h x2 ex2
    refine lv_istore_n (lv' := [(3, .int x2), (0, .ref (xad g o)), (1, .ref (xad g o1)), (2, .int a2)]) hx hb dX3_goOn_30 rfl hl (by decide) rfl (fun ls hl => ?_)
    refine lv_iconst (v := 0) hx hb dX3_goOn_31 (by decide) ?_
    refine lv_istore (lv' := [(4, .int 0), (3, .int x2), (0, .ref (xad g o)), (1, .ref (xad g o1)), (2, .int a2)]) hx hb dX3_goOn_32 hl (by decide) rfl (fun ls hl => ?_)
    obtain ⟨n9, h⟩ := h
    exact s_X3_goOn_L34 C ho ho1 n9 hw (lv_sub hl [2, 3, 4, 1, 0] rfl) h
  · have h := h.2 c1
    refine lv_aload_n hx hb dX3_goOn_12 rfl (lv_at hl 0 rfl) ?_
    refine lv_dup hx hb dX3_goOn_13 rfl ?_
    refine x_geti (ci := 3) C hw 2 (xoF_0 ho) rfl inlX3 (by decide) rfl rfl xw_1839 dX3_goOn_14 ?_
    refine lv_iconst (v := 1) hx hb dX3_goOn_17 (by decide) ?_
    refine lv_iadd hx hb dX3_goOn_18 ?_
    obtain ⟨u3, eu3⟩ : ∃ q : xM, q = si u o 2 ((gi u o 2) + (1 : Int32)) := ⟨_, rfl⟩
    have h := h u3 eu3
    refine x_puti (ci := 3) (ty := .int) C hw 2 (xoF_0 ho) rfl inlX3 tyX3_ok nmX3 (by decide) rfl rfl xw_1839 rfl (by decide +kernel) rfl rfl dX3_goOn_19 eu3 (fun H locs hw => ?_)
    exact x_vret C hw h dX3_goOn_22
set_option maxHeartbeats 4000000 in
set_option maxRecDepth 100000 in
theorem m_X3_goOn (l : Launch) {g : xG} (hD : x_D g) {o : Nat} {o1 : Nat} (ho : xpF g o) (ho1 : xpL g o1) {a2 : Int32} {u : xM} {Qf : xM → Prop} (h : p_X3_goOn o o1 a2 u Qf) : Met l yX3_goOn (Cond.code yX3_goOn cX3_goOn 5 none :: wsL_law) (x_rm 3 130) (va_Pc [.ref (xad g o), .ref (xad g o1), .int a2] (x_B g u)) (x_Qv g Qf) 0 0 (x_A g) := by
  refine Met.ofW (cc := cX3_goOn) (maxL := 5) (ret := none) (by decide) rfl ?_
  intro p e s m args below meth c s₁ B hml hv
  obtain ⟨rfl, hB⟩ := hv
  obtain ⟨C, hw⟩ := x_start B hml hD hB
  have hl := lv_entry [.ref (xad g o), .ref (xad g o1), .int a2] (n := 5) (Nat.le_of_ble_eq_true rfl)
  rw [lg_entry_eq]
  exact s_X3_goOn C ho ho1 hw hl h
set_option maxHeartbeats 4000000 in
set_option maxRecDepth 100000 in
theorem s_X3_turn {o : Nat} {o1 : Nat} {Qf : xM → Prop} {a2 : Int32} {a3 : Bool} (C : x_C p s m args meth c g RX3 cX3_turn 4 none) (ho : xpF g o) (ho1 : xpL g o1) {u : xM} {H : Heap} {locs : List Loc} {ls : Array Slot} (hw : x_W g s.heap H locs u) (hl : lv_has ls 4 [(0, .ref (xad g o)), (1, .ref (xad g o1)), (2, .int a2), (3, .int (xb a3))]) (h : p_X3_turn o o1 a2 a3 u Qf) : W p l e (x_rm 1 21) s m args below meth c H locs 0 0 (MQ below (x_Qv g Qf) args s 0 0 (x_A g)) (F0 m 0 ls []) := by
  unfold p_X3_turn at h
  have hx := C.1
  have hb := C.2.1
  refine lv_aload_n hx hb dX3_turn_0 rfl (lv_at hl 1 rfl) ?_
  refine x_getr (ci := 1) C hw 1 (xoL_0 ho1) rfl inlX1 (by decide) rfl rfl (xrL_0_1 ho1) xw_1872 dX3_turn_1 ?_
  refine lv_iload_n hx hb dX3_turn_4 rfl (lv_at hl 2 rfl) ?_
  refine x_callz hw (x_runV (ci := 0) C hw (m_X0_isHeld l C.2.2.2.2.2.2.2.2.1 ho1 h) (xoL_9 ho1) rfl (x_gV xw_1874 xw_1218 xw_1219 xw_61 xw_1220) rfl rfl qX0_isHeld ⟨(Nat.le_of_ble_eq_true rfl), (Nat.le_of_ble_eq_true rfl)⟩ rfl hl.1 rfl (Nat.le_of_ble_eq_true rfl) dX3_turn_5) (fun r2 u1 H locs hw h => ?_)
  refine lv_iload_n hx hb dX3_turn_8 rfl (lv_at hl 3 rfl) ?_
  refine lv_icmp_ne (tgt := 25) hx hb dX3_turn_9 (by decide) (fun c3 => ?_) (fun c3 => ?_)
  · have h := h.1 c3
    refine lv_aload_n hx hb dX3_turn_25 rfl (lv_at hl 1 rfl) ?_
    refine x_getr (ci := 1) C hw 1 (xoL_0 ho1) rfl inlX1 (by decide) rfl rfl (xrL_0_1 ho1) xw_1872 dX3_turn_26 ?_
    refine lv_dup hx hb dX3_turn_29 rfl ?_
    refine x_geti (ci := 0) C hw 1 (xoL_9 ho1) rfl inlX0 (by decide) rfl rfl xw_1873 dX3_turn_30 ?_
    refine lv_iconst (v := 1) hx hb dX3_turn_33 (by decide) ?_
    refine lv_iload_n hx hb dX3_turn_34 rfl (lv_at hl 2 rfl) ?_
    refine lv_ishl hx hb dX3_turn_35 ?_
    refine lv_ixor hx hb dX3_turn_36 ?_
    obtain ⟨u4, eu4⟩ : ∃ q : xM, q = si u1 (o1 + 9) 1 ((gi u1 (o1 + 9) 1) ^^^ ((1 : Int32) <<< (a2 &&& 31))) := ⟨_, rfl⟩
    have h := h u4 eu4
    refine x_puti (ci := 0) (ty := .int) C hw 1 (xoL_9 ho1) rfl inlX0 tyX0_ok nmX0 (by decide) rfl rfl xw_1873 rfl (by decide +kernel) rfl rfl dX3_turn_37 eu4 (fun H locs hw => ?_)
    exact x_vret C hw h dX3_turn_40
  · have h := h.2 c3
    refine lv_aload_n hx hb dX3_turn_12 rfl (lv_at hl 0 rfl) ?_
    refine lv_dup hx hb dX3_turn_13 rfl ?_
    refine x_geti (ci := 3) C hw 2 (xoF_0 ho) rfl inlX3 (by decide) rfl rfl xw_1839 dX3_turn_14 ?_
    refine lv_iconst (v := 1) hx hb dX3_turn_17 (by decide) ?_
    refine lv_iadd hx hb dX3_turn_18 ?_
    obtain ⟨u5, eu5⟩ : ∃ q : xM, q = si u1 o 2 ((gi u1 o 2) + (1 : Int32)) := ⟨_, rfl⟩
    have h := h u5 eu5
    refine x_puti (ci := 3) (ty := .int) C hw 2 (xoF_0 ho) rfl inlX3 tyX3_ok nmX3 (by decide) rfl rfl xw_1839 rfl (by decide +kernel) rfl rfl dX3_turn_19 eu5 (fun H locs hw => ?_)
    refine lv_goto (tgt := 40) hx hb dX3_turn_22 (by decide) ?_
    exact x_vret C hw h dX3_turn_40
set_option maxHeartbeats 4000000 in
set_option maxRecDepth 100000 in
theorem m_X3_turn (l : Launch) {g : xG} (hD : x_D g) {o : Nat} {o1 : Nat} (ho : xpF g o) (ho1 : xpL g o1) {a2 : Int32} {a3 : Bool} {u : xM} {Qf : xM → Prop} (h : p_X3_turn o o1 a2 a3 u Qf) : Met l yX3_turn (Cond.code yX3_turn cX3_turn 4 none :: wsL_law) (x_rm 1 21) (va_Pc [.ref (xad g o), .ref (xad g o1), .int a2, .int (xb a3)] (x_B g u)) (x_Qv g Qf) 0 0 (x_A g) := by
  refine Met.ofW (cc := cX3_turn) (maxL := 4) (ret := none) (by decide) rfl ?_
  intro p e s m args below meth c s₁ B hml hv
  obtain ⟨rfl, hB⟩ := hv
  obtain ⟨C, hw⟩ := x_start B hml hD hB
  have hl := lv_entry [.ref (xad g o), .ref (xad g o1), .int a2, .int (xb a3)] (n := 4) (Nat.le_of_ble_eq_true rfl)
  rw [lg_entry_eq]
  exact s_X3_turn C ho ho1 hw hl h
set_option maxHeartbeats 4000000 in
set_option maxRecDepth 100000 in
theorem s_X3_bailOut {o : Nat} {o1 : Nat} {Qf : xM → Prop} {a2 : Int32} {a3 : Int32} (C : x_C p s m args meth c g RX3 cX3_bailOut 4 none) (ho : xpF g o) (ho1 : xpL g o1) {u : xM} {H : Heap} {locs : List Loc} {ls : Array Slot} (hw : x_W g s.heap H locs u) (hl : lv_has ls 4 [(0, .ref (xad g o)), (1, .ref (xad g o1)), (2, .int a2), (3, .int a3)]) (h : p_X3_bailOut o o1 a2 a3 u Qf) : W p l e (x_rm 0 0) s m args below meth c H locs 0 0 (MQ below (x_Qv g Qf) args s 0 0 (x_A g)) (F0 m 0 ls []) := by
  unfold p_X3_bailOut at h
  have hx := C.1
  have hb := C.2.1
  refine lv_iload_n hx hb dX3_bailOut_0 rfl (lv_at hl 2 rfl) ?_
  refine lv_if_lt (tgt := 28) hx hb dX3_bailOut_1 (by decide) (fun c1 => ?_) (fun c1 => ?_)
  · have h := h.1 c1
    refine lv_aload_n hx hb dX3_bailOut_28 rfl (lv_at hl 0 rfl) ?_
    refine lv_dup hx hb dX3_bailOut_29 rfl ?_
    refine x_geti (ci := 3) C hw 2 (xoF_0 ho) rfl inlX3 (by decide) rfl rfl xw_1839 dX3_bailOut_30 ?_
    refine lv_iconst (v := 1) hx hb dX3_bailOut_33 (by decide) ?_
    refine lv_iadd hx hb dX3_bailOut_34 ?_
    obtain ⟨u2, eu2⟩ : ∃ q : xM, q = si u o 2 ((gi u o 2) + (1 : Int32)) := ⟨_, rfl⟩
    have h := h u2 eu2
    refine x_puti (ci := 3) (ty := .int) C hw 2 (xoF_0 ho) rfl inlX3 tyX3_ok nmX3 (by decide) rfl rfl xw_1839 rfl (by decide +kernel) rfl rfl dX3_bailOut_35 eu2 (fun H locs hw => ?_)
    refine lv_goto (tgt := 64) hx hb dX3_bailOut_38 (by decide) ?_
    exact x_vret C hw h dX3_bailOut_64
  · have h := h.2 c1
    refine lv_iload_n hx hb dX3_bailOut_4 rfl (lv_at hl 2 rfl) ?_
    refine lv_aload_n hx hb dX3_bailOut_5 rfl (lv_at hl 1 rfl) ?_
    refine x_getr (ci := 1) C hw 0 (xoL_0 ho1) rfl inlX1 (by decide) rfl rfl (xrL_0_0 ho1) xw_1864 dX3_bailOut_6 ?_
    refine x_geti (ci := 7) C hw 0 (xoL_1 ho1) rfl inlX7 (by decide) rfl rfl xw_1879 dX3_bailOut_9 ?_
    refine lv_icmp_ge (tgt := 28) hx hb dX3_bailOut_12 (by decide) (fun c3 => ?_) (fun c3 => ?_)
    · have h := h.1 c3
      refine lv_aload_n hx hb dX3_bailOut_28 rfl (lv_at hl 0 rfl) ?_
      refine lv_dup hx hb dX3_bailOut_29 rfl ?_
      refine x_geti (ci := 3) C hw 2 (xoF_0 ho) rfl inlX3 (by decide) rfl rfl xw_1839 dX3_bailOut_30 ?_
      refine lv_iconst (v := 1) hx hb dX3_bailOut_33 (by decide) ?_
      refine lv_iadd hx hb dX3_bailOut_34 ?_
      obtain ⟨u4, eu4⟩ : ∃ q : xM, q = si u o 2 ((gi u o 2) + (1 : Int32)) := ⟨_, rfl⟩
      have h := h u4 eu4
      refine x_puti (ci := 3) (ty := .int) C hw 2 (xoF_0 ho) rfl inlX3 tyX3_ok nmX3 (by decide) rfl rfl xw_1839 rfl (by decide +kernel) rfl rfl dX3_bailOut_35 eu4 (fun H locs hw => ?_)
      refine lv_goto (tgt := 64) hx hb dX3_bailOut_38 (by decide) ?_
      exact x_vret C hw h dX3_bailOut_64
    · have h := h.2 c3
      refine lv_aload_n hx hb dX3_bailOut_15 rfl (lv_at hl 1 rfl) ?_
      refine x_getr (ci := 1) C hw 0 (xoL_0 ho1) rfl inlX1 (by decide) rfl rfl (xrL_0_0 ho1) xw_1864 dX3_bailOut_16 ?_
      refine x_getr (ci := 7) C hw 7 (xoL_1 ho1) rfl inlX7 (by decide) rfl rfl (xrL_1_7 ho1) xw_1880 dX3_bailOut_19 ?_
      refine lv_iload_n hx hb dX3_bailOut_22 rfl (lv_at hl 2 rfl) ?_
      have c5 := h.1
      have h := h.2
      refine x_iald C hw (xoL_7 ho1) c5 dX3_bailOut_23 ?_
      refine lv_iload_n hx hb dX3_bailOut_24 rfl (lv_at hl 3 rfl) ?_
      refine lv_icmp_ge (tgt := 41) hx hb dX3_bailOut_25 (by decide) (fun c6 => ?_) (fun c6 => ?_)
      · have h := h.1 c6
        refine lv_aload_n hx hb dX3_bailOut_41 rfl (lv_at hl 1 rfl) ?_
        refine x_getr (ci := 1) C hw 0 (xoL_0 ho1) rfl inlX1 (by decide) rfl rfl (xrL_0_0 ho1) xw_1864 dX3_bailOut_42 ?_
        refine x_getr (ci := 7) C hw 7 (xoL_1 ho1) rfl inlX7 (by decide) rfl rfl (xrL_1_7 ho1) xw_1880 dX3_bailOut_45 ?_
        refine lv_iload_n hx hb dX3_bailOut_48 rfl (lv_at hl 2 rfl) ?_
        refine lv_dup2_11 hx hb dX3_bailOut_49 rfl rfl ?_
        have c7 := h.1
        have h := h.2
        refine x_iald C hw (xoL_7 ho1) c7 dX3_bailOut_50 ?_
        refine lv_iload_n hx hb dX3_bailOut_51 rfl (lv_at hl 3 rfl) ?_
        refine lv_isub hx hb dX3_bailOut_52 ?_
        have c8 := h.1
        have h := h.2
        obtain ⟨u9, eu9⟩ : ∃ q : xM, q = si u (o1 + 7) a2.toNatClampNeg ((gi u (o1 + 7) a2.toNatClampNeg) - a3) := ⟨_, rfl⟩
        have h := h u9 eu9
        refine x_iast C hw (xoL_7 ho1) c8 dX3_bailOut_53 eu9 (fun H locs hw => ?_)
        refine lv_aload_n hx hb dX3_bailOut_54 rfl (lv_at hl 0 rfl) ?_
        refine lv_dup hx hb dX3_bailOut_55 rfl ?_
        refine x_geti (ci := 3) C hw 4 (xoF_0 ho) rfl inlX3 (by decide) rfl rfl xw_1841 dX3_bailOut_56 ?_
        refine lv_iload_n hx hb dX3_bailOut_59 rfl (lv_at hl 3 rfl) ?_
        refine lv_iadd hx hb dX3_bailOut_60 ?_
        obtain ⟨u10, eu10⟩ : ∃ q : xM, q = si u9 o 4 ((gi u9 o 4) + a3) := ⟨_, rfl⟩
        have h := h u10 eu10
        refine x_puti (ci := 3) (ty := .int) C hw 4 (xoF_0 ho) rfl inlX3 tyX3_ok nmX3 (by decide) rfl rfl xw_1841 rfl (by decide +kernel) rfl rfl dX3_bailOut_61 eu10 (fun H locs hw => ?_)
        exact x_vret C hw h dX3_bailOut_64
      · have h := h.2 c6
        refine lv_aload_n hx hb dX3_bailOut_28 rfl (lv_at hl 0 rfl) ?_
        refine lv_dup hx hb dX3_bailOut_29 rfl ?_
        refine x_geti (ci := 3) C hw 2 (xoF_0 ho) rfl inlX3 (by decide) rfl rfl xw_1839 dX3_bailOut_30 ?_
        refine lv_iconst (v := 1) hx hb dX3_bailOut_33 (by decide) ?_
        refine lv_iadd hx hb dX3_bailOut_34 ?_
        obtain ⟨u11, eu11⟩ : ∃ q : xM, q = si u o 2 ((gi u o 2) + (1 : Int32)) := ⟨_, rfl⟩
        have h := h u11 eu11
        refine x_puti (ci := 3) (ty := .int) C hw 2 (xoF_0 ho) rfl inlX3 tyX3_ok nmX3 (by decide) rfl rfl xw_1839 rfl (by decide +kernel) rfl rfl dX3_bailOut_35 eu11 (fun H locs hw => ?_)
        refine lv_goto (tgt := 64) hx hb dX3_bailOut_38 (by decide) ?_
        exact x_vret C hw h dX3_bailOut_64
set_option maxHeartbeats 4000000 in
set_option maxRecDepth 100000 in
theorem m_X3_bailOut (l : Launch) {g : xG} (hD : x_D g) {o : Nat} {o1 : Nat} (ho : xpF g o) (ho1 : xpL g o1) {a2 : Int32} {a3 : Int32} {u : xM} {Qf : xM → Prop} (h : p_X3_bailOut o o1 a2 a3 u Qf) : Met l yX3_bailOut (Cond.code yX3_bailOut cX3_bailOut 4 none :: wsL_law) (x_rm 0 0) (va_Pc [.ref (xad g o), .ref (xad g o1), .int a2, .int a3] (x_B g u)) (x_Qv g Qf) 0 0 (x_A g) := by
  refine Met.ofW (cc := cX3_bailOut) (maxL := 4) (ret := none) (by decide) rfl ?_
  intro p e s m args below meth c s₁ B hml hv
  obtain ⟨rfl, hB⟩ := hv
  obtain ⟨C, hw⟩ := x_start B hml hD hB
  have hl := lv_entry [.ref (xad g o), .ref (xad g o1), .int a2, .int a3] (n := 4) (Nat.le_of_ble_eq_true rfl)
  rw [lg_entry_eq]
  exact s_X3_bailOut C ho ho1 hw hl h
end
