/-! ===== the law, cases 48 to 70 ===== -/
section LAW2
variable {p : Program} {l : Launch} {e : Env} {s : State} {m : MethodId} {below : List Frame} {meth : Method} {c : Code} {H : Heap} {locs : List Loc} {Q : State → Prop}
variable {ls : Array Slot} {g : xG} {u : xM} {b L : Nat} {xs : Nat → Int32} {ad : Nat → Nat} {q0 q1 i : Nat}
set_option maxHeartbeats 4000000 in
set_option maxRecDepth 100000 in
theorem lw_48 (X : L_C p s m meth c g b L xs) (hw : y_W g (lwA s) [] ad KA u s.heap H locs) (I : INV u) (hq0 : ad 0 = q0) (hq1 : ad 272 = q1) (hl : lv_has ls 4 (lwL b q0 q1 i)) (hi : i + 6 ≤ L) (kk : ∀ (u' : xM) (H' : Heap) (locs' : List Loc), y_W g (lwA s) [] ad KA u' s.heap H' locs' → INV u' → W p l e room_1 s m #[Value.ref b] below meth c H' locs' 290 15295 Q (F0 m 2206 ls [])) : W p l e room_1 s m #[Value.ref b] below meth c H locs 290 15295 Q (F0 m 1687 ls []) := by
  have hx := X.1.1.1
  have hb := X.1.1.2.1
  have hown := X.1.1.2.2.2.1
  have hts := X.1.1.2.2.2.2.1
  refine lv_aload_n hx hb dL_law_1687 rfl (lv_at hl 1 rfl) ?_
  refine L_arg X hw.2.2 hl 1 (by omega) (by decide) dL_law_1688 dL_law_1689 dL_law_1690 dL_law_1691 dL_law_1692 ?_
  refine y_calli hw (y_runV (ci := 10) X.1 hw (m_X10_pumpAt l (y_xD KA_nd hw.2.1) KA_x (K_pumpAt I (xs (i + 1)))) k_X (KA_x 0 (by decide)) hq0 rfl (x_gV xw_1474 xw_1475 xw_1476 xw_2 xw_1477) rfl rfl qX10_pumpAt ⟨Nat.le_of_ble_eq_true rfl, Nat.le_of_ble_eq_true rfl⟩ rfl hl.1 rfl (Nat.le_of_ble_eq_true rfl) dL_law_1693 ⟨Nat.le_of_ble_eq_true rfl, Nat.le_of_ble_eq_true rfl⟩) (fun r1 u1 H locs hw h1 => ?_)
  refine lv_aload_n hx hb dL_law_1696 rfl (lv_at hl 2 rfl) ?_
  refine L_arg X hw.2.2 hl 1 (by omega) (by decide) dL_law_1697 dL_law_1698 dL_law_1699 dL_law_1700 dL_law_1701 ?_
  refine y_calli hw (y_runV (ci := 11) X.1 hw (m_X11_pumpAt l (y_xD KA_nd hw.2.1) KA_m h1) k_M (KA_m 272 (by decide) (by decide)) hq1 rfl (x_gV xw_1479 xw_1480 xw_1481 xw_5 xw_1482) rfl rfl qX11_pumpAt ⟨Nat.le_of_ble_eq_true rfl, Nat.le_of_ble_eq_true rfl⟩ rfl hl.1 rfl (Nat.le_of_ble_eq_true rfl) dL_law_1702 ⟨Nat.le_of_ble_eq_true rfl, Nat.le_of_ble_eq_true rfl⟩) (fun r2 u2 H locs hw h2 => ?_)
  exact lv_icmp_eq (tgt := 2206) hx hb dL_law_1705 (by decide) (fun _ => kk _ _ _ hw h2.2) (fun z => absurd h2.1 z)
set_option maxHeartbeats 4000000 in
set_option maxRecDepth 100000 in
theorem lw_49 (X : L_C p s m meth c g b L xs) (hw : y_W g (lwA s) [] ad KA u s.heap H locs) (I : INV u) (hq0 : ad 0 = q0) (hq1 : ad 272 = q1) (hl : lv_has ls 4 (lwL b q0 q1 i)) (hi : i + 6 ≤ L) (kk : ∀ (u' : xM) (H' : Heap) (locs' : List Loc), y_W g (lwA s) [] ad KA u' s.heap H' locs' → INV u' → W p l e room_1 s m #[Value.ref b] below meth c H' locs' 290 15295 Q (F0 m 2206 ls [])) : W p l e room_1 s m #[Value.ref b] below meth c H locs 290 15295 Q (F0 m 1710 ls []) := by
  have hx := X.1.1.1
  have hb := X.1.1.2.1
  have hown := X.1.1.2.2.2.1
  have hts := X.1.1.2.2.2.2.1
  refine lv_aload_n hx hb dL_law_1710 rfl (lv_at hl 1 rfl) ?_
  refine y_calli hw (y_runV (ci := 10) X.1 hw (m_X10_twoWalls l (y_xD KA_nd hw.2.1) KA_x (K_twoWalls I)) k_X (KA_x 0 (by decide)) hq0 rfl (x_gV xw_1483 xw_1484 xw_1485 xw_2 xw_1486) rfl rfl qX10_twoWalls ⟨Nat.le_of_ble_eq_true rfl, Nat.le_of_ble_eq_true rfl⟩ rfl hl.1 rfl (Nat.le_of_ble_eq_true rfl) dL_law_1711 ⟨Nat.le_of_ble_eq_true rfl, Nat.le_of_ble_eq_true rfl⟩) (fun r1 u1 H locs hw h1 => ?_)
  refine lv_aload_n hx hb dL_law_1714 rfl (lv_at hl 2 rfl) ?_
  refine y_calli hw (y_runV (ci := 11) X.1 hw (m_X11_twoWalls l (y_xD KA_nd hw.2.1) KA_m h1) k_M (KA_m 272 (by decide) (by decide)) hq1 rfl (x_gV xw_1491 xw_1492 xw_1493 xw_5 xw_1494) rfl rfl qX11_twoWalls ⟨Nat.le_of_ble_eq_true rfl, Nat.le_of_ble_eq_true rfl⟩ rfl hl.1 rfl (Nat.le_of_ble_eq_true rfl) dL_law_1715 ⟨Nat.le_of_ble_eq_true rfl, Nat.le_of_ble_eq_true rfl⟩) (fun r2 u2 H locs hw h2 => ?_)
  exact lv_icmp_eq (tgt := 2206) hx hb dL_law_1718 (by decide) (fun _ => kk _ _ _ hw h2.2) (fun z => absurd h2.1 z)
set_option maxHeartbeats 4000000 in
set_option maxRecDepth 100000 in
theorem lw_50 (X : L_C p s m meth c g b L xs) (hw : y_W g (lwA s) [] ad KA u s.heap H locs) (I : INV u) (hq0 : ad 0 = q0) (hq1 : ad 272 = q1) (hl : lv_has ls 4 (lwL b q0 q1 i)) (hi : i + 6 ≤ L) (kk : ∀ (u' : xM) (H' : Heap) (locs' : List Loc), y_W g (lwA s) [] ad KA u' s.heap H' locs' → INV u' → W p l e room_1 s m #[Value.ref b] below meth c H' locs' 290 15295 Q (F0 m 2206 ls [])) : W p l e room_1 s m #[Value.ref b] below meth c H locs 290 15295 Q (F0 m 1723 ls []) := by
  have hx := X.1.1.1
  have hb := X.1.1.2.1
  have hown := X.1.1.2.2.2.1
  have hts := X.1.1.2.2.2.2.1
  refine lv_aload_n hx hb dL_law_1723 rfl (lv_at hl 1 rfl) ?_
  refine L_arg X hw.2.2 hl 1 (by omega) (by decide) dL_law_1724 dL_law_1725 dL_law_1726 dL_law_1727 dL_law_1728 ?_
  refine y_calli hw (y_runV (ci := 10) X.1 hw (m_X10_gain l (y_xD KA_nd hw.2.1) KA_x (K_gain I (xs (i + 1)))) k_X (KA_x 0 (by decide)) hq0 rfl (x_gV xw_1499 xw_1500 xw_1501 xw_2 xw_1502) rfl rfl qX10_gain ⟨Nat.le_of_ble_eq_true rfl, Nat.le_of_ble_eq_true rfl⟩ rfl hl.1 rfl (Nat.le_of_ble_eq_true rfl) dL_law_1729 ⟨Nat.le_of_ble_eq_true rfl, Nat.le_of_ble_eq_true rfl⟩) (fun r1 u1 H locs hw h1 => ?_)
  refine lv_aload_n hx hb dL_law_1732 rfl (lv_at hl 2 rfl) ?_
  refine L_arg X hw.2.2 hl 1 (by omega) (by decide) dL_law_1733 dL_law_1734 dL_law_1735 dL_law_1736 dL_law_1737 ?_
  refine y_calli hw (y_runV (ci := 11) X.1 hw (m_X11_gain l (y_xD KA_nd hw.2.1) KA_m h1) k_M (KA_m 272 (by decide) (by decide)) hq1 rfl (x_gV xw_1503 xw_1504 xw_1505 xw_5 xw_1506) rfl rfl qX11_gain ⟨Nat.le_of_ble_eq_true rfl, Nat.le_of_ble_eq_true rfl⟩ rfl hl.1 rfl (Nat.le_of_ble_eq_true rfl) dL_law_1738 ⟨Nat.le_of_ble_eq_true rfl, Nat.le_of_ble_eq_true rfl⟩) (fun r2 u2 H locs hw h2 => ?_)
  exact lv_icmp_eq (tgt := 2206) hx hb dL_law_1741 (by decide) (fun _ => kk _ _ _ hw h2.2) (fun z => absurd h2.1 z)
set_option maxHeartbeats 4000000 in
set_option maxRecDepth 100000 in
theorem lw_51 (X : L_C p s m meth c g b L xs) (hw : y_W g (lwA s) [] ad KA u s.heap H locs) (I : INV u) (hq0 : ad 0 = q0) (hq1 : ad 272 = q1) (hl : lv_has ls 4 (lwL b q0 q1 i)) (hi : i + 6 ≤ L) (kk : ∀ (u' : xM) (H' : Heap) (locs' : List Loc), y_W g (lwA s) [] ad KA u' s.heap H' locs' → INV u' → W p l e room_1 s m #[Value.ref b] below meth c H' locs' 290 15295 Q (F0 m 2206 ls [])) : W p l e room_1 s m #[Value.ref b] below meth c H locs 290 15295 Q (F0 m 1746 ls []) := by
  have hx := X.1.1.1
  have hb := X.1.1.2.1
  have hown := X.1.1.2.2.2.1
  have hts := X.1.1.2.2.2.2.1
  refine lv_aload_n hx hb dL_law_1746 rfl (lv_at hl 1 rfl) ?_
  refine L_arg X hw.2.2 hl 1 (by omega) (by decide) dL_law_1747 dL_law_1748 dL_law_1749 dL_law_1750 dL_law_1751 ?_
  refine L_arg X hw.2.2 hl 2 (by omega) (by decide) dL_law_1752 dL_law_1753 dL_law_1754 dL_law_1755 dL_law_1756 ?_
  refine y_calli hw (y_runV (ci := 10) X.1 hw (m_X10_bailFor l (y_xD KA_nd hw.2.1) KA_x (K_bailFor I (xs (i + 1)) (xs (i + 2)))) k_X (KA_x 0 (by decide)) hq0 rfl (x_gV xw_1507 xw_1508 xw_1509 xw_2 xw_1510) rfl rfl qX10_bailFor ⟨Nat.le_of_ble_eq_true rfl, Nat.le_of_ble_eq_true rfl⟩ rfl hl.1 rfl (Nat.le_of_ble_eq_true rfl) dL_law_1757 ⟨Nat.le_of_ble_eq_true rfl, Nat.le_of_ble_eq_true rfl⟩) (fun r1 u1 H locs hw h1 => ?_)
  refine lv_aload_n hx hb dL_law_1760 rfl (lv_at hl 2 rfl) ?_
  refine L_arg X hw.2.2 hl 1 (by omega) (by decide) dL_law_1761 dL_law_1762 dL_law_1763 dL_law_1764 dL_law_1765 ?_
  refine L_arg X hw.2.2 hl 2 (by omega) (by decide) dL_law_1766 dL_law_1767 dL_law_1768 dL_law_1769 dL_law_1770 ?_
  refine y_calli hw (y_runV (ci := 11) X.1 hw (m_X11_bailFor l (y_xD KA_nd hw.2.1) KA_m h1) k_M (KA_m 272 (by decide) (by decide)) hq1 rfl (x_gV xw_1517 xw_1518 xw_1519 xw_5 xw_1520) rfl rfl qX11_bailFor ⟨Nat.le_of_ble_eq_true rfl, Nat.le_of_ble_eq_true rfl⟩ rfl hl.1 rfl (Nat.le_of_ble_eq_true rfl) dL_law_1771 ⟨Nat.le_of_ble_eq_true rfl, Nat.le_of_ble_eq_true rfl⟩) (fun r2 u2 H locs hw h2 => ?_)
  exact lv_icmp_eq (tgt := 2206) hx hb dL_law_1774 (by decide) (fun _ => kk _ _ _ hw h2.2) (fun z => absurd h2.1 z)
set_option maxHeartbeats 4000000 in
set_option maxRecDepth 100000 in
theorem lw_52 (X : L_C p s m meth c g b L xs) (hw : y_W g (lwA s) [] ad KA u s.heap H locs) (I : INV u) (hq0 : ad 0 = q0) (hq1 : ad 272 = q1) (hl : lv_has ls 4 (lwL b q0 q1 i)) (hi : i + 6 ≤ L) (kk : ∀ (u' : xM) (H' : Heap) (locs' : List Loc), y_W g (lwA s) [] ad KA u' s.heap H' locs' → INV u' → W p l e room_1 s m #[Value.ref b] below meth c H' locs' 290 15295 Q (F0 m 2206 ls [])) : W p l e room_1 s m #[Value.ref b] below meth c H locs 290 15295 Q (F0 m 1779 ls []) := by
  have hx := X.1.1.1
  have hb := X.1.1.2.1
  have hown := X.1.1.2.2.2.1
  have hts := X.1.1.2.2.2.2.1
  refine lv_aload_n hx hb dL_law_1779 rfl (lv_at hl 1 rfl) ?_
  refine L_arg X hw.2.2 hl 1 (by omega) (by decide) dL_law_1780 dL_law_1781 dL_law_1782 dL_law_1783 dL_law_1784 ?_
  refine y_calli hw (y_runV (ci := 10) X.1 hw (m_X10_siege l (y_xD KA_nd hw.2.1) KA_x (K_siege I (xs (i + 1)))) k_X (KA_x 0 (by decide)) hq0 rfl (x_gV xw_1522 xw_1523 xw_1524 xw_2 xw_1525) rfl rfl qX10_siege ⟨Nat.le_of_ble_eq_true rfl, Nat.le_of_ble_eq_true rfl⟩ rfl hl.1 rfl (Nat.le_of_ble_eq_true rfl) dL_law_1785 ⟨Nat.le_of_ble_eq_true rfl, Nat.le_of_ble_eq_true rfl⟩) (fun r1 u1 H locs hw h1 => ?_)
  refine lv_aload_n hx hb dL_law_1788 rfl (lv_at hl 2 rfl) ?_
  refine L_arg X hw.2.2 hl 1 (by omega) (by decide) dL_law_1789 dL_law_1790 dL_law_1791 dL_law_1792 dL_law_1793 ?_
  refine y_calli hw (y_runV (ci := 11) X.1 hw (m_X11_siege l (y_xD KA_nd hw.2.1) KA_m h1) k_M (KA_m 272 (by decide) (by decide)) hq1 rfl (x_gV xw_1531 xw_1532 xw_1533 xw_5 xw_1534) rfl rfl qX11_siege ⟨Nat.le_of_ble_eq_true rfl, Nat.le_of_ble_eq_true rfl⟩ rfl hl.1 rfl (Nat.le_of_ble_eq_true rfl) dL_law_1794 ⟨Nat.le_of_ble_eq_true rfl, Nat.le_of_ble_eq_true rfl⟩) (fun r2 u2 H locs hw h2 => ?_)
  exact lv_icmp_eq (tgt := 2206) hx hb dL_law_1797 (by decide) (fun _ => kk _ _ _ hw h2.2) (fun z => absurd h2.1 z)
set_option maxHeartbeats 4000000 in
set_option maxRecDepth 100000 in
theorem lw_53 (X : L_C p s m meth c g b L xs) (hw : y_W g (lwA s) [] ad KA u s.heap H locs) (I : INV u) (hq0 : ad 0 = q0) (hq1 : ad 272 = q1) (hl : lv_has ls 4 (lwL b q0 q1 i)) (hi : i + 6 ≤ L) (kk : ∀ (u' : xM) (H' : Heap) (locs' : List Loc), y_W g (lwA s) [] ad KA u' s.heap H' locs' → INV u' → W p l e room_1 s m #[Value.ref b] below meth c H' locs' 290 15295 Q (F0 m 2206 ls [])) : W p l e room_1 s m #[Value.ref b] below meth c H locs 290 15295 Q (F0 m 1802 ls []) := by
  have hx := X.1.1.1
  have hb := X.1.1.2.1
  have hown := X.1.1.2.2.2.1
  have hts := X.1.1.2.2.2.2.1
  refine lv_aload_n hx hb dL_law_1802 rfl (lv_at hl 1 rfl) ?_
  refine y_calli hw (y_runV (ci := 10) X.1 hw (m_X10_borne l (y_xD KA_nd hw.2.1) KA_x (K_borne I)) k_X (KA_x 0 (by decide)) hq0 rfl (x_gV xw_1539 xw_1540 xw_1541 xw_2 xw_1542) rfl rfl qX10_borne ⟨Nat.le_of_ble_eq_true rfl, Nat.le_of_ble_eq_true rfl⟩ rfl hl.1 rfl (Nat.le_of_ble_eq_true rfl) dL_law_1803 ⟨Nat.le_of_ble_eq_true rfl, Nat.le_of_ble_eq_true rfl⟩) (fun r1 u1 H locs hw h1 => ?_)
  refine lv_aload_n hx hb dL_law_1806 rfl (lv_at hl 2 rfl) ?_
  refine y_calli hw (y_runV (ci := 11) X.1 hw (m_X11_borne l (y_xD KA_nd hw.2.1) KA_m h1) k_M (KA_m 272 (by decide) (by decide)) hq1 rfl (x_gV xw_1543 xw_1544 xw_1545 xw_5 xw_1546) rfl rfl qX11_borne ⟨Nat.le_of_ble_eq_true rfl, Nat.le_of_ble_eq_true rfl⟩ rfl hl.1 rfl (Nat.le_of_ble_eq_true rfl) dL_law_1807 ⟨Nat.le_of_ble_eq_true rfl, Nat.le_of_ble_eq_true rfl⟩) (fun r2 u2 H locs hw h2 => ?_)
  exact lv_icmp_eq (tgt := 2206) hx hb dL_law_1810 (by decide) (fun _ => kk _ _ _ hw h2.2) (fun z => absurd h2.1 z)
set_option maxHeartbeats 4000000 in
set_option maxRecDepth 100000 in
theorem lw_54 (X : L_C p s m meth c g b L xs) (hw : y_W g (lwA s) [] ad KA u s.heap H locs) (I : INV u) (hq0 : ad 0 = q0) (hq1 : ad 272 = q1) (hl : lv_has ls 4 (lwL b q0 q1 i)) (hi : i + 6 ≤ L) (kk : ∀ (u' : xM) (H' : Heap) (locs' : List Loc), y_W g (lwA s) [] ad KA u' s.heap H' locs' → INV u' → W p l e room_1 s m #[Value.ref b] below meth c H' locs' 290 15295 Q (F0 m 2206 ls [])) : W p l e room_1 s m #[Value.ref b] below meth c H locs 290 15295 Q (F0 m 1815 ls []) := by
  have hx := X.1.1.1
  have hb := X.1.1.2.1
  have hown := X.1.1.2.2.2.1
  have hts := X.1.1.2.2.2.2.1
  refine lv_aload_n hx hb dL_law_1815 rfl (lv_at hl 1 rfl) ?_
  refine L_arg X hw.2.2 hl 1 (by omega) (by decide) dL_law_1816 dL_law_1817 dL_law_1818 dL_law_1819 dL_law_1820 ?_
  refine y_calli hw (y_runV (ci := 10) X.1 hw (m_X10_keep l (y_xD KA_nd hw.2.1) KA_x (K_keep I (xs (i + 1)))) k_X (KA_x 0 (by decide)) hq0 rfl (x_gV xw_1547 xw_1548 xw_1549 xw_2 xw_1550) rfl rfl qX10_keep ⟨Nat.le_of_ble_eq_true rfl, Nat.le_of_ble_eq_true rfl⟩ rfl hl.1 rfl (Nat.le_of_ble_eq_true rfl) dL_law_1821 ⟨Nat.le_of_ble_eq_true rfl, Nat.le_of_ble_eq_true rfl⟩) (fun r1 u1 H locs hw h1 => ?_)
  refine lv_aload_n hx hb dL_law_1824 rfl (lv_at hl 2 rfl) ?_
  refine L_arg X hw.2.2 hl 1 (by omega) (by decide) dL_law_1825 dL_law_1826 dL_law_1827 dL_law_1828 dL_law_1829 ?_
  refine y_calli hw (y_runV (ci := 11) X.1 hw (m_X11_keep l (y_xD KA_nd hw.2.1) KA_m h1) k_M (KA_m 272 (by decide) (by decide)) hq1 rfl (x_gV xw_1558 xw_1559 xw_1560 xw_5 xw_1561) rfl rfl qX11_keep ⟨Nat.le_of_ble_eq_true rfl, Nat.le_of_ble_eq_true rfl⟩ rfl hl.1 rfl (Nat.le_of_ble_eq_true rfl) dL_law_1830 ⟨Nat.le_of_ble_eq_true rfl, Nat.le_of_ble_eq_true rfl⟩) (fun r2 u2 H locs hw h2 => ?_)
  exact lv_icmp_eq (tgt := 2206) hx hb dL_law_1833 (by decide) (fun _ => kk _ _ _ hw h2.2) (fun z => absurd h2.1 z)
set_option maxHeartbeats 4000000 in
set_option maxRecDepth 100000 in
theorem lw_55 (X : L_C p s m meth c g b L xs) (hw : y_W g (lwA s) [] ad KA u s.heap H locs) (I : INV u) (hq0 : ad 0 = q0) (hq1 : ad 272 = q1) (hl : lv_has ls 4 (lwL b q0 q1 i)) (hi : i + 6 ≤ L) (kk : ∀ (u' : xM) (H' : Heap) (locs' : List Loc), y_W g (lwA s) [] ad KA u' s.heap H' locs' → INV u' → W p l e room_1 s m #[Value.ref b] below meth c H' locs' 290 15295 Q (F0 m 2206 ls [])) : W p l e room_1 s m #[Value.ref b] below meth c H locs 290 15295 Q (F0 m 1838 ls []) := by
  have hx := X.1.1.1
  have hb := X.1.1.2.1
  have hown := X.1.1.2.2.2.1
  have hts := X.1.1.2.2.2.2.1
  refine lv_aload_n hx hb dL_law_1838 rfl (lv_at hl 1 rfl) ?_
  refine L_arg X hw.2.2 hl 1 (by omega) (by decide) dL_law_1839 dL_law_1840 dL_law_1841 dL_law_1842 dL_law_1843 ?_
  refine y_calli hw (y_runV (ci := 10) X.1 hw (m_X10_keepSet l (y_xD KA_nd hw.2.1) KA_x (K_keepSet I (xs (i + 1)))) k_X (KA_x 0 (by decide)) hq0 rfl (x_gV xw_1566 xw_1567 xw_1568 xw_2 xw_1569) rfl rfl qX10_keepSet ⟨Nat.le_of_ble_eq_true rfl, Nat.le_of_ble_eq_true rfl⟩ rfl hl.1 rfl (Nat.le_of_ble_eq_true rfl) dL_law_1844 ⟨Nat.le_of_ble_eq_true rfl, Nat.le_of_ble_eq_true rfl⟩) (fun r1 u1 H locs hw h1 => ?_)
  refine lv_aload_n hx hb dL_law_1847 rfl (lv_at hl 2 rfl) ?_
  refine L_arg X hw.2.2 hl 1 (by omega) (by decide) dL_law_1848 dL_law_1849 dL_law_1850 dL_law_1851 dL_law_1852 ?_
  refine y_calli hw (y_runV (ci := 11) X.1 hw (m_X11_keepSet l (y_xD KA_nd hw.2.1) KA_m h1) k_M (KA_m 272 (by decide) (by decide)) hq1 rfl (x_gV xw_1570 xw_1571 xw_1572 xw_5 xw_1573) rfl rfl qX11_keepSet ⟨Nat.le_of_ble_eq_true rfl, Nat.le_of_ble_eq_true rfl⟩ rfl hl.1 rfl (Nat.le_of_ble_eq_true rfl) dL_law_1853 ⟨Nat.le_of_ble_eq_true rfl, Nat.le_of_ble_eq_true rfl⟩) (fun r2 u2 H locs hw h2 => ?_)
  exact lv_icmp_eq (tgt := 2206) hx hb dL_law_1856 (by decide) (fun _ => kk _ _ _ hw h2.2) (fun z => absurd h2.1 z)
set_option maxHeartbeats 4000000 in
set_option maxRecDepth 100000 in
theorem lw_56 (X : L_C p s m meth c g b L xs) (hw : y_W g (lwA s) [] ad KA u s.heap H locs) (I : INV u) (hq0 : ad 0 = q0) (hq1 : ad 272 = q1) (hl : lv_has ls 4 (lwL b q0 q1 i)) (hi : i + 6 ≤ L) (kk : ∀ (u' : xM) (H' : Heap) (locs' : List Loc), y_W g (lwA s) [] ad KA u' s.heap H' locs' → INV u' → W p l e room_1 s m #[Value.ref b] below meth c H' locs' 290 15295 Q (F0 m 2206 ls [])) : W p l e room_1 s m #[Value.ref b] below meth c H locs 290 15295 Q (F0 m 1861 ls []) := by
  have hx := X.1.1.1
  have hb := X.1.1.2.1
  have hown := X.1.1.2.2.2.1
  have hts := X.1.1.2.2.2.2.1
  refine lv_aload_n hx hb dL_law_1861 rfl (lv_at hl 1 rfl) ?_
  refine L_arg X hw.2.2 hl 1 (by omega) (by decide) dL_law_1862 dL_law_1863 dL_law_1864 dL_law_1865 dL_law_1866 ?_
  refine y_calli hw (y_runV (ci := 10) X.1 hw (m_X10_plan l (y_xD KA_nd hw.2.1) KA_x (K_plan I (xs (i + 1)))) k_X (KA_x 0 (by decide)) hq0 rfl (x_gV xw_1574 xw_1575 xw_1576 xw_2 xw_1577) rfl rfl qX10_plan ⟨Nat.le_of_ble_eq_true rfl, Nat.le_of_ble_eq_true rfl⟩ rfl hl.1 rfl (Nat.le_of_ble_eq_true rfl) dL_law_1867 ⟨Nat.le_of_ble_eq_true rfl, Nat.le_of_ble_eq_true rfl⟩) (fun r1 u1 H locs hw h1 => ?_)
  refine lv_aload_n hx hb dL_law_1870 rfl (lv_at hl 2 rfl) ?_
  refine L_arg X hw.2.2 hl 1 (by omega) (by decide) dL_law_1871 dL_law_1872 dL_law_1873 dL_law_1874 dL_law_1875 ?_
  refine y_calli hw (y_runV (ci := 11) X.1 hw (m_X11_plan l (y_xD KA_nd hw.2.1) KA_m h1) k_M (KA_m 272 (by decide) (by decide)) hq1 rfl (x_gV xw_1637 xw_1638 xw_1639 xw_5 xw_1640) rfl rfl qX11_plan ⟨Nat.le_of_ble_eq_true rfl, Nat.le_of_ble_eq_true rfl⟩ rfl hl.1 rfl (Nat.le_of_ble_eq_true rfl) dL_law_1876 ⟨Nat.le_of_ble_eq_true rfl, Nat.le_of_ble_eq_true rfl⟩) (fun r2 u2 H locs hw h2 => ?_)
  exact lv_icmp_eq (tgt := 2206) hx hb dL_law_1879 (by decide) (fun _ => kk _ _ _ hw h2.2) (fun z => absurd h2.1 z)
set_option maxHeartbeats 4000000 in
set_option maxRecDepth 100000 in
theorem lw_57 (X : L_C p s m meth c g b L xs) (hw : y_W g (lwA s) [] ad KA u s.heap H locs) (I : INV u) (hq0 : ad 0 = q0) (hq1 : ad 272 = q1) (hl : lv_has ls 4 (lwL b q0 q1 i)) (hi : i + 6 ≤ L) (kk : ∀ (u' : xM) (H' : Heap) (locs' : List Loc), y_W g (lwA s) [] ad KA u' s.heap H' locs' → INV u' → W p l e room_1 s m #[Value.ref b] below meth c H' locs' 290 15295 Q (F0 m 2206 ls [])) : W p l e room_1 s m #[Value.ref b] below meth c H locs 290 15295 Q (F0 m 1884 ls []) := by
  have hx := X.1.1.1
  have hb := X.1.1.2.1
  have hown := X.1.1.2.2.2.1
  have hts := X.1.1.2.2.2.2.1
  refine lv_aload_n hx hb dL_law_1884 rfl (lv_at hl 1 rfl) ?_
  refine L_arg X hw.2.2 hl 1 (by omega) (by decide) dL_law_1885 dL_law_1886 dL_law_1887 dL_law_1888 dL_law_1889 ?_
  refine y_calli hw (y_runV (ci := 10) X.1 hw (m_X10_planned l (y_xD KA_nd hw.2.1) KA_x (K_planned I (xs (i + 1)))) k_X (KA_x 0 (by decide)) hq0 rfl (x_gV xw_1655 xw_1656 xw_1657 xw_2 xw_1658) rfl rfl qX10_planned ⟨Nat.le_of_ble_eq_true rfl, Nat.le_of_ble_eq_true rfl⟩ rfl hl.1 rfl (Nat.le_of_ble_eq_true rfl) dL_law_1890 ⟨Nat.le_of_ble_eq_true rfl, Nat.le_of_ble_eq_true rfl⟩) (fun r1 u1 H locs hw h1 => ?_)
  refine lv_aload_n hx hb dL_law_1893 rfl (lv_at hl 2 rfl) ?_
  refine L_arg X hw.2.2 hl 1 (by omega) (by decide) dL_law_1894 dL_law_1895 dL_law_1896 dL_law_1897 dL_law_1898 ?_
  refine y_calli hw (y_runV (ci := 11) X.1 hw (m_X11_planned l (y_xD KA_nd hw.2.1) KA_m h1) k_M (KA_m 272 (by decide) (by decide)) hq1 rfl (x_gV xw_1663 xw_1664 xw_1665 xw_5 xw_1666) rfl rfl qX11_planned ⟨Nat.le_of_ble_eq_true rfl, Nat.le_of_ble_eq_true rfl⟩ rfl hl.1 rfl (Nat.le_of_ble_eq_true rfl) dL_law_1899 ⟨Nat.le_of_ble_eq_true rfl, Nat.le_of_ble_eq_true rfl⟩) (fun r2 u2 H locs hw h2 => ?_)
  exact lv_icmp_eq (tgt := 2206) hx hb dL_law_1902 (by decide) (fun _ => kk _ _ _ hw h2.2) (fun z => absurd h2.1 z)
set_option maxHeartbeats 4000000 in
set_option maxRecDepth 100000 in
theorem lw_58 (X : L_C p s m meth c g b L xs) (hw : y_W g (lwA s) [] ad KA u s.heap H locs) (I : INV u) (hq0 : ad 0 = q0) (hq1 : ad 272 = q1) (hl : lv_has ls 4 (lwL b q0 q1 i)) (hi : i + 6 ≤ L) (kk : ∀ (u' : xM) (H' : Heap) (locs' : List Loc), y_W g (lwA s) [] ad KA u' s.heap H' locs' → INV u' → W p l e room_1 s m #[Value.ref b] below meth c H' locs' 290 15295 Q (F0 m 2206 ls [])) : W p l e room_1 s m #[Value.ref b] below meth c H locs 290 15295 Q (F0 m 1907 ls []) := by
  have hx := X.1.1.1
  have hb := X.1.1.2.1
  have hown := X.1.1.2.2.2.1
  have hts := X.1.1.2.2.2.2.1
  refine lv_aload_n hx hb dL_law_1907 rfl (lv_at hl 1 rfl) ?_
  refine L_arg X hw.2.2 hl 1 (by omega) (by decide) dL_law_1908 dL_law_1909 dL_law_1910 dL_law_1911 dL_law_1912 ?_
  refine y_calli hw (y_runV (ci := 10) X.1 hw (m_X10_save l (y_xD KA_nd hw.2.1) KA_x (K_save I (xs (i + 1)))) k_X (KA_x 0 (by decide)) hq0 rfl (x_gV xw_1667 xw_1668 xw_1669 xw_2 xw_1670) rfl rfl qX10_save ⟨Nat.le_of_ble_eq_true rfl, Nat.le_of_ble_eq_true rfl⟩ rfl hl.1 rfl (Nat.le_of_ble_eq_true rfl) dL_law_1913 ⟨Nat.le_of_ble_eq_true rfl, Nat.le_of_ble_eq_true rfl⟩) (fun r1 u1 H locs hw h1 => ?_)
  refine lv_aload_n hx hb dL_law_1916 rfl (lv_at hl 2 rfl) ?_
  refine L_arg X hw.2.2 hl 1 (by omega) (by decide) dL_law_1917 dL_law_1918 dL_law_1919 dL_law_1920 dL_law_1921 ?_
  refine y_calli hw (y_runV (ci := 11) X.1 hw (m_X11_save l (y_xD KA_nd hw.2.1) KA_m h1) k_M (KA_m 272 (by decide) (by decide)) hq1 rfl (x_gV xw_1679 xw_1680 xw_1681 xw_5 xw_1682) rfl rfl qX11_save ⟨Nat.le_of_ble_eq_true rfl, Nat.le_of_ble_eq_true rfl⟩ rfl hl.1 rfl (Nat.le_of_ble_eq_true rfl) dL_law_1922 ⟨Nat.le_of_ble_eq_true rfl, Nat.le_of_ble_eq_true rfl⟩) (fun r2 u2 H locs hw h2 => ?_)
  exact lv_icmp_eq (tgt := 2206) hx hb dL_law_1925 (by decide) (fun _ => kk _ _ _ hw h2.2) (fun z => absurd h2.1 z)
set_option maxHeartbeats 4000000 in
set_option maxRecDepth 100000 in
theorem lw_59 (X : L_C p s m meth c g b L xs) (hw : y_W g (lwA s) [] ad KA u s.heap H locs) (I : INV u) (hq0 : ad 0 = q0) (hq1 : ad 272 = q1) (hl : lv_has ls 4 (lwL b q0 q1 i)) (hi : i + 6 ≤ L) (kk : ∀ (u' : xM) (H' : Heap) (locs' : List Loc), y_W g (lwA s) [] ad KA u' s.heap H' locs' → INV u' → W p l e room_1 s m #[Value.ref b] below meth c H' locs' 290 15295 Q (F0 m 2206 ls [])) : W p l e room_1 s m #[Value.ref b] below meth c H locs 290 15295 Q (F0 m 1930 ls []) := by
  have hx := X.1.1.1
  have hb := X.1.1.2.1
  have hown := X.1.1.2.2.2.1
  have hts := X.1.1.2.2.2.2.1
  refine lv_aload_n hx hb dL_law_1930 rfl (lv_at hl 1 rfl) ?_
  refine L_arg X hw.2.2 hl 1 (by omega) (by decide) dL_law_1931 dL_law_1932 dL_law_1933 dL_law_1934 dL_law_1935 ?_
  refine y_calli hw (y_runV (ci := 10) X.1 hw (m_X10_saveSet l (y_xD KA_nd hw.2.1) KA_x (K_saveSet I (xs (i + 1)))) k_X (KA_x 0 (by decide)) hq0 rfl (x_gV xw_1689 xw_1690 xw_1691 xw_2 xw_1692) rfl rfl qX10_saveSet ⟨Nat.le_of_ble_eq_true rfl, Nat.le_of_ble_eq_true rfl⟩ rfl hl.1 rfl (Nat.le_of_ble_eq_true rfl) dL_law_1936 ⟨Nat.le_of_ble_eq_true rfl, Nat.le_of_ble_eq_true rfl⟩) (fun r1 u1 H locs hw h1 => ?_)
  refine lv_aload_n hx hb dL_law_1939 rfl (lv_at hl 2 rfl) ?_
  refine L_arg X hw.2.2 hl 1 (by omega) (by decide) dL_law_1940 dL_law_1941 dL_law_1942 dL_law_1943 dL_law_1944 ?_
  refine y_calli hw (y_runV (ci := 11) X.1 hw (m_X11_saveSet l (y_xD KA_nd hw.2.1) KA_m h1) k_M (KA_m 272 (by decide) (by decide)) hq1 rfl (x_gV xw_1694 xw_1695 xw_1696 xw_5 xw_1697) rfl rfl qX11_saveSet ⟨Nat.le_of_ble_eq_true rfl, Nat.le_of_ble_eq_true rfl⟩ rfl hl.1 rfl (Nat.le_of_ble_eq_true rfl) dL_law_1945 ⟨Nat.le_of_ble_eq_true rfl, Nat.le_of_ble_eq_true rfl⟩) (fun r2 u2 H locs hw h2 => ?_)
  exact lv_icmp_eq (tgt := 2206) hx hb dL_law_1948 (by decide) (fun _ => kk _ _ _ hw h2.2) (fun z => absurd h2.1 z)
set_option maxHeartbeats 4000000 in
set_option maxRecDepth 100000 in
theorem lw_60 (X : L_C p s m meth c g b L xs) (hw : y_W g (lwA s) [] ad KA u s.heap H locs) (I : INV u) (hq0 : ad 0 = q0) (hq1 : ad 272 = q1) (hl : lv_has ls 4 (lwL b q0 q1 i)) (hi : i + 6 ≤ L) (kk : ∀ (u' : xM) (H' : Heap) (locs' : List Loc), y_W g (lwA s) [] ad KA u' s.heap H' locs' → INV u' → W p l e room_1 s m #[Value.ref b] below meth c H' locs' 290 15295 Q (F0 m 2206 ls [])) : W p l e room_1 s m #[Value.ref b] below meth c H locs 290 15295 Q (F0 m 1953 ls []) := by
  have hx := X.1.1.1
  have hb := X.1.1.2.1
  have hown := X.1.1.2.2.2.1
  have hts := X.1.1.2.2.2.2.1
  refine lv_aload_n hx hb dL_law_1953 rfl (lv_at hl 1 rfl) ?_
  refine L_arg X hw.2.2 hl 1 (by omega) (by decide) dL_law_1954 dL_law_1955 dL_law_1956 dL_law_1957 dL_law_1958 ?_
  refine y_calli hw (y_runV (ci := 10) X.1 hw (m_X10_damage l (y_xD KA_nd hw.2.1) KA_x (K_damage I (xs (i + 1)))) k_X (KA_x 0 (by decide)) hq0 rfl (x_gV xw_1698 xw_1699 xw_1700 xw_2 xw_1701) rfl rfl qX10_damage ⟨Nat.le_of_ble_eq_true rfl, Nat.le_of_ble_eq_true rfl⟩ rfl hl.1 rfl (Nat.le_of_ble_eq_true rfl) dL_law_1959 ⟨Nat.le_of_ble_eq_true rfl, Nat.le_of_ble_eq_true rfl⟩) (fun r1 u1 H locs hw h1 => ?_)
  refine lv_aload_n hx hb dL_law_1962 rfl (lv_at hl 2 rfl) ?_
  refine L_arg X hw.2.2 hl 1 (by omega) (by decide) dL_law_1963 dL_law_1964 dL_law_1965 dL_law_1966 dL_law_1967 ?_
  refine y_calli hw (y_runV (ci := 11) X.1 hw (m_X11_damage l (y_xD KA_nd hw.2.1) KA_m h1) k_M (KA_m 272 (by decide) (by decide)) hq1 rfl (x_gV xw_1714 xw_1715 xw_1716 xw_5 xw_1717) rfl rfl qX11_damage ⟨Nat.le_of_ble_eq_true rfl, Nat.le_of_ble_eq_true rfl⟩ rfl hl.1 rfl (Nat.le_of_ble_eq_true rfl) dL_law_1968 ⟨Nat.le_of_ble_eq_true rfl, Nat.le_of_ble_eq_true rfl⟩) (fun r2 u2 H locs hw h2 => ?_)
  exact lv_icmp_eq (tgt := 2206) hx hb dL_law_1971 (by decide) (fun _ => kk _ _ _ hw h2.2) (fun z => absurd h2.1 z)
set_option maxHeartbeats 4000000 in
set_option maxRecDepth 100000 in
theorem lw_61 (X : L_C p s m meth c g b L xs) (hw : y_W g (lwA s) [] ad KA u s.heap H locs) (I : INV u) (hq0 : ad 0 = q0) (hq1 : ad 272 = q1) (hl : lv_has ls 4 (lwL b q0 q1 i)) (hi : i + 6 ≤ L) (kk : ∀ (u' : xM) (H' : Heap) (locs' : List Loc), y_W g (lwA s) [] ad KA u' s.heap H' locs' → INV u' → W p l e room_1 s m #[Value.ref b] below meth c H' locs' 290 15295 Q (F0 m 2206 ls [])) : W p l e room_1 s m #[Value.ref b] below meth c H locs 290 15295 Q (F0 m 1976 ls []) := by
  have hx := X.1.1.1
  have hb := X.1.1.2.1
  have hown := X.1.1.2.2.2.1
  have hts := X.1.1.2.2.2.2.1
  refine lv_aload_n hx hb dL_law_1976 rfl (lv_at hl 1 rfl) ?_
  refine L_arg X hw.2.2 hl 1 (by omega) (by decide) dL_law_1977 dL_law_1978 dL_law_1979 dL_law_1980 dL_law_1981 ?_
  refine L_arg X hw.2.2 hl 2 (by omega) (by decide) dL_law_1982 dL_law_1983 dL_law_1984 dL_law_1985 dL_law_1986 ?_
  refine y_callz hw (y_runV (ci := 10) X.1 hw (m_X10_guilt l (y_xD KA_nd hw.2.1) KA_x (K_guilt I (xs (i + 1)) (xs (i + 2)))) k_X (KA_x 0 (by decide)) hq0 rfl (x_gV xw_1726 xw_1727 xw_1728 xw_2 xw_1729) rfl rfl qX10_guilt ⟨Nat.le_of_ble_eq_true rfl, Nat.le_of_ble_eq_true rfl⟩ rfl hl.1 rfl (Nat.le_of_ble_eq_true rfl) dL_law_1987 ⟨Nat.le_of_ble_eq_true rfl, Nat.le_of_ble_eq_true rfl⟩) (fun r1 u1 H locs hw h1 => ?_)
  refine lv_aload_n hx hb dL_law_1990 rfl (lv_at hl 2 rfl) ?_
  refine L_arg X hw.2.2 hl 1 (by omega) (by decide) dL_law_1991 dL_law_1992 dL_law_1993 dL_law_1994 dL_law_1995 ?_
  refine L_arg X hw.2.2 hl 2 (by omega) (by decide) dL_law_1996 dL_law_1997 dL_law_1998 dL_law_1999 dL_law_2000 ?_
  refine y_callz hw (y_runV (ci := 11) X.1 hw (m_X11_guilt l (y_xD KA_nd hw.2.1) KA_m h1) k_M (KA_m 272 (by decide) (by decide)) hq1 rfl (x_gV xw_1747 xw_1748 xw_1749 xw_5 xw_1750) rfl rfl qX11_guilt ⟨Nat.le_of_ble_eq_true rfl, Nat.le_of_ble_eq_true rfl⟩ rfl hl.1 rfl (Nat.le_of_ble_eq_true rfl) dL_law_2001 ⟨Nat.le_of_ble_eq_true rfl, Nat.le_of_ble_eq_true rfl⟩) (fun r2 u2 H locs hw h2 => ?_)
  exact lv_icmp_eq (tgt := 2206) hx hb dL_law_2004 (by decide) (fun _ => kk _ _ _ hw h2.2) (fun z => absurd (by rw [h2.1]) z)
set_option maxHeartbeats 4000000 in
set_option maxRecDepth 100000 in
theorem lw_62 (X : L_C p s m meth c g b L xs) (hw : y_W g (lwA s) [] ad KA u s.heap H locs) (I : INV u) (hq0 : ad 0 = q0) (hq1 : ad 272 = q1) (hl : lv_has ls 4 (lwL b q0 q1 i)) (hi : i + 6 ≤ L) (kk : ∀ (u' : xM) (H' : Heap) (locs' : List Loc), y_W g (lwA s) [] ad KA u' s.heap H' locs' → INV u' → W p l e room_1 s m #[Value.ref b] below meth c H' locs' 290 15295 Q (F0 m 2206 ls [])) : W p l e room_1 s m #[Value.ref b] below meth c H locs 290 15295 Q (F0 m 2009 ls []) := by
  have hx := X.1.1.1
  have hb := X.1.1.2.1
  have hown := X.1.1.2.2.2.1
  have hts := X.1.1.2.2.2.2.1
  refine lv_aload_n hx hb dL_law_2009 rfl (lv_at hl 1 rfl) ?_
  refine L_arg X hw.2.2 hl 1 (by omega) (by decide) dL_law_2010 dL_law_2011 dL_law_2012 dL_law_2013 dL_law_2014 ?_
  refine L_arg X hw.2.2 hl 2 (by omega) (by decide) dL_law_2015 dL_law_2016 dL_law_2017 dL_law_2018 dL_law_2019 ?_
  refine y_calli hw (y_runV (ci := 10) X.1 hw (m_X10_print l (y_xD KA_nd hw.2.1) KA_x (K_print I (xs (i + 1)) (xs (i + 2)))) k_X (KA_x 0 (by decide)) hq0 rfl (x_gV xw_1761 xw_1762 xw_1763 xw_2 xw_1764) rfl rfl qX10_print ⟨Nat.le_of_ble_eq_true rfl, Nat.le_of_ble_eq_true rfl⟩ rfl hl.1 rfl (Nat.le_of_ble_eq_true rfl) dL_law_2020 ⟨Nat.le_of_ble_eq_true rfl, Nat.le_of_ble_eq_true rfl⟩) (fun r1 u1 H locs hw h1 => ?_)
  refine lv_aload_n hx hb dL_law_2023 rfl (lv_at hl 2 rfl) ?_
  refine L_arg X hw.2.2 hl 1 (by omega) (by decide) dL_law_2024 dL_law_2025 dL_law_2026 dL_law_2027 dL_law_2028 ?_
  refine L_arg X hw.2.2 hl 2 (by omega) (by decide) dL_law_2029 dL_law_2030 dL_law_2031 dL_law_2032 dL_law_2033 ?_
  refine y_calli hw (y_runV (ci := 11) X.1 hw (m_X11_print l (y_xD KA_nd hw.2.1) KA_m h1) k_M (KA_m 272 (by decide) (by decide)) hq1 rfl (x_gV xw_1774 xw_1775 xw_1776 xw_5 xw_1777) rfl rfl qX11_print ⟨Nat.le_of_ble_eq_true rfl, Nat.le_of_ble_eq_true rfl⟩ rfl hl.1 rfl (Nat.le_of_ble_eq_true rfl) dL_law_2034 ⟨Nat.le_of_ble_eq_true rfl, Nat.le_of_ble_eq_true rfl⟩) (fun r2 u2 H locs hw h2 => ?_)
  exact lv_icmp_eq (tgt := 2206) hx hb dL_law_2037 (by decide) (fun _ => kk _ _ _ hw h2.2) (fun z => absurd h2.1 z)
set_option maxHeartbeats 4000000 in
set_option maxRecDepth 100000 in
theorem lw_63 (X : L_C p s m meth c g b L xs) (hw : y_W g (lwA s) [] ad KA u s.heap H locs) (I : INV u) (hq0 : ad 0 = q0) (hq1 : ad 272 = q1) (hl : lv_has ls 4 (lwL b q0 q1 i)) (hi : i + 6 ≤ L) (kk : ∀ (u' : xM) (H' : Heap) (locs' : List Loc), y_W g (lwA s) [] ad KA u' s.heap H' locs' → INV u' → W p l e room_1 s m #[Value.ref b] below meth c H' locs' 290 15295 Q (F0 m 2206 ls [])) : W p l e room_1 s m #[Value.ref b] below meth c H locs 290 15295 Q (F0 m 2042 ls []) := by
  have hx := X.1.1.1
  have hb := X.1.1.2.1
  have hown := X.1.1.2.2.2.1
  have hts := X.1.1.2.2.2.2.1
  refine lv_aload_n hx hb dL_law_2042 rfl (lv_at hl 1 rfl) ?_
  refine L_arg X hw.2.2 hl 1 (by omega) (by decide) dL_law_2043 dL_law_2044 dL_law_2045 dL_law_2046 dL_law_2047 ?_
  refine y_calli hw (y_runV (ci := 10) X.1 hw (m_X10_suspects l (y_xD KA_nd hw.2.1) KA_x (K_suspects I (xs (i + 1)))) k_X (KA_x 0 (by decide)) hq0 rfl (x_gV xw_1786 xw_1787 xw_1788 xw_2 xw_1789) rfl rfl qX10_suspects ⟨Nat.le_of_ble_eq_true rfl, Nat.le_of_ble_eq_true rfl⟩ rfl hl.1 rfl (Nat.le_of_ble_eq_true rfl) dL_law_2048 ⟨Nat.le_of_ble_eq_true rfl, Nat.le_of_ble_eq_true rfl⟩) (fun r1 u1 H locs hw h1 => ?_)
  refine lv_aload_n hx hb dL_law_2051 rfl (lv_at hl 2 rfl) ?_
  refine L_arg X hw.2.2 hl 1 (by omega) (by decide) dL_law_2052 dL_law_2053 dL_law_2054 dL_law_2055 dL_law_2056 ?_
  refine y_calli hw (y_runV (ci := 11) X.1 hw (m_X11_suspects l (y_xD KA_nd hw.2.1) KA_m h1) k_M (KA_m 272 (by decide) (by decide)) hq1 rfl (x_gV xw_1794 xw_1795 xw_1796 xw_5 xw_1797) rfl rfl qX11_suspects ⟨Nat.le_of_ble_eq_true rfl, Nat.le_of_ble_eq_true rfl⟩ rfl hl.1 rfl (Nat.le_of_ble_eq_true rfl) dL_law_2057 ⟨Nat.le_of_ble_eq_true rfl, Nat.le_of_ble_eq_true rfl⟩) (fun r2 u2 H locs hw h2 => ?_)
  exact lv_icmp_eq (tgt := 2206) hx hb dL_law_2060 (by decide) (fun _ => kk _ _ _ hw h2.2) (fun z => absurd h2.1 z)
set_option maxHeartbeats 4000000 in
set_option maxRecDepth 100000 in
theorem lw_64 (X : L_C p s m meth c g b L xs) (hw : y_W g (lwA s) [] ad KA u s.heap H locs) (I : INV u) (hq0 : ad 0 = q0) (hq1 : ad 272 = q1) (hl : lv_has ls 4 (lwL b q0 q1 i)) (hi : i + 6 ≤ L) (kk : ∀ (u' : xM) (H' : Heap) (locs' : List Loc), y_W g (lwA s) [] ad KA u' s.heap H' locs' → INV u' → W p l e room_1 s m #[Value.ref b] below meth c H' locs' 290 15295 Q (F0 m 2206 ls [])) : W p l e room_1 s m #[Value.ref b] below meth c H locs 290 15295 Q (F0 m 2065 ls []) := by
  have hx := X.1.1.1
  have hb := X.1.1.2.1
  have hown := X.1.1.2.2.2.1
  have hts := X.1.1.2.2.2.2.1
  refine lv_aload_n hx hb dL_law_2065 rfl (lv_at hl 1 rfl) ?_
  refine y_calli hw (y_runV (ci := 10) X.1 hw (m_X10_telling l (y_xD KA_nd hw.2.1) KA_x (K_telling I)) k_X (KA_x 0 (by decide)) hq0 rfl (x_gV xw_1798 xw_1799 xw_1800 xw_2 xw_1801) rfl rfl qX10_telling ⟨Nat.le_of_ble_eq_true rfl, Nat.le_of_ble_eq_true rfl⟩ rfl hl.1 rfl (Nat.le_of_ble_eq_true rfl) dL_law_2066 ⟨Nat.le_of_ble_eq_true rfl, Nat.le_of_ble_eq_true rfl⟩) (fun r1 u1 H locs hw h1 => ?_)
  refine lv_aload_n hx hb dL_law_2069 rfl (lv_at hl 2 rfl) ?_
  refine y_calli hw (y_runV (ci := 11) X.1 hw (m_X11_telling l (y_xD KA_nd hw.2.1) KA_m h1) k_M (KA_m 272 (by decide) (by decide)) hq1 rfl (x_gV xw_1811 xw_1812 xw_1813 xw_5 xw_1814) rfl rfl qX11_telling ⟨Nat.le_of_ble_eq_true rfl, Nat.le_of_ble_eq_true rfl⟩ rfl hl.1 rfl (Nat.le_of_ble_eq_true rfl) dL_law_2070 ⟨Nat.le_of_ble_eq_true rfl, Nat.le_of_ble_eq_true rfl⟩) (fun r2 u2 H locs hw h2 => ?_)
  exact lv_icmp_eq (tgt := 2206) hx hb dL_law_2073 (by decide) (fun _ => kk _ _ _ hw h2.2) (fun z => absurd h2.1 z)
set_option maxHeartbeats 4000000 in
set_option maxRecDepth 100000 in
theorem lw_65 (X : L_C p s m meth c g b L xs) (hw : y_W g (lwA s) [] ad KA u s.heap H locs) (I : INV u) (hq0 : ad 0 = q0) (hq1 : ad 272 = q1) (hl : lv_has ls 4 (lwL b q0 q1 i)) (hi : i + 6 ≤ L) (kk : ∀ (u' : xM) (H' : Heap) (locs' : List Loc), y_W g (lwA s) [] ad KA u' s.heap H' locs' → INV u' → W p l e room_1 s m #[Value.ref b] below meth c H' locs' 290 15295 Q (F0 m 2206 ls [])) : W p l e room_1 s m #[Value.ref b] below meth c H locs 290 15295 Q (F0 m 2078 ls []) := by
  have hx := X.1.1.1
  have hb := X.1.1.2.1
  have hown := X.1.1.2.2.2.1
  have hts := X.1.1.2.2.2.2.1
  refine lv_aload_n hx hb dL_law_2078 rfl (lv_at hl 1 rfl) ?_
  refine L_arg X hw.2.2 hl 1 (by omega) (by decide) dL_law_2079 dL_law_2080 dL_law_2081 dL_law_2082 dL_law_2083 ?_
  refine y_calli hw (y_runV (ci := 10) X.1 hw (m_X10_prints l (y_xD KA_nd hw.2.1) KA_x (K_prints I (xs (i + 1)))) k_X (KA_x 0 (by decide)) hq0 rfl (x_gV xw_1819 xw_1820 xw_1821 xw_2 xw_1822) rfl rfl qX10_prints ⟨Nat.le_of_ble_eq_true rfl, Nat.le_of_ble_eq_true rfl⟩ rfl hl.1 rfl (Nat.le_of_ble_eq_true rfl) dL_law_2084 ⟨Nat.le_of_ble_eq_true rfl, Nat.le_of_ble_eq_true rfl⟩) (fun r1 u1 H locs hw h1 => ?_)
  refine lv_aload_n hx hb dL_law_2087 rfl (lv_at hl 2 rfl) ?_
  refine L_arg X hw.2.2 hl 1 (by omega) (by decide) dL_law_2088 dL_law_2089 dL_law_2090 dL_law_2091 dL_law_2092 ?_
  refine y_calli hw (y_runV (ci := 11) X.1 hw (m_X11_prints l (y_xD KA_nd hw.2.1) KA_m h1) k_M (KA_m 272 (by decide) (by decide)) hq1 rfl (x_gV xw_1823 xw_1824 xw_1825 xw_5 xw_1826) rfl rfl qX11_prints ⟨Nat.le_of_ble_eq_true rfl, Nat.le_of_ble_eq_true rfl⟩ rfl hl.1 rfl (Nat.le_of_ble_eq_true rfl) dL_law_2093 ⟨Nat.le_of_ble_eq_true rfl, Nat.le_of_ble_eq_true rfl⟩) (fun r2 u2 H locs hw h2 => ?_)
  exact lv_icmp_eq (tgt := 2206) hx hb dL_law_2096 (by decide) (fun _ => kk _ _ _ hw h2.2) (fun z => absurd h2.1 z)
set_option maxHeartbeats 4000000 in
set_option maxRecDepth 100000 in
theorem lw_66 (X : L_C p s m meth c g b L xs) (hw : y_W g (lwA s) [] ad KA u s.heap H locs) (I : INV u) (hq0 : ad 0 = q0) (hq1 : ad 272 = q1) (hl : lv_has ls 4 (lwL b q0 q1 i)) (hi : i + 6 ≤ L) (kk : ∀ (u' : xM) (H' : Heap) (locs' : List Loc), y_W g (lwA s) [] ad KA u' s.heap H' locs' → INV u' → W p l e room_1 s m #[Value.ref b] below meth c H' locs' 290 15295 Q (F0 m 2206 ls [])) : W p l e room_1 s m #[Value.ref b] below meth c H locs 290 15295 Q (F0 m 2101 ls []) := by
  have hx := X.1.1.1
  have hb := X.1.1.2.1
  have hown := X.1.1.2.2.2.1
  have hts := X.1.1.2.2.2.2.1
  refine lv_aload_n hx hb dL_law_2101 rfl (lv_at hl 1 rfl) ?_
  refine L_arg X hw.2.2 hl 1 (by omega) (by decide) dL_law_2102 dL_law_2103 dL_law_2104 dL_law_2105 dL_law_2106 ?_
  refine y_calli hw (y_runV (ci := 10) X.1 hw (m_X10_live l (y_xD KA_nd hw.2.1) KA_x (K_live I (xs (i + 1)))) k_X (KA_x 0 (by decide)) hq0 rfl (x_gV xw_1827 xw_1828 xw_1829 xw_2 xw_1830) rfl rfl qX10_live ⟨Nat.le_of_ble_eq_true rfl, Nat.le_of_ble_eq_true rfl⟩ rfl hl.1 rfl (Nat.le_of_ble_eq_true rfl) dL_law_2107 ⟨Nat.le_of_ble_eq_true rfl, Nat.le_of_ble_eq_true rfl⟩) (fun r1 u1 H locs hw h1 => ?_)
  refine lv_aload_n hx hb dL_law_2110 rfl (lv_at hl 2 rfl) ?_
  refine L_arg X hw.2.2 hl 1 (by omega) (by decide) dL_law_2111 dL_law_2112 dL_law_2113 dL_law_2114 dL_law_2115 ?_
  refine y_calli hw (y_runV (ci := 11) X.1 hw (m_X11_live l (y_xD KA_nd hw.2.1) KA_m h1) k_M (KA_m 272 (by decide) (by decide)) hq1 rfl (x_gV xw_1896 xw_1897 xw_1898 xw_5 xw_1899) rfl rfl qX11_live ⟨Nat.le_of_ble_eq_true rfl, Nat.le_of_ble_eq_true rfl⟩ rfl hl.1 rfl (Nat.le_of_ble_eq_true rfl) dL_law_2116 ⟨Nat.le_of_ble_eq_true rfl, Nat.le_of_ble_eq_true rfl⟩) (fun r2 u2 H locs hw h2 => ?_)
  exact lv_icmp_eq (tgt := 2206) hx hb dL_law_2119 (by decide) (fun _ => kk _ _ _ hw h2.2) (fun z => absurd h2.1 z)
set_option maxHeartbeats 4000000 in
set_option maxRecDepth 100000 in
theorem lw_67 (X : L_C p s m meth c g b L xs) (hw : y_W g (lwA s) [] ad KA u s.heap H locs) (I : INV u) (hq0 : ad 0 = q0) (hq1 : ad 272 = q1) (hl : lv_has ls 4 (lwL b q0 q1 i)) (hi : i + 6 ≤ L) (kk : ∀ (u' : xM) (H' : Heap) (locs' : List Loc), y_W g (lwA s) [] ad KA u' s.heap H' locs' → INV u' → W p l e room_1 s m #[Value.ref b] below meth c H' locs' 290 15295 Q (F0 m 2206 ls [])) : W p l e room_1 s m #[Value.ref b] below meth c H locs 290 15295 Q (F0 m 2124 ls []) := by
  have hx := X.1.1.1
  have hb := X.1.1.2.1
  have hown := X.1.1.2.2.2.1
  have hts := X.1.1.2.2.2.2.1
  refine lv_aload_n hx hb dL_law_2124 rfl (lv_at hl 1 rfl) ?_
  refine L_arg X hw.2.2 hl 1 (by omega) (by decide) dL_law_2125 dL_law_2126 dL_law_2127 dL_law_2128 dL_law_2129 ?_
  refine y_calli hw (y_runV (ci := 10) X.1 hw (m_X10_lived l (y_xD KA_nd hw.2.1) KA_x (K_lived I (xs (i + 1)))) k_X (KA_x 0 (by decide)) hq0 rfl (x_gV xw_1937 xw_1938 xw_1939 xw_2 xw_1940) rfl rfl qX10_lived ⟨Nat.le_of_ble_eq_true rfl, Nat.le_of_ble_eq_true rfl⟩ rfl hl.1 rfl (Nat.le_of_ble_eq_true rfl) dL_law_2130 ⟨Nat.le_of_ble_eq_true rfl, Nat.le_of_ble_eq_true rfl⟩) (fun r1 u1 H locs hw h1 => ?_)
  refine lv_aload_n hx hb dL_law_2133 rfl (lv_at hl 2 rfl) ?_
  refine L_arg X hw.2.2 hl 1 (by omega) (by decide) dL_law_2134 dL_law_2135 dL_law_2136 dL_law_2137 dL_law_2138 ?_
  refine y_calli hw (y_runV (ci := 11) X.1 hw (m_X11_lived l (y_xD KA_nd hw.2.1) KA_m h1) k_M (KA_m 272 (by decide) (by decide)) hq1 rfl (x_gV xw_1947 xw_1948 xw_1949 xw_5 xw_1950) rfl rfl qX11_lived ⟨Nat.le_of_ble_eq_true rfl, Nat.le_of_ble_eq_true rfl⟩ rfl hl.1 rfl (Nat.le_of_ble_eq_true rfl) dL_law_2139 ⟨Nat.le_of_ble_eq_true rfl, Nat.le_of_ble_eq_true rfl⟩) (fun r2 u2 H locs hw h2 => ?_)
  exact lv_icmp_eq (tgt := 2206) hx hb dL_law_2142 (by decide) (fun _ => kk _ _ _ hw h2.2) (fun z => absurd h2.1 z)
set_option maxHeartbeats 4000000 in
set_option maxRecDepth 100000 in
theorem lw_68 (X : L_C p s m meth c g b L xs) (hw : y_W g (lwA s) [] ad KA u s.heap H locs) (I : INV u) (hq0 : ad 0 = q0) (hq1 : ad 272 = q1) (hl : lv_has ls 4 (lwL b q0 q1 i)) (hi : i + 6 ≤ L) (kk : ∀ (u' : xM) (H' : Heap) (locs' : List Loc), y_W g (lwA s) [] ad KA u' s.heap H' locs' → INV u' → W p l e room_1 s m #[Value.ref b] below meth c H' locs' 290 15295 Q (F0 m 2206 ls [])) : W p l e room_1 s m #[Value.ref b] below meth c H locs 290 15295 Q (F0 m 2147 ls []) := by
  have hx := X.1.1.1
  have hb := X.1.1.2.1
  have hown := X.1.1.2.2.2.1
  have hts := X.1.1.2.2.2.2.1
  refine lv_aload_n hx hb dL_law_2147 rfl (lv_at hl 1 rfl) ?_
  refine L_arg X hw.2.2 hl 1 (by omega) (by decide) dL_law_2148 dL_law_2149 dL_law_2150 dL_law_2151 dL_law_2152 ?_
  refine L_arg X hw.2.2 hl 2 (by omega) (by decide) dL_law_2153 dL_law_2154 dL_law_2155 dL_law_2156 dL_law_2157 ?_
  refine y_callz hw (y_runV (ci := 10) X.1 hw (m_X10_mean l (y_xD KA_nd hw.2.1) KA_x (K_mean I (xs (i + 1)) (xs (i + 2)))) k_X (KA_x 0 (by decide)) hq0 rfl (x_gV xw_1951 xw_1952 xw_1953 xw_2 xw_1954) rfl rfl qX10_mean ⟨Nat.le_of_ble_eq_true rfl, Nat.le_of_ble_eq_true rfl⟩ rfl hl.1 rfl (Nat.le_of_ble_eq_true rfl) dL_law_2158 ⟨Nat.le_of_ble_eq_true rfl, Nat.le_of_ble_eq_true rfl⟩) (fun r1 u1 H locs hw h1 => ?_)
  refine lv_aload_n hx hb dL_law_2161 rfl (lv_at hl 2 rfl) ?_
  refine L_arg X hw.2.2 hl 1 (by omega) (by decide) dL_law_2162 dL_law_2163 dL_law_2164 dL_law_2165 dL_law_2166 ?_
  refine L_arg X hw.2.2 hl 2 (by omega) (by decide) dL_law_2167 dL_law_2168 dL_law_2169 dL_law_2170 dL_law_2171 ?_
  refine y_callz hw (y_runV (ci := 11) X.1 hw (m_X11_mean l (y_xD KA_nd hw.2.1) KA_m h1) k_M (KA_m 272 (by decide) (by decide)) hq1 rfl (x_gV xw_1955 xw_1956 xw_1957 xw_5 xw_1958) rfl rfl qX11_mean ⟨Nat.le_of_ble_eq_true rfl, Nat.le_of_ble_eq_true rfl⟩ rfl hl.1 rfl (Nat.le_of_ble_eq_true rfl) dL_law_2172 ⟨Nat.le_of_ble_eq_true rfl, Nat.le_of_ble_eq_true rfl⟩) (fun r2 u2 H locs hw h2 => ?_)
  exact lv_icmp_eq (tgt := 2206) hx hb dL_law_2175 (by decide) (fun _ => kk _ _ _ hw h2.2) (fun z => absurd (by rw [h2.1]) z)
set_option maxHeartbeats 4000000 in
set_option maxRecDepth 100000 in
theorem lw_69 (X : L_C p s m meth c g b L xs) (hw : y_W g (lwA s) [] ad KA u s.heap H locs) (I : INV u) (hq0 : ad 0 = q0) (hq1 : ad 272 = q1) (hl : lv_has ls 4 (lwL b q0 q1 i)) (hi : i + 6 ≤ L) (kk : ∀ (u' : xM) (H' : Heap) (locs' : List Loc), y_W g (lwA s) [] ad KA u' s.heap H' locs' → INV u' → W p l e room_1 s m #[Value.ref b] below meth c H' locs' 290 15295 Q (F0 m 2206 ls [])) : W p l e room_1 s m #[Value.ref b] below meth c H locs 290 15295 Q (F0 m 2180 ls []) := by
  have hx := X.1.1.1
  have hb := X.1.1.2.1
  have hown := X.1.1.2.2.2.1
  have hts := X.1.1.2.2.2.2.1
  refine lv_aload_n hx hb dL_law_2180 rfl (lv_at hl 1 rfl) ?_
  refine y_calli hw (y_runV (ci := 10) X.1 hw (m_X10_mark l (y_xD KA_nd hw.2.1) KA_x (K_mark I)) k_X (KA_x 0 (by decide)) hq0 rfl (x_gV xw_1960 xw_1961 xw_1962 xw_2 xw_1963) rfl rfl qX10_mark ⟨Nat.le_of_ble_eq_true rfl, Nat.le_of_ble_eq_true rfl⟩ rfl hl.1 rfl (Nat.le_of_ble_eq_true rfl) dL_law_2181 ⟨Nat.le_of_ble_eq_true rfl, Nat.le_of_ble_eq_true rfl⟩) (fun r1 u1 H locs hw h1 => ?_)
  refine lv_aload_n hx hb dL_law_2184 rfl (lv_at hl 2 rfl) ?_
  refine y_calli hw (y_runV (ci := 11) X.1 hw (m_X11_mark l (y_xD KA_nd hw.2.1) KA_m h1) k_M (KA_m 272 (by decide) (by decide)) hq1 rfl (x_gV xw_1965 xw_1966 xw_1967 xw_5 xw_1968) rfl rfl qX11_mark ⟨Nat.le_of_ble_eq_true rfl, Nat.le_of_ble_eq_true rfl⟩ rfl hl.1 rfl (Nat.le_of_ble_eq_true rfl) dL_law_2185 ⟨Nat.le_of_ble_eq_true rfl, Nat.le_of_ble_eq_true rfl⟩) (fun r2 u2 H locs hw h2 => ?_)
  exact lv_icmp_eq (tgt := 2206) hx hb dL_law_2188 (by decide) (fun _ => kk _ _ _ hw h2.2) (fun z => absurd h2.1 z)
set_option maxHeartbeats 4000000 in
set_option maxRecDepth 100000 in
theorem lw_70 (X : L_C p s m meth c g b L xs) (hw : y_W g (lwA s) [] ad KA u s.heap H locs) (I : INV u) (hq0 : ad 0 = q0) (hq1 : ad 272 = q1) (hl : lv_has ls 4 (lwL b q0 q1 i)) (hi : i + 6 ≤ L) (kk : ∀ (u' : xM) (H' : Heap) (locs' : List Loc), y_W g (lwA s) [] ad KA u' s.heap H' locs' → INV u' → W p l e room_1 s m #[Value.ref b] below meth c H' locs' 290 15295 Q (F0 m 2206 ls [])) : W p l e room_1 s m #[Value.ref b] below meth c H locs 290 15295 Q (F0 m 2193 ls []) := by
  have hx := X.1.1.1
  have hb := X.1.1.2.1
  have hown := X.1.1.2.2.2.1
  have hts := X.1.1.2.2.2.2.1
  refine lv_aload_n hx hb dL_law_2193 rfl (lv_at hl 1 rfl) ?_
  refine y_calli hw (y_runV (ci := 10) X.1 hw (m_X10_undo l (y_xD KA_nd hw.2.1) KA_x (K_undo I)) k_X (KA_x 0 (by decide)) hq0 rfl (x_gV xw_1974 xw_1975 xw_1976 xw_2 xw_1977) rfl rfl qX10_undo ⟨Nat.le_of_ble_eq_true rfl, Nat.le_of_ble_eq_true rfl⟩ rfl hl.1 rfl (Nat.le_of_ble_eq_true rfl) dL_law_2194 ⟨Nat.le_of_ble_eq_true rfl, Nat.le_of_ble_eq_true rfl⟩) (fun r1 u1 H locs hw h1 => ?_)
  refine lv_aload_n hx hb dL_law_2197 rfl (lv_at hl 2 rfl) ?_
  refine y_calli hw (y_runV (ci := 11) X.1 hw (m_X11_undo l (y_xD KA_nd hw.2.1) KA_m h1) k_M (KA_m 272 (by decide) (by decide)) hq1 rfl (x_gV xw_1978 xw_1979 xw_1980 xw_5 xw_1981) rfl rfl qX11_undo ⟨Nat.le_of_ble_eq_true rfl, Nat.le_of_ble_eq_true rfl⟩ rfl hl.1 rfl (Nat.le_of_ble_eq_true rfl) dL_law_2198 ⟨Nat.le_of_ble_eq_true rfl, Nat.le_of_ble_eq_true rfl⟩) (fun r2 u2 H locs hw h2 => ?_)
  exact lv_icmp_eq (tgt := 2206) hx hb dL_law_2201 (by decide) (fun _ => kk _ _ _ hw h2.2) (fun z => absurd h2.1 z)
set_option maxHeartbeats 4000000 in
set_option maxRecDepth 100000 in
theorem lw_all2 (X : L_C p s m meth c g b L xs) (hw : y_W g (lwA s) [] ad KA u s.heap H locs) (I : INV u) (hq0 : ad 0 = q0) (hq1 : ad 272 = q1) (hl : lv_has ls 4 (lwL b q0 q1 i)) (hi : i + 6 ≤ L) (kk : ∀ (u' : xM) (H' : Heap) (locs' : List Loc), y_W g (lwA s) [] ad KA u' s.heap H' locs' → INV u' → W p l e room_1 s m #[Value.ref b] below meth c H' locs' 290 15295 Q (F0 m 2206 ls [])) {n : Nat} (hn : n = 48 ∨ n = 49 ∨ n = 50 ∨ n = 51 ∨ n = 52 ∨ n = 53 ∨ n = 54 ∨ n = 55 ∨ n = 56 ∨ n = 57 ∨ n = 58 ∨ n = 59 ∨ n = 60 ∨ n = 61 ∨ n = 62 ∨ n = 63 ∨ n = 64 ∨ n = 65 ∨ n = 66 ∨ n = 67 ∨ n = 68 ∨ n = 69 ∨ n = 70) : W p l e room_1 s m #[Value.ref b] below meth c H locs 290 15295 Q (F0 m 33 ls [.int (nI n)]) := by
  have hx := X.1.1.1
  have hb := X.1.1.2.1
  rcases hn with rfl | rfl | rfl | rfl | rfl | rfl | rfl | rfl | rfl | rfl | rfl | rfl | rfl | rfl | rfl | rfl | rfl | rfl | rfl | rfl | rfl | rfl | rfl
  · exact lv_tableIn (off := 1654) (tgt := 1687) hx hb dL_law_33 (by decide +kernel) (by decide +kernel) (by decide +kernel) (by decide +kernel) (lw_48 X hw I hq0 hq1 hl hi kk)
  · exact lv_tableIn (off := 1677) (tgt := 1710) hx hb dL_law_33 (by decide +kernel) (by decide +kernel) (by decide +kernel) (by decide +kernel) (lw_49 X hw I hq0 hq1 hl hi kk)
  · exact lv_tableIn (off := 1690) (tgt := 1723) hx hb dL_law_33 (by decide +kernel) (by decide +kernel) (by decide +kernel) (by decide +kernel) (lw_50 X hw I hq0 hq1 hl hi kk)
  · exact lv_tableIn (off := 1713) (tgt := 1746) hx hb dL_law_33 (by decide +kernel) (by decide +kernel) (by decide +kernel) (by decide +kernel) (lw_51 X hw I hq0 hq1 hl hi kk)
  · exact lv_tableIn (off := 1746) (tgt := 1779) hx hb dL_law_33 (by decide +kernel) (by decide +kernel) (by decide +kernel) (by decide +kernel) (lw_52 X hw I hq0 hq1 hl hi kk)
  · exact lv_tableIn (off := 1769) (tgt := 1802) hx hb dL_law_33 (by decide +kernel) (by decide +kernel) (by decide +kernel) (by decide +kernel) (lw_53 X hw I hq0 hq1 hl hi kk)
  · exact lv_tableIn (off := 1782) (tgt := 1815) hx hb dL_law_33 (by decide +kernel) (by decide +kernel) (by decide +kernel) (by decide +kernel) (lw_54 X hw I hq0 hq1 hl hi kk)
  · exact lv_tableIn (off := 1805) (tgt := 1838) hx hb dL_law_33 (by decide +kernel) (by decide +kernel) (by decide +kernel) (by decide +kernel) (lw_55 X hw I hq0 hq1 hl hi kk)
  · exact lv_tableIn (off := 1828) (tgt := 1861) hx hb dL_law_33 (by decide +kernel) (by decide +kernel) (by decide +kernel) (by decide +kernel) (lw_56 X hw I hq0 hq1 hl hi kk)
  · exact lv_tableIn (off := 1851) (tgt := 1884) hx hb dL_law_33 (by decide +kernel) (by decide +kernel) (by decide +kernel) (by decide +kernel) (lw_57 X hw I hq0 hq1 hl hi kk)
  · exact lv_tableIn (off := 1874) (tgt := 1907) hx hb dL_law_33 (by decide +kernel) (by decide +kernel) (by decide +kernel) (by decide +kernel) (lw_58 X hw I hq0 hq1 hl hi kk)
  · exact lv_tableIn (off := 1897) (tgt := 1930) hx hb dL_law_33 (by decide +kernel) (by decide +kernel) (by decide +kernel) (by decide +kernel) (lw_59 X hw I hq0 hq1 hl hi kk)
  · exact lv_tableIn (off := 1920) (tgt := 1953) hx hb dL_law_33 (by decide +kernel) (by decide +kernel) (by decide +kernel) (by decide +kernel) (lw_60 X hw I hq0 hq1 hl hi kk)
  · exact lv_tableIn (off := 1943) (tgt := 1976) hx hb dL_law_33 (by decide +kernel) (by decide +kernel) (by decide +kernel) (by decide +kernel) (lw_61 X hw I hq0 hq1 hl hi kk)
  · exact lv_tableIn (off := 1976) (tgt := 2009) hx hb dL_law_33 (by decide +kernel) (by decide +kernel) (by decide +kernel) (by decide +kernel) (lw_62 X hw I hq0 hq1 hl hi kk)
  · exact lv_tableIn (off := 2009) (tgt := 2042) hx hb dL_law_33 (by decide +kernel) (by decide +kernel) (by decide +kernel) (by decide +kernel) (lw_63 X hw I hq0 hq1 hl hi kk)
  · exact lv_tableIn (off := 2032) (tgt := 2065) hx hb dL_law_33 (by decide +kernel) (by decide +kernel) (by decide +kernel) (by decide +kernel) (lw_64 X hw I hq0 hq1 hl hi kk)
  · exact lv_tableIn (off := 2045) (tgt := 2078) hx hb dL_law_33 (by decide +kernel) (by decide +kernel) (by decide +kernel) (by decide +kernel) (lw_65 X hw I hq0 hq1 hl hi kk)
  · exact lv_tableIn (off := 2068) (tgt := 2101) hx hb dL_law_33 (by decide +kernel) (by decide +kernel) (by decide +kernel) (by decide +kernel) (lw_66 X hw I hq0 hq1 hl hi kk)
  · exact lv_tableIn (off := 2091) (tgt := 2124) hx hb dL_law_33 (by decide +kernel) (by decide +kernel) (by decide +kernel) (by decide +kernel) (lw_67 X hw I hq0 hq1 hl hi kk)
  · exact lv_tableIn (off := 2114) (tgt := 2147) hx hb dL_law_33 (by decide +kernel) (by decide +kernel) (by decide +kernel) (by decide +kernel) (lw_68 X hw I hq0 hq1 hl hi kk)
  · exact lv_tableIn (off := 2147) (tgt := 2180) hx hb dL_law_33 (by decide +kernel) (by decide +kernel) (by decide +kernel) (by decide +kernel) (lw_69 X hw I hq0 hq1 hl hi kk)
  · exact lv_tableIn (off := 2160) (tgt := 2193) hx hb dL_law_33 (by decide +kernel) (by decide +kernel) (by decide +kernel) (by decide +kernel) (lw_70 X hw I hq0 hq1 hl hi kk)
end LAW2
