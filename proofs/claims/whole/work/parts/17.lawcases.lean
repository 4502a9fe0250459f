/-! the law, case by case -/
set_option maxHeartbeats 4000000 in
set_option maxRecDepth 100000 in
theorem law_begin {p : Program} {l : Launch} {e : Env} {s : State} {m : MethodId} {below : List Frame} {meth : Method} {c : Code} {D : va_G} {cA : ClassId} {b Ln qx qm qo : Nat} {xs : Nat → Int32} (C0 : lw_At p s m meth c b Ln xs) (F : LFix l D cA qx qm qo Ln s) (j : Nat) (hj : 5 * j + 5 ≤ Ln)
    (kk : ∀ (pp qq gg : Nat) (er : Int32) (f : Nat → Int64) (H : Heap) (locs : List Loc) (ls : Array Slot), LInv D cA b qx qm qo j s pp qq gg er f H locs ls → W p l e room_1 s m #[Value.ref b] below meth c H locs (3 + j + 1) (8 + 6 * j + 6) (lw_Z below #[Value.ref b] s) (F0 m 807 ls []))
    (pp qq gg : Nat) (er : Int32) (f : Nat → Int64) (H : Heap) (locs : List Loc) (ls : Array Slot) (I0 : LInv D cA b qx qm qo j s pp qq gg er f H locs ls) : W p l e room_1 s m #[Value.ref b] below meth c H locs (3 + j) (8 + 6 * j) (lw_Z below #[Value.ref b] s) (F0 m 96 ls []) := by
  obtain ⟨hx, hb, hr, hml, hown, hts, hX, hbl, hlocks, hgv⟩ := C0
  obtain ⟨hL, hLn, hT, hN, hK, ⟨nxm, nxo, nmo⟩, gx, gm, go⟩ := F
  obtain ⟨G, hPX, hPM, hPO, hS, hl⟩ := I0
  have hw : ∀ w ∈ wall, w.before #[Value.ref b] s = true := fun w h => hts w (List.mem_filter.mp h).1
  have hbA : ¬ (fun q : Nat => s.heap.size ≤ q) b := Nat.not_le.mpr hbl
  have hold : ∀ q : Nat, q < s.heap.size → H[q]? = s.heap[q]? := fun q hq => hS.2.1 q hq (Nat.not_le.mpr hq)
  obtain ⟨v1, hv1⟩ : ∃ v, v = xs (5 * j + 1) := ⟨_, rfl⟩
  obtain ⟨v2, hv2⟩ : ∃ v, v = xs (5 * j + 2) := ⟨_, rfl⟩
  obtain ⟨v3, hv3⟩ : ∃ v, v = xs (5 * j + 3) := ⟨_, rfl⟩
  obtain ⟨v4, hv4⟩ : ∃ v, v = xs (5 * j + 4) := ⟨_, rfl⟩
  have hp5 : 5 ≤ pp := by have := G.1; have := G.2.2.1.1; omega
  have hp := G.2.2.2.2.2.2
  have hq2 : 2 ≤ qq := G.2.2.1.1
  have hq : qq < 2 ^ 31 := by have := G.1; omega
  have hgp : gg < pp := G.2.2.2.2.1
  by_cases hok : okg v1.toInt v2.toInt
  · obtain ⟨p1, j1, e1, j3⟩ := ofnn (x := v1) (by have := hok.1; omega)
    obtain ⟨g1, _, _, i1, e2, _, _⟩ := mem_of (x := v2) (n := v1.toInt.toNat) hok.2.2.1
    rw [j3, e2] at hok
    have GN := grp_of_okg j1 i1 hok
    refine lv_aload_n hx hb d_L_law_96 rfl (lv_at hl 1 rfl) ?_
    refine lv_aload_n hx hb d_L_law_97 rfl (lv_at hl 0 rfl) ?_
    refine lv_iload hx hb d_L_law_98 (lv_at hl 4 rfl) ?_
    refine lv_iconst (v := nI (1)) hx hb d_L_law_100 (by decide) ?_
    refine lv_iadd hx hb d_L_law_101 ?_
    refine tI (nI (5 * j + 1)) (nI_add _ _) ?_
    refine va_sld hx hb hX hbl hbA hS (vp_in_nI (show 5 * j + 1 < Ln by omega) (by omega)) d_L_law_102 ?_
    refine tI (nI (p1)) (by rw [nI_clamp (show 5 * j + 1 < 2 ^ 31 by omega), ← hv1, e1]) ?_
    refine lv_aload_n hx hb d_L_law_103 rfl (lv_at hl 0 rfl) ?_
    refine lv_iload hx hb d_L_law_104 (lv_at hl 4 rfl) ?_
    refine lv_iconst (v := nI (2)) hx hb d_L_law_106 (by decide) ?_
    refine lv_iadd hx hb d_L_law_107 ?_
    refine tI (nI (5 * j + 2)) (nI_add _ _) ?_
    refine va_sld hx hb hX hbl hbA hS (vp_in_nI (show 5 * j + 2 < Ln by omega) (by omega)) d_L_law_108 ?_
    refine tI (nI (g1)) (by rw [nI_clamp (show 5 * j + 2 < 2 ^ 31 by omega), ← hv2, e2]) ?_
    refine zVW (b := qx) (As := [.int (nI (p1)), .int (nI (g1))]) (rest := []) ⟨hx, hb, hml, hown, hw⟩ (c_X_begin_ok l D qx (nI (pp)) (nI (qq)) (nI (gg)) p1 g1 j1 hok) OY_B (OY_at hPX hK) (va_recv hK hPX (ci := 0) (q0 := 0) rfl rfl) g_L_46 rfl rfl pd_X_begin ⟨Nat.le_of_ble_eq_true rfl, Nat.le_of_ble_eq_true rfl⟩ hl.1 rfl (Nat.le_of_ble_eq_true rfl) d_L_law_109 ⟨by show _ ≤ 1035; omega, by show _ ≤ 8248; omega⟩ hS gx (fun H1 locs hPX hz hk hS => ?_)
    have hPM := P1_kept hPM (hk qm (P1_lt hPM) (Ne.symm nxm))
    have hPO := P1_kept hPO (hk qo (P1_lt hPO) (Ne.symm nxo))
    generalize H1 = H at hPX hPM hPO hS ⊢
    have hold : ∀ q : Nat, q < s.heap.size → H[q]? = s.heap[q]? := fun q hq => hS.2.1 q hq (Nat.not_le.mpr hq)
    have hPX : va_P D classes (oX qx (nI (p1)) (nI ((p1 - 1) / 2)) (nI (g1))) H := hPX
    refine W.eq (g2 := F0 m 112 ls [.int (nI (1))]) rfl ?_
    refine lv_aload_n hx hb d_L_law_112 rfl (lv_at hl 2 rfl) ?_
    refine lv_aload_n hx hb d_L_law_113 rfl (lv_at hl 0 rfl) ?_
    refine lv_iload hx hb d_L_law_114 (lv_at hl 4 rfl) ?_
    refine lv_iconst (v := nI (1)) hx hb d_L_law_116 (by decide) ?_
    refine lv_iadd hx hb d_L_law_117 ?_
    refine tI (nI (5 * j + 1)) (nI_add _ _) ?_
    refine va_sld hx hb hX hbl hbA hS (vp_in_nI (show 5 * j + 1 < Ln by omega) (by omega)) d_L_law_118 ?_
    refine tI (nI (p1)) (by rw [nI_clamp (show 5 * j + 1 < 2 ^ 31 by omega), ← hv1, e1]) ?_
    refine lv_aload_n hx hb d_L_law_119 rfl (lv_at hl 0 rfl) ?_
    refine lv_iload hx hb d_L_law_120 (lv_at hl 4 rfl) ?_
    refine lv_iconst (v := nI (2)) hx hb d_L_law_122 (by decide) ?_
    refine lv_iadd hx hb d_L_law_123 ?_
    refine tI (nI (5 * j + 2)) (nI_add _ _) ?_
    refine va_sld hx hb hX hbl hbA hS (vp_in_nI (show 5 * j + 2 < Ln by omega) (by omega)) d_L_law_124 ?_
    refine tI (nI (g1)) (by rw [nI_clamp (show 5 * j + 2 < 2 ^ 31 by omega), ← hv2, e2]) ?_
    refine zVW (b := qm) (As := [.int (nI (p1)), .int (nI (g1))]) (rest := [.int (nI (1))]) ⟨hx, hb, hml, hown, hw⟩ (c_M_begin_ok l D qm er pp qq gg p1 g1 j1 i1 hok) OM_B (OM_at hPM hK) (va_recv hK hPM (ci := 1) (q0 := 0) rfl rfl) g_L_50 rfl rfl pd_M_begin ⟨Nat.le_of_ble_eq_true rfl, Nat.le_of_ble_eq_true rfl⟩ hl.1 rfl (Nat.le_of_ble_eq_true rfl) d_L_law_125 ⟨by show _ ≤ 1035; omega, by show _ ≤ 8248; omega⟩ hS gm (fun H1 locs hPM hz hk hS => ?_)
    have hPX := P1_kept hPX (hk qx (P1_lt hPX) nxm)
    have hPO := P1_kept hPO (hk qo (P1_lt hPO) (Ne.symm nmo))
    generalize H1 = H at hPX hPM hPO hS ⊢
    have hold : ∀ q : Nat, q < s.heap.size → H[q]? = s.heap[q]? := fun q hq => hS.2.1 q hq (Nat.not_le.mpr hq)
    have hPM : va_P D classes (oM qm (nI (0)) (lN (p1)) (lN ((p1 - 1) / 2)) (lN (g1))) H := hPM
    refine W.eq (g2 := F0 m 128 ls [.int (nI (1)), .int (nI (1))]) rfl ?_
    refine lv_icmp_eq (tgt := 807) hx hb d_L_law_128 (by decide) (fun _ => ?_) (fun z => absurd (rfl) z)
    refine W.widen (by omega) (by omega) (kk (p1) ((p1 - 1) / 2) (g1) (nI (0)) _ _ _ _ ⟨GN, hPX, hPM, hPO, hS, lv_sub hl [0, 1, 2, 3, 4] rfl⟩)
  · refine lv_aload_n hx hb d_L_law_96 rfl (lv_at hl 1 rfl) ?_
    refine lv_aload_n hx hb d_L_law_97 rfl (lv_at hl 0 rfl) ?_
    refine lv_iload hx hb d_L_law_98 (lv_at hl 4 rfl) ?_
    refine lv_iconst (v := nI (1)) hx hb d_L_law_100 (by decide) ?_
    refine lv_iadd hx hb d_L_law_101 ?_
    refine tI (nI (5 * j + 1)) (nI_add _ _) ?_
    refine va_sld hx hb hX hbl hbA hS (vp_in_nI (show 5 * j + 1 < Ln by omega) (by omega)) d_L_law_102 ?_
    refine tI (v1) (by rw [nI_clamp (show 5 * j + 1 < 2 ^ 31 by omega)]; exact hv1.symm) ?_
    refine lv_aload_n hx hb d_L_law_103 rfl (lv_at hl 0 rfl) ?_
    refine lv_iload hx hb d_L_law_104 (lv_at hl 4 rfl) ?_
    refine lv_iconst (v := nI (2)) hx hb d_L_law_106 (by decide) ?_
    refine lv_iadd hx hb d_L_law_107 ?_
    refine tI (nI (5 * j + 2)) (nI_add _ _) ?_
    refine va_sld hx hb hX hbl hbA hS (vp_in_nI (show 5 * j + 2 < Ln by omega) (by omega)) d_L_law_108 ?_
    refine tI (v2) (by rw [nI_clamp (show 5 * j + 2 < 2 ^ 31 by omega)]; exact hv2.symm) ?_
    refine zVW (b := qx) (As := [.int (v1), .int (v2)]) (rest := []) ⟨hx, hb, hml, hown, hw⟩ (c_X_begin_no l D qx (nI (pp)) (nI (qq)) (nI (gg)) v1 v2 hok) OY_B (OY_at hPX hK) (va_recv hK hPX (ci := 0) (q0 := 0) rfl rfl) g_L_46 rfl rfl pd_X_begin ⟨Nat.le_of_ble_eq_true rfl, Nat.le_of_ble_eq_true rfl⟩ hl.1 rfl (Nat.le_of_ble_eq_true rfl) d_L_law_109 ⟨by show _ ≤ 1035; omega, by show _ ≤ 8248; omega⟩ hS gx (fun H1 locs hPX hz hk hS => ?_)
    have hPM := P1_kept hPM (hk qm (P1_lt hPM) (Ne.symm nxm))
    have hPO := P1_kept hPO (hk qo (P1_lt hPO) (Ne.symm nxo))
    generalize H1 = H at hPX hPM hPO hS ⊢
    have hold : ∀ q : Nat, q < s.heap.size → H[q]? = s.heap[q]? := fun q hq => hS.2.1 q hq (Nat.not_le.mpr hq)
    have hPX : va_P D classes (oX qx (nI (pp)) (nI (qq)) (nI (gg))) H := hPX
    refine W.eq (g2 := F0 m 112 ls [.int (nI (0))]) rfl ?_
    refine lv_aload_n hx hb d_L_law_112 rfl (lv_at hl 2 rfl) ?_
    refine lv_aload_n hx hb d_L_law_113 rfl (lv_at hl 0 rfl) ?_
    refine lv_iload hx hb d_L_law_114 (lv_at hl 4 rfl) ?_
    refine lv_iconst (v := nI (1)) hx hb d_L_law_116 (by decide) ?_
    refine lv_iadd hx hb d_L_law_117 ?_
    refine tI (nI (5 * j + 1)) (nI_add _ _) ?_
    refine va_sld hx hb hX hbl hbA hS (vp_in_nI (show 5 * j + 1 < Ln by omega) (by omega)) d_L_law_118 ?_
    refine tI (v1) (by rw [nI_clamp (show 5 * j + 1 < 2 ^ 31 by omega)]; exact hv1.symm) ?_
    refine lv_aload_n hx hb d_L_law_119 rfl (lv_at hl 0 rfl) ?_
    refine lv_iload hx hb d_L_law_120 (lv_at hl 4 rfl) ?_
    refine lv_iconst (v := nI (2)) hx hb d_L_law_122 (by decide) ?_
    refine lv_iadd hx hb d_L_law_123 ?_
    refine tI (nI (5 * j + 2)) (nI_add _ _) ?_
    refine va_sld hx hb hX hbl hbA hS (vp_in_nI (show 5 * j + 2 < Ln by omega) (by omega)) d_L_law_124 ?_
    refine tI (v2) (by rw [nI_clamp (show 5 * j + 2 < 2 ^ 31 by omega)]; exact hv2.symm) ?_
    refine zVW (b := qm) (As := [.int (v1), .int (v2)]) (rest := [.int (nI (0))]) ⟨hx, hb, hml, hown, hw⟩ (c_M_begin_no l D qm er pp qq gg v1 v2 hok) OM_B (OM_at hPM hK) (va_recv hK hPM (ci := 1) (q0 := 0) rfl rfl) g_L_50 rfl rfl pd_M_begin ⟨Nat.le_of_ble_eq_true rfl, Nat.le_of_ble_eq_true rfl⟩ hl.1 rfl (Nat.le_of_ble_eq_true rfl) d_L_law_125 ⟨by show _ ≤ 1035; omega, by show _ ≤ 8248; omega⟩ hS gm (fun H1 locs hPM hz hk hS => ?_)
    have hPX := P1_kept hPX (hk qx (P1_lt hPX) nxm)
    have hPO := P1_kept hPO (hk qo (P1_lt hPO) (Ne.symm nmo))
    generalize H1 = H at hPX hPM hPO hS ⊢
    have hold : ∀ q : Nat, q < s.heap.size → H[q]? = s.heap[q]? := fun q hq => hS.2.1 q hq (Nat.not_le.mpr hq)
    have hPM : va_P D classes (oM qm (nI (0)) (lN (pp)) (lN (qq)) (lN (gg))) H := hPM
    refine W.eq (g2 := F0 m 128 ls [.int (nI (0)), .int (nI (0))]) rfl ?_
    refine lv_icmp_eq (tgt := 807) hx hb d_L_law_128 (by decide) (fun _ => ?_) (fun z => absurd (rfl) z)
    refine W.widen (by omega) (by omega) (kk (pp) (qq) (gg) (nI (0)) _ _ _ _ ⟨G, hPX, hPM, hPO, hS, lv_sub hl [0, 1, 2, 3, 4] rfl⟩)
set_option maxHeartbeats 4000000 in
set_option maxRecDepth 100000 in
theorem law_member {p : Program} {l : Launch} {e : Env} {s : State} {m : MethodId} {below : List Frame} {meth : Method} {c : Code} {D : va_G} {cA : ClassId} {b Ln qx qm qo : Nat} {xs : Nat → Int32} (C0 : lw_At p s m meth c b Ln xs) (F : LFix l D cA qx qm qo Ln s) (j : Nat) (hj : 5 * j + 5 ≤ Ln)
    (kk : ∀ (pp qq gg : Nat) (er : Int32) (f : Nat → Int64) (H : Heap) (locs : List Loc) (ls : Array Slot), LInv D cA b qx qm qo j s pp qq gg er f H locs ls → W p l e room_1 s m #[Value.ref b] below meth c H locs (3 + j + 1) (8 + 6 * j + 6) (lw_Z below #[Value.ref b] s) (F0 m 807 ls []))
    (pp qq gg : Nat) (er : Int32) (f : Nat → Int64) (H : Heap) (locs : List Loc) (ls : Array Slot) (I0 : LInv D cA b qx qm qo j s pp qq gg er f H locs ls) : W p l e room_1 s m #[Value.ref b] below meth c H locs (3 + j) (8 + 6 * j) (lw_Z below #[Value.ref b] s) (F0 m 133 ls []) := by
  obtain ⟨hx, hb, hr, hml, hown, hts, hX, hbl, hlocks, hgv⟩ := C0
  obtain ⟨hL, hLn, hT, hN, hK, ⟨nxm, nxo, nmo⟩, gx, gm, go⟩ := F
  obtain ⟨G, hPX, hPM, hPO, hS, hl⟩ := I0
  have hw : ∀ w ∈ wall, w.before #[Value.ref b] s = true := fun w h => hts w (List.mem_filter.mp h).1
  have hbA : ¬ (fun q : Nat => s.heap.size ≤ q) b := Nat.not_le.mpr hbl
  have hold : ∀ q : Nat, q < s.heap.size → H[q]? = s.heap[q]? := fun q hq => hS.2.1 q hq (Nat.not_le.mpr hq)
  obtain ⟨v1, hv1⟩ : ∃ v, v = xs (5 * j + 1) := ⟨_, rfl⟩
  obtain ⟨v2, hv2⟩ : ∃ v, v = xs (5 * j + 2) := ⟨_, rfl⟩
  obtain ⟨v3, hv3⟩ : ∃ v, v = xs (5 * j + 3) := ⟨_, rfl⟩
  obtain ⟨v4, hv4⟩ : ∃ v, v = xs (5 * j + 4) := ⟨_, rfl⟩
  have hp5 : 5 ≤ pp := by have := G.1; have := G.2.2.1.1; omega
  have hp := G.2.2.2.2.2.2
  have hq2 : 2 ≤ qq := G.2.2.1.1
  have hq : qq < 2 ^ 31 := by have := G.1; omega
  have hgp : gg < pp := G.2.2.2.2.1
  refine lv_aload_n hx hb d_L_law_133 rfl (lv_at hl 1 rfl) ?_
  refine lv_aload_n hx hb d_L_law_134 rfl (lv_at hl 0 rfl) ?_
  refine lv_iload hx hb d_L_law_135 (lv_at hl 4 rfl) ?_
  refine lv_iconst (v := nI (1)) hx hb d_L_law_137 (by decide) ?_
  refine lv_iadd hx hb d_L_law_138 ?_
  refine tI (nI (5 * j + 1)) (nI_add _ _) ?_
  refine va_sld hx hb hX hbl hbA hS (vp_in_nI (show 5 * j + 1 < Ln by omega) (by omega)) d_L_law_139 ?_
  refine tI (v1) (by rw [nI_clamp (show 5 * j + 1 < 2 ^ 31 by omega)]; exact hv1.symm) ?_
  refine zV (b := qx) (As := [.int (v1)]) (rest := []) ⟨hx, hb, hml, hown, hw⟩ (c_X_member l D qx pp qq gg G v1) OX_B (OX_at hPX hK hT hold) (va_recv hK hPX (ci := 0) (q0 := 0) rfl rfl) g_L_51 rfl rfl pd_X_member ⟨Nat.le_of_ble_eq_true rfl, Nat.le_of_ble_eq_true rfl⟩ hl.1 rfl (Nat.le_of_ble_eq_true rfl) d_L_law_140 ⟨by show _ ≤ 1035; omega, by show _ ≤ 8248; omega⟩ ?_
  refine W.eq (g2 := F0 m 143 ls [.int (bI (mem v1.toInt pp qq))]) rfl ?_
  refine lv_aload_n hx hb d_L_law_143 rfl (lv_at hl 2 rfl) ?_
  refine lv_aload_n hx hb d_L_law_144 rfl (lv_at hl 0 rfl) ?_
  refine lv_iload hx hb d_L_law_145 (lv_at hl 4 rfl) ?_
  refine lv_iconst (v := nI (1)) hx hb d_L_law_147 (by decide) ?_
  refine lv_iadd hx hb d_L_law_148 ?_
  refine tI (nI (5 * j + 1)) (nI_add _ _) ?_
  refine va_sld hx hb hX hbl hbA hS (vp_in_nI (show 5 * j + 1 < Ln by omega) (by omega)) d_L_law_149 ?_
  refine tI (v1) (by rw [nI_clamp (show 5 * j + 1 < 2 ^ 31 by omega)]; exact hv1.symm) ?_
  refine zVW (b := qm) (As := [.int (v1)]) (rest := [.int (bI (mem v1.toInt pp qq))]) ⟨hx, hb, hml, hown, hw⟩ (c_M_member l D qm er pp qq gg G v1) OM_B (OM_at hPM hK) (va_recv hK hPM (ci := 1) (q0 := 0) rfl rfl) g_L_55 rfl rfl pd_M_member ⟨Nat.le_of_ble_eq_true rfl, Nat.le_of_ble_eq_true rfl⟩ hl.1 rfl (Nat.le_of_ble_eq_true rfl) d_L_law_150 ⟨by show _ ≤ 1035; omega, by show _ ≤ 8248; omega⟩ hS gm (fun H1 locs hPM hz hk hS => ?_)
  have hPX := P1_kept hPX (hk qx (P1_lt hPX) nxm)
  have hPO := P1_kept hPO (hk qo (P1_lt hPO) (Ne.symm nmo))
  generalize H1 = H at hPX hPM hPO hS ⊢
  have hold : ∀ q : Nat, q < s.heap.size → H[q]? = s.heap[q]? := fun q hq => hS.2.1 q hq (Nat.not_le.mpr hq)
  have hPM : va_P D classes (oM qm (nI (0)) (lN (pp)) (lN (qq)) (lN (gg))) H := hPM
  refine W.eq (g2 := F0 m 153 ls [.int (bI (mem v1.toInt pp qq)), .int (bI (mem v1.toInt pp qq))]) rfl ?_
  refine lv_icmp_eq (tgt := 807) hx hb d_L_law_153 (by decide) (fun _ => ?_) (fun z => absurd (rfl) z)
  refine W.widen (by omega) (by omega) (kk (pp) (qq) (gg) (nI (0)) _ _ _ _ ⟨G, hPX, hPM, hPO, hS, lv_sub hl [0, 1, 2, 3, 4] rfl⟩)
set_option maxHeartbeats 4000000 in
set_option maxRecDepth 100000 in
theorem law_accepts {p : Program} {l : Launch} {e : Env} {s : State} {m : MethodId} {below : List Frame} {meth : Method} {c : Code} {D : va_G} {cA : ClassId} {b Ln qx qm qo : Nat} {xs : Nat → Int32} (C0 : lw_At p s m meth c b Ln xs) (F : LFix l D cA qx qm qo Ln s) (j : Nat) (hj : 5 * j + 5 ≤ Ln)
    (kk : ∀ (pp qq gg : Nat) (er : Int32) (f : Nat → Int64) (H : Heap) (locs : List Loc) (ls : Array Slot), LInv D cA b qx qm qo j s pp qq gg er f H locs ls → W p l e room_1 s m #[Value.ref b] below meth c H locs (3 + j + 1) (8 + 6 * j + 6) (lw_Z below #[Value.ref b] s) (F0 m 807 ls []))
    (pp qq gg : Nat) (er : Int32) (f : Nat → Int64) (H : Heap) (locs : List Loc) (ls : Array Slot) (I0 : LInv D cA b qx qm qo j s pp qq gg er f H locs ls) : W p l e room_1 s m #[Value.ref b] below meth c H locs (3 + j) (8 + 6 * j) (lw_Z below #[Value.ref b] s) (F0 m 438 ls []) := by
  obtain ⟨hx, hb, hr, hml, hown, hts, hX, hbl, hlocks, hgv⟩ := C0
  obtain ⟨hL, hLn, hT, hN, hK, ⟨nxm, nxo, nmo⟩, gx, gm, go⟩ := F
  obtain ⟨G, hPX, hPM, hPO, hS, hl⟩ := I0
  have hw : ∀ w ∈ wall, w.before #[Value.ref b] s = true := fun w h => hts w (List.mem_filter.mp h).1
  have hbA : ¬ (fun q : Nat => s.heap.size ≤ q) b := Nat.not_le.mpr hbl
  have hold : ∀ q : Nat, q < s.heap.size → H[q]? = s.heap[q]? := fun q hq => hS.2.1 q hq (Nat.not_le.mpr hq)
  obtain ⟨v1, hv1⟩ : ∃ v, v = xs (5 * j + 1) := ⟨_, rfl⟩
  obtain ⟨v2, hv2⟩ : ∃ v, v = xs (5 * j + 2) := ⟨_, rfl⟩
  obtain ⟨v3, hv3⟩ : ∃ v, v = xs (5 * j + 3) := ⟨_, rfl⟩
  obtain ⟨v4, hv4⟩ : ∃ v, v = xs (5 * j + 4) := ⟨_, rfl⟩
  have hp5 : 5 ≤ pp := by have := G.1; have := G.2.2.1.1; omega
  have hp := G.2.2.2.2.2.2
  have hq2 : 2 ≤ qq := G.2.2.1.1
  have hq : qq < 2 ^ 31 := by have := G.1; omega
  have hgp : gg < pp := G.2.2.2.2.1
  refine lv_aload_n hx hb d_L_law_438 rfl (lv_at hl 1 rfl) ?_
  refine lv_aload_n hx hb d_L_law_439 rfl (lv_at hl 0 rfl) ?_
  refine lv_iload hx hb d_L_law_440 (lv_at hl 4 rfl) ?_
  refine lv_iconst (v := nI (1)) hx hb d_L_law_442 (by decide) ?_
  refine lv_iadd hx hb d_L_law_443 ?_
  refine tI (nI (5 * j + 1)) (nI_add _ _) ?_
  refine va_sld hx hb hX hbl hbA hS (vp_in_nI (show 5 * j + 1 < Ln by omega) (by omega)) d_L_law_444 ?_
  refine tI (v1) (by rw [nI_clamp (show 5 * j + 1 < 2 ^ 31 by omega)]; exact hv1.symm) ?_
  refine lv_aload_n hx hb d_L_law_445 rfl (lv_at hl 0 rfl) ?_
  refine lv_iload hx hb d_L_law_446 (lv_at hl 4 rfl) ?_
  refine lv_iconst (v := nI (2)) hx hb d_L_law_448 (by decide) ?_
  refine lv_iadd hx hb d_L_law_449 ?_
  refine tI (nI (5 * j + 2)) (nI_add _ _) ?_
  refine va_sld hx hb hX hbl hbA hS (vp_in_nI (show 5 * j + 2 < Ln by omega) (by omega)) d_L_law_450 ?_
  refine tI (v2) (by rw [nI_clamp (show 5 * j + 2 < 2 ^ 31 by omega)]; exact hv2.symm) ?_
  refine lv_aload_n hx hb d_L_law_451 rfl (lv_at hl 0 rfl) ?_
  refine lv_iload hx hb d_L_law_452 (lv_at hl 4 rfl) ?_
  refine lv_iconst (v := nI (3)) hx hb d_L_law_454 (by decide) ?_
  refine lv_iadd hx hb d_L_law_455 ?_
  refine tI (nI (5 * j + 3)) (nI_add _ _) ?_
  refine va_sld hx hb hX hbl hbA hS (vp_in_nI (show 5 * j + 3 < Ln by omega) (by omega)) d_L_law_456 ?_
  refine tI (v3) (by rw [nI_clamp (show 5 * j + 3 < 2 ^ 31 by omega)]; exact hv3.symm) ?_
  refine lv_aload_n hx hb d_L_law_457 rfl (lv_at hl 0 rfl) ?_
  refine lv_iload hx hb d_L_law_458 (lv_at hl 4 rfl) ?_
  refine lv_iconst (v := nI (4)) hx hb d_L_law_460 (by decide) ?_
  refine lv_iadd hx hb d_L_law_461 ?_
  refine tI (nI (5 * j + 4)) (nI_add _ _) ?_
  refine va_sld hx hb hX hbl hbA hS (vp_in_nI (show 5 * j + 4 < Ln by omega) (by omega)) d_L_law_462 ?_
  refine tI (v4) (by rw [nI_clamp (show 5 * j + 4 < 2 ^ 31 by omega)]; exact hv4.symm) ?_
  refine zV (b := qx) (As := [.int (v1), .int (v2), .int (v3), .int (v4)]) (rest := []) ⟨hx, hb, hml, hown, hw⟩ (c_X_accepts l D qx pp qq gg G v1 v2 v3 v4) OX_B (OX_at hPX hK hT hold) (va_recv hK hPX (ci := 0) (q0 := 0) rfl rfl) g_L_79 rfl rfl pd_X_accepts ⟨Nat.le_of_ble_eq_true rfl, Nat.le_of_ble_eq_true rfl⟩ hl.1 rfl (Nat.le_of_ble_eq_true rfl) d_L_law_463 ⟨by show _ ≤ 1035; omega, by show _ ≤ 8248; omega⟩ ?_
  refine W.eq (g2 := F0 m 466 ls [.int (bI (okp pp qq gg v1.toInt v2.toInt v3.toInt v4.toInt))]) rfl ?_
  refine lv_aload_n hx hb d_L_law_466 rfl (lv_at hl 2 rfl) ?_
  refine lv_aload_n hx hb d_L_law_467 rfl (lv_at hl 0 rfl) ?_
  refine lv_iload hx hb d_L_law_468 (lv_at hl 4 rfl) ?_
  refine lv_iconst (v := nI (1)) hx hb d_L_law_470 (by decide) ?_
  refine lv_iadd hx hb d_L_law_471 ?_
  refine tI (nI (5 * j + 1)) (nI_add _ _) ?_
  refine va_sld hx hb hX hbl hbA hS (vp_in_nI (show 5 * j + 1 < Ln by omega) (by omega)) d_L_law_472 ?_
  refine tI (v1) (by rw [nI_clamp (show 5 * j + 1 < 2 ^ 31 by omega)]; exact hv1.symm) ?_
  refine lv_aload_n hx hb d_L_law_473 rfl (lv_at hl 0 rfl) ?_
  refine lv_iload hx hb d_L_law_474 (lv_at hl 4 rfl) ?_
  refine lv_iconst (v := nI (2)) hx hb d_L_law_476 (by decide) ?_
  refine lv_iadd hx hb d_L_law_477 ?_
  refine tI (nI (5 * j + 2)) (nI_add _ _) ?_
  refine va_sld hx hb hX hbl hbA hS (vp_in_nI (show 5 * j + 2 < Ln by omega) (by omega)) d_L_law_478 ?_
  refine tI (v2) (by rw [nI_clamp (show 5 * j + 2 < 2 ^ 31 by omega)]; exact hv2.symm) ?_
  refine lv_aload_n hx hb d_L_law_479 rfl (lv_at hl 0 rfl) ?_
  refine lv_iload hx hb d_L_law_480 (lv_at hl 4 rfl) ?_
  refine lv_iconst (v := nI (3)) hx hb d_L_law_482 (by decide) ?_
  refine lv_iadd hx hb d_L_law_483 ?_
  refine tI (nI (5 * j + 3)) (nI_add _ _) ?_
  refine va_sld hx hb hX hbl hbA hS (vp_in_nI (show 5 * j + 3 < Ln by omega) (by omega)) d_L_law_484 ?_
  refine tI (v3) (by rw [nI_clamp (show 5 * j + 3 < 2 ^ 31 by omega)]; exact hv3.symm) ?_
  refine lv_aload_n hx hb d_L_law_485 rfl (lv_at hl 0 rfl) ?_
  refine lv_iload hx hb d_L_law_486 (lv_at hl 4 rfl) ?_
  refine lv_iconst (v := nI (4)) hx hb d_L_law_488 (by decide) ?_
  refine lv_iadd hx hb d_L_law_489 ?_
  refine tI (nI (5 * j + 4)) (nI_add _ _) ?_
  refine va_sld hx hb hX hbl hbA hS (vp_in_nI (show 5 * j + 4 < Ln by omega) (by omega)) d_L_law_490 ?_
  refine tI (v4) (by rw [nI_clamp (show 5 * j + 4 < 2 ^ 31 by omega)]; exact hv4.symm) ?_
  refine zVW (b := qm) (As := [.int (v1), .int (v2), .int (v3), .int (v4)]) (rest := [.int (bI (okp pp qq gg v1.toInt v2.toInt v3.toInt v4.toInt))]) ⟨hx, hb, hml, hown, hw⟩ (c_M_accepts l D qm er pp qq gg G v1 v2 v3 v4) OM_B (OM_at hPM hK) (va_recv hK hPM (ci := 1) (q0 := 0) rfl rfl) g_L_83 rfl rfl pd_M_accepts ⟨Nat.le_of_ble_eq_true rfl, Nat.le_of_ble_eq_true rfl⟩ hl.1 rfl (Nat.le_of_ble_eq_true rfl) d_L_law_491 ⟨by show _ ≤ 1035; omega, by show _ ≤ 8248; omega⟩ hS gm (fun H1 locs hPM hz hk hS => ?_)
  have hPX := P1_kept hPX (hk qx (P1_lt hPX) nxm)
  have hPO := P1_kept hPO (hk qo (P1_lt hPO) (Ne.symm nmo))
  generalize H1 = H at hPX hPM hPO hS ⊢
  have hold : ∀ q : Nat, q < s.heap.size → H[q]? = s.heap[q]? := fun q hq => hS.2.1 q hq (Nat.not_le.mpr hq)
  have hPM : va_P D classes (oM qm (nI (0)) (lN (pp)) (lN (qq)) (lN (gg))) H := hPM
  refine W.eq (g2 := F0 m 494 ls [.int (bI (okp pp qq gg v1.toInt v2.toInt v3.toInt v4.toInt)), .int (bI (okp pp qq gg v1.toInt v2.toInt v3.toInt v4.toInt))]) rfl ?_
  refine lv_icmp_eq (tgt := 807) hx hb d_L_law_494 (by decide) (fun _ => ?_) (fun z => absurd (rfl) z)
  refine W.widen (by omega) (by omega) (kk (pp) (qq) (gg) (nI (0)) _ _ _ _ ⟨G, hPX, hPM, hPO, hS, lv_sub hl [0, 1, 2, 3, 4] rfl⟩)
set_option maxHeartbeats 4000000 in
set_option maxRecDepth 100000 in
theorem law_product {p : Program} {l : Launch} {e : Env} {s : State} {m : MethodId} {below : List Frame} {meth : Method} {c : Code} {D : va_G} {cA : ClassId} {b Ln qx qm qo : Nat} {xs : Nat → Int32} (C0 : lw_At p s m meth c b Ln xs) (F : LFix l D cA qx qm qo Ln s) (j : Nat) (hj : 5 * j + 5 ≤ Ln)
    (kk : ∀ (pp qq gg : Nat) (er : Int32) (f : Nat → Int64) (H : Heap) (locs : List Loc) (ls : Array Slot), LInv D cA b qx qm qo j s pp qq gg er f H locs ls → W p l e room_1 s m #[Value.ref b] below meth c H locs (3 + j + 1) (8 + 6 * j + 6) (lw_Z below #[Value.ref b] s) (F0 m 807 ls []))
    (pp qq gg : Nat) (er : Int32) (f : Nat → Int64) (H : Heap) (locs : List Loc) (ls : Array Slot) (I0 : LInv D cA b qx qm qo j s pp qq gg er f H locs ls) : W p l e room_1 s m #[Value.ref b] below meth c H locs (3 + j) (8 + 6 * j) (lw_Z below #[Value.ref b] s) (F0 m 158 ls []) := by
  obtain ⟨hx, hb, hr, hml, hown, hts, hX, hbl, hlocks, hgv⟩ := C0
  obtain ⟨hL, hLn, hT, hN, hK, ⟨nxm, nxo, nmo⟩, gx, gm, go⟩ := F
  obtain ⟨G, hPX, hPM, hPO, hS, hl⟩ := I0
  have hw : ∀ w ∈ wall, w.before #[Value.ref b] s = true := fun w h => hts w (List.mem_filter.mp h).1
  have hbA : ¬ (fun q : Nat => s.heap.size ≤ q) b := Nat.not_le.mpr hbl
  have hold : ∀ q : Nat, q < s.heap.size → H[q]? = s.heap[q]? := fun q hq => hS.2.1 q hq (Nat.not_le.mpr hq)
  obtain ⟨v1, hv1⟩ : ∃ v, v = xs (5 * j + 1) := ⟨_, rfl⟩
  obtain ⟨v2, hv2⟩ : ∃ v, v = xs (5 * j + 2) := ⟨_, rfl⟩
  obtain ⟨v3, hv3⟩ : ∃ v, v = xs (5 * j + 3) := ⟨_, rfl⟩
  obtain ⟨v4, hv4⟩ : ∃ v, v = xs (5 * j + 4) := ⟨_, rfl⟩
  have hp5 : 5 ≤ pp := by have := G.1; have := G.2.2.1.1; omega
  have hp := G.2.2.2.2.2.2
  have hq2 : 2 ≤ qq := G.2.2.1.1
  have hq : qq < 2 ^ 31 := by have := G.1; omega
  have hgp : gg < pp := G.2.2.2.2.1
  by_cases hok : res v1.toInt pp ∧ res v2.toInt pp
  · obtain ⟨aa, aa1, aa2, e1, aa3⟩ := res_of (hok.1)
    obtain ⟨bb, bb1, bb2, e2, bb3⟩ := res_of (hok.2)
    have hval : aa * bb % pp < 2 ^ 31 := Nat.lt_trans (Nat.mod_lt _ (by omega)) hp
    refine lv_aload_n hx hb d_L_law_158 rfl (lv_at hl 1 rfl) ?_
    refine lv_aload_n hx hb d_L_law_159 rfl (lv_at hl 0 rfl) ?_
    refine lv_iload hx hb d_L_law_160 (lv_at hl 4 rfl) ?_
    refine lv_iconst (v := nI (1)) hx hb d_L_law_162 (by decide) ?_
    refine lv_iadd hx hb d_L_law_163 ?_
    refine tI (nI (5 * j + 1)) (nI_add _ _) ?_
    refine va_sld hx hb hX hbl hbA hS (vp_in_nI (show 5 * j + 1 < Ln by omega) (by omega)) d_L_law_164 ?_
    refine tI (nI (aa)) (by rw [nI_clamp (show 5 * j + 1 < 2 ^ 31 by omega), ← hv1, e1]) ?_
    refine lv_aload_n hx hb d_L_law_165 rfl (lv_at hl 0 rfl) ?_
    refine lv_iload hx hb d_L_law_166 (lv_at hl 4 rfl) ?_
    refine lv_iconst (v := nI (2)) hx hb d_L_law_168 (by decide) ?_
    refine lv_iadd hx hb d_L_law_169 ?_
    refine tI (nI (5 * j + 2)) (nI_add _ _) ?_
    refine va_sld hx hb hX hbl hbA hS (vp_in_nI (show 5 * j + 2 < Ln by omega) (by omega)) d_L_law_170 ?_
    refine tI (nI (bb)) (by rw [nI_clamp (show 5 * j + 2 < 2 ^ 31 by omega), ← hv2, e2]) ?_
    refine lv_aload_n hx hb d_L_law_171 rfl (lv_at hl 3 rfl) ?_
    refine zSWo (As := [.ref (qx), .int (nI (aa)), .int (nI (bb)), .ref (qo)]) (rest := []) ⟨hx, hb, hml, hown, hw⟩ (c_L_product_ok l D qx pp qq gg qo cA f G aa bb aa1 bb1) OL_B (OL_at hPX hPO hK hT hN hold) g_L_56 rfl rfl pd_L_product ⟨Nat.le_of_ble_eq_true rfl, Nat.le_of_ble_eq_true rfl⟩ hl.1 rfl (Nat.le_of_ble_eq_true rfl) d_L_law_172 ⟨by show _ ≤ 1035; omega, by show _ ≤ 8248; omega⟩ hS go (fun H1 locs hPO hz hk hS => ?_)
    have hPX := P1_kept hPX (hk qx (P1_lt hPX) nxo)
    have hPM := P1_kept hPM (hk qm (P1_lt hPM) nmo)
    generalize H1 = H at hPX hPM hPO hS ⊢
    have hold : ∀ q : Nat, q < s.heap.size → H[q]? = s.heap[q]? := fun q hq => hS.2.1 q hq (Nat.not_le.mpr hq)
    have hPO : va_P D classes (oA qo cA (vp_updL f (nI (0)).toNatClampNeg (lN (aa * bb % pp)))) H := hPO
    refine W.eq (g2 := F0 m 175 ls [.int (nI (0))]) rfl ?_
    refine lv_istore (lv' := [(5, .int (nI (0))), (0, .ref (b)), (1, .ref (qx)), (2, .ref (qm)), (3, .ref (qo)), (4, .int (nI (5 * j)))]) hx hb d_L_law_175 hl (by decide) rfl (fun ls hl => ?_)
    refine lv_aload_n hx hb d_L_law_177 rfl (lv_at hl 3 rfl) ?_
    refine lv_aload_n hx hb d_L_law_178 rfl (lv_at hl 1 rfl) ?_
    refine lv_iload hx hb d_L_law_179 (lv_at hl 5 rfl) ?_
    refine lv_iconst (v := nI (1)) hx hb d_L_law_181 (by decide) ?_
    refine lv_iadd hx hb d_L_law_182 ?_
    refine tI (nI (5 * j + 1)) (nI_add _ _) ?_
    refine va_sld hx hb hX hbl hbA hS (vp_in_nI (show 5 * j + 1 < Ln by omega) (by omega)) d_L_law_183 ?_
    refine tI (nI (aa)) (by rw [nI_clamp (show 5 * j + 1 < 2 ^ 31 by omega), ← hv1, e1]) ?_
    refine lv_aload_n hx hb d_L_law_184 rfl (lv_at hl 1 rfl) ?_
    refine lv_iload hx hb d_L_law_185 (lv_at hl 5 rfl) ?_
    refine lv_iconst (v := nI (2)) hx hb d_L_law_187 (by decide) ?_
    refine lv_iadd hx hb d_L_law_188 ?_
    refine tI (nI (5 * j + 2)) (nI_add _ _) ?_
    refine va_sld hx hb hX hbl hbA hS (vp_in_nI (show 5 * j + 2 < Ln by omega) (by omega)) d_L_law_189 ?_
    refine tI (nI (bb)) (by rw [nI_clamp (show 5 * j + 2 < 2 ^ 31 by omega), ← hv2, e2]) ?_
    refine zVW (b := qm) (As := [.int (nI (aa)), .int (nI (bb))]) (rest := []) ⟨hx, hb, hml, hown, hw⟩ (c_M_product_ok l D qm er pp qq gg G aa bb aa1 bb1) OM_B (OM_at hPM hK) (va_recv hK hPM (ci := 1) (q0 := 0) rfl rfl) g_L_61 rfl rfl pd_M_product ⟨Nat.le_of_ble_eq_true rfl, Nat.le_of_ble_eq_true rfl⟩ hl.1 rfl (Nat.le_of_ble_eq_true rfl) d_L_law_190 ⟨by show _ ≤ 1035; omega, by show _ ≤ 8248; omega⟩ hS gm (fun H1 locs hPM hz hk hS => ?_)
    have hPX := P1_kept hPX (hk qx (P1_lt hPX) nxm)
    have hPO := P1_kept hPO (hk qo (P1_lt hPO) (Ne.symm nmo))
    generalize H1 = H at hPX hPM hPO hS ⊢
    have hold : ∀ q : Nat, q < s.heap.size → H[q]? = s.heap[q]? := fun q hq => hS.2.1 q hq (Nat.not_le.mpr hq)
    have hPM : va_P D classes (oM qm (nI (0)) (lN (pp)) (lN (qq)) (lN (gg))) H := hPM
    refine W.eq (g2 := F0 m 193 ls [.int (nI (aa * bb % pp))]) rfl ?_
    refine lv_istore (lv' := [(6, .int (nI (aa * bb % pp))), (5, .int (nI (0))), (0, .ref (b)), (1, .ref (qx)), (2, .ref (qm)), (3, .ref (qo)), (4, .int (nI (5 * j)))]) hx hb d_L_law_193 hl (by decide) rfl (fun ls hl => ?_)
    refine lv_aload_n hx hb d_L_law_195 rfl (lv_at hl 4 rfl) ?_
    refine zV (b := qm) (As := []) (rest := []) ⟨hx, hb, hml, hown, hw⟩ (c_M_thrown l D qm (nI (0)) pp qq gg) OM_B (OM_at hPM hK) (va_recv hK hPM (ci := 1) (q0 := 0) rfl rfl) g_L_62 rfl rfl pd_M_thrown ⟨Nat.le_of_ble_eq_true rfl, Nat.le_of_ble_eq_true rfl⟩ hl.1 rfl (Nat.le_of_ble_eq_true rfl) d_L_law_196 ⟨by show _ ≤ 1035; omega, by show _ ≤ 8248; omega⟩ ?_
    refine W.eq (g2 := F0 m 199 ls [.int (nI (0))]) rfl ?_
    refine lv_iload hx hb d_L_law_199 (lv_at hl 1 rfl) ?_
    refine lv_icmp_eq (tgt := 206) hx hb d_L_law_201 (by decide) (fun _ => ?_) (fun z => absurd (rfl) z)
    refine lv_iload hx hb d_L_law_206 (lv_at hl 1 rfl) ?_
    refine lv_if_ne (tgt := 223) hx hb d_L_law_208 (by decide) (fun z => absurd (rfl) z) (fun _ => ?_)
    refine lv_aload_n hx hb d_L_law_211 rfl (lv_at hl 5 rfl) ?_
    refine lv_iconst (v := nI (0)) hx hb d_L_law_212 (by decide) ?_
    refine va_lald (f := vp_updL f (nI (0)).toNatClampNeg (lN (aa * bb % pp))) hx hb hK hPO 0 0 rfl rfl (i := nI (0)) (vp_in_nI (by decide) (by decide)) d_L_law_213 ?_
    refine tL (lN (aa * bb % pp)) (pk_uLs) ?_
    refine lv_iload hx hb d_L_law_214 (lv_at hl 0 rfl) ?_
    refine lv_i2l (v := lN (aa * bb % pp)) hx hb d_L_law_216 (nI_l (hval)) ?_
    refine W.lcmp hx hb d_L_law_217 ?_
    refine lv_if_eq (tgt := 223) hx hb d_L_law_218 (by decide) (fun _ => ?_) (fun z => absurd ((lg_cmp_eq _ _).mpr (rfl)) z)
    refine lv_goto (tgt := 807) hx hb d_L_law_223 (by decide) ?_
    refine W.widen (by omega) (by omega) (kk (pp) (qq) (gg) (nI (0)) _ _ _ _ ⟨G, hPX, hPM, hPO, hS, lv_sub hl [2, 3, 4, 5, 6] rfl⟩)
  · refine lv_aload_n hx hb d_L_law_158 rfl (lv_at hl 1 rfl) ?_
    refine lv_aload_n hx hb d_L_law_159 rfl (lv_at hl 0 rfl) ?_
    refine lv_iload hx hb d_L_law_160 (lv_at hl 4 rfl) ?_
    refine lv_iconst (v := nI (1)) hx hb d_L_law_162 (by decide) ?_
    refine lv_iadd hx hb d_L_law_163 ?_
    refine tI (nI (5 * j + 1)) (nI_add _ _) ?_
    refine va_sld hx hb hX hbl hbA hS (vp_in_nI (show 5 * j + 1 < Ln by omega) (by omega)) d_L_law_164 ?_
    refine tI (v1) (by rw [nI_clamp (show 5 * j + 1 < 2 ^ 31 by omega)]; exact hv1.symm) ?_
    refine lv_aload_n hx hb d_L_law_165 rfl (lv_at hl 0 rfl) ?_
    refine lv_iload hx hb d_L_law_166 (lv_at hl 4 rfl) ?_
    refine lv_iconst (v := nI (2)) hx hb d_L_law_168 (by decide) ?_
    refine lv_iadd hx hb d_L_law_169 ?_
    refine tI (nI (5 * j + 2)) (nI_add _ _) ?_
    refine va_sld hx hb hX hbl hbA hS (vp_in_nI (show 5 * j + 2 < Ln by omega) (by omega)) d_L_law_170 ?_
    refine tI (v2) (by rw [nI_clamp (show 5 * j + 2 < 2 ^ 31 by omega)]; exact hv2.symm) ?_
    refine lv_aload_n hx hb d_L_law_171 rfl (lv_at hl 3 rfl) ?_
    refine zSWn (As := [.ref (qx), .int (v1), .int (v2), .ref (qo)]) (rest := []) ⟨hx, hb, hml, hown, hw⟩ (c_L_product_bad l hL D qx pp qq gg qo cA f G v1 v2 hok) OL_B (OL_at hPX hPO hK hT hN hold) g_L_56 rfl rfl pd_L_product ⟨Nat.le_of_ble_eq_true rfl, Nat.le_of_ble_eq_true rfl⟩ hl.1 rfl (Nat.le_of_ble_eq_true rfl) d_L_law_172 ⟨by show _ ≤ 1035; omega, by show _ ≤ 8248; omega⟩ hS (fun H1 hz hk hS => ?_)
    have hPX := P1_kept hPX (hk qx (P1_lt hPX))
    have hPM := P1_kept hPM (hk qm (P1_lt hPM))
    have hPO := P1_kept hPO (hk qo (P1_lt hPO))
    generalize H1 = H at hPX hPM hPO hS ⊢
    have hold : ∀ q : Nat, q < s.heap.size → H[q]? = s.heap[q]? := fun q hq => hS.2.1 q hq (Nat.not_le.mpr hq)
    refine W.eq (g2 := F0 m 175 ls [.int (nI (1))]) rfl ?_
    refine lv_istore (lv' := [(5, .int (nI (1))), (0, .ref (b)), (1, .ref (qx)), (2, .ref (qm)), (3, .ref (qo)), (4, .int (nI (5 * j)))]) hx hb d_L_law_175 hl (by decide) rfl (fun ls hl => ?_)
    refine lv_aload_n hx hb d_L_law_177 rfl (lv_at hl 3 rfl) ?_
    refine lv_aload_n hx hb d_L_law_178 rfl (lv_at hl 1 rfl) ?_
    refine lv_iload hx hb d_L_law_179 (lv_at hl 5 rfl) ?_
    refine lv_iconst (v := nI (1)) hx hb d_L_law_181 (by decide) ?_
    refine lv_iadd hx hb d_L_law_182 ?_
    refine tI (nI (5 * j + 1)) (nI_add _ _) ?_
    refine va_sld hx hb hX hbl hbA hS (vp_in_nI (show 5 * j + 1 < Ln by omega) (by omega)) d_L_law_183 ?_
    refine tI (v1) (by rw [nI_clamp (show 5 * j + 1 < 2 ^ 31 by omega)]; exact hv1.symm) ?_
    refine lv_aload_n hx hb d_L_law_184 rfl (lv_at hl 1 rfl) ?_
    refine lv_iload hx hb d_L_law_185 (lv_at hl 5 rfl) ?_
    refine lv_iconst (v := nI (2)) hx hb d_L_law_187 (by decide) ?_
    refine lv_iadd hx hb d_L_law_188 ?_
    refine tI (nI (5 * j + 2)) (nI_add _ _) ?_
    refine va_sld hx hb hX hbl hbA hS (vp_in_nI (show 5 * j + 2 < Ln by omega) (by omega)) d_L_law_189 ?_
    refine tI (v2) (by rw [nI_clamp (show 5 * j + 2 < 2 ^ 31 by omega)]; exact hv2.symm) ?_
    refine zVW (b := qm) (As := [.int (v1), .int (v2)]) (rest := []) ⟨hx, hb, hml, hown, hw⟩ (c_M_product_bad l D qm er pp qq gg G v1 v2 hok) OM_B (OM_at hPM hK) (va_recv hK hPM (ci := 1) (q0 := 0) rfl rfl) g_L_61 rfl rfl pd_M_product ⟨Nat.le_of_ble_eq_true rfl, Nat.le_of_ble_eq_true rfl⟩ hl.1 rfl (Nat.le_of_ble_eq_true rfl) d_L_law_190 ⟨by show _ ≤ 1035; omega, by show _ ≤ 8248; omega⟩ hS gm (fun H1 locs hPM hz hk hS => ?_)
    have hPX := P1_kept hPX (hk qx (P1_lt hPX) nxm)
    have hPO := P1_kept hPO (hk qo (P1_lt hPO) (Ne.symm nmo))
    generalize H1 = H at hPX hPM hPO hS ⊢
    have hold : ∀ q : Nat, q < s.heap.size → H[q]? = s.heap[q]? := fun q hq => hS.2.1 q hq (Nat.not_le.mpr hq)
    have hPM : va_P D classes (oM qm (nI (1)) (lN (pp)) (lN (qq)) (lN (gg))) H := hPM
    refine W.eq (g2 := F0 m 193 ls [.int (nI (0))]) rfl ?_
    refine lv_istore (lv' := [(6, .int (nI (0))), (5, .int (nI (1))), (0, .ref (b)), (1, .ref (qx)), (2, .ref (qm)), (3, .ref (qo)), (4, .int (nI (5 * j)))]) hx hb d_L_law_193 hl (by decide) rfl (fun ls hl => ?_)
    refine lv_aload_n hx hb d_L_law_195 rfl (lv_at hl 4 rfl) ?_
    refine zV (b := qm) (As := []) (rest := []) ⟨hx, hb, hml, hown, hw⟩ (c_M_thrown l D qm (nI (1)) pp qq gg) OM_B (OM_at hPM hK) (va_recv hK hPM (ci := 1) (q0 := 0) rfl rfl) g_L_62 rfl rfl pd_M_thrown ⟨Nat.le_of_ble_eq_true rfl, Nat.le_of_ble_eq_true rfl⟩ hl.1 rfl (Nat.le_of_ble_eq_true rfl) d_L_law_196 ⟨by show _ ≤ 1035; omega, by show _ ≤ 8248; omega⟩ ?_
    refine W.eq (g2 := F0 m 199 ls [.int (nI (1))]) rfl ?_
    refine lv_iload hx hb d_L_law_199 (lv_at hl 1 rfl) ?_
    refine lv_icmp_eq (tgt := 206) hx hb d_L_law_201 (by decide) (fun _ => ?_) (fun z => absurd (rfl) z)
    refine lv_iload hx hb d_L_law_206 (lv_at hl 1 rfl) ?_
    refine lv_if_ne (tgt := 223) hx hb d_L_law_208 (by decide) (fun _ => ?_) (fun z => absurd z (by decide))
    refine lv_goto (tgt := 807) hx hb d_L_law_223 (by decide) ?_
    refine W.widen (by omega) (by omega) (kk (pp) (qq) (gg) (nI (1)) _ _ _ _ ⟨G, hPX, hPM, hPO, hS, lv_sub hl [2, 3, 4, 5, 6] rfl⟩)
set_option maxHeartbeats 4000000 in
set_option maxRecDepth 100000 in
theorem law_inverse {p : Program} {l : Launch} {e : Env} {s : State} {m : MethodId} {below : List Frame} {meth : Method} {c : Code} {D : va_G} {cA : ClassId} {b Ln qx qm qo : Nat} {xs : Nat → Int32} (C0 : lw_At p s m meth c b Ln xs) (F : LFix l D cA qx qm qo Ln s) (j : Nat) (hj : 5 * j + 5 ≤ Ln)
    (kk : ∀ (pp qq gg : Nat) (er : Int32) (f : Nat → Int64) (H : Heap) (locs : List Loc) (ls : Array Slot), LInv D cA b qx qm qo j s pp qq gg er f H locs ls → W p l e room_1 s m #[Value.ref b] below meth c H locs (3 + j + 1) (8 + 6 * j + 6) (lw_Z below #[Value.ref b] s) (F0 m 807 ls []))
    (pp qq gg : Nat) (er : Int32) (f : Nat → Int64) (H : Heap) (locs : List Loc) (ls : Array Slot) (I0 : LInv D cA b qx qm qo j s pp qq gg er f H locs ls) : W p l e room_1 s m #[Value.ref b] below meth c H locs (3 + j) (8 + 6 * j) (lw_Z below #[Value.ref b] s) (F0 m 326 ls []) := by
  obtain ⟨hx, hb, hr, hml, hown, hts, hX, hbl, hlocks, hgv⟩ := C0
  obtain ⟨hL, hLn, hT, hN, hK, ⟨nxm, nxo, nmo⟩, gx, gm, go⟩ := F
  obtain ⟨G, hPX, hPM, hPO, hS, hl⟩ := I0
  have hw : ∀ w ∈ wall, w.before #[Value.ref b] s = true := fun w h => hts w (List.mem_filter.mp h).1
  have hbA : ¬ (fun q : Nat => s.heap.size ≤ q) b := Nat.not_le.mpr hbl
  have hold : ∀ q : Nat, q < s.heap.size → H[q]? = s.heap[q]? := fun q hq => hS.2.1 q hq (Nat.not_le.mpr hq)
  obtain ⟨v1, hv1⟩ : ∃ v, v = xs (5 * j + 1) := ⟨_, rfl⟩
  obtain ⟨v2, hv2⟩ : ∃ v, v = xs (5 * j + 2) := ⟨_, rfl⟩
  obtain ⟨v3, hv3⟩ : ∃ v, v = xs (5 * j + 3) := ⟨_, rfl⟩
  obtain ⟨v4, hv4⟩ : ∃ v, v = xs (5 * j + 4) := ⟨_, rfl⟩
  have hp5 : 5 ≤ pp := by have := G.1; have := G.2.2.1.1; omega
  have hp := G.2.2.2.2.2.2
  have hq2 : 2 ≤ qq := G.2.2.1.1
  have hq : qq < 2 ^ 31 := by have := G.1; omega
  have hgp : gg < pp := G.2.2.2.2.1
  by_cases hok : 1 ≤ v1.toInt ∧ v1.toInt < pp
  · obtain ⟨aa, aa2, e1, aa3⟩ := ofnn (x := v1) (by omega)
    have aa0 : 1 ≤ aa := by omega
    have aa1 : aa < pp := by omega
    have hval : aa ^ (pp - 2) % pp < 2 ^ 31 := Nat.lt_trans (Nat.mod_lt _ (by omega)) hp
    refine lv_aload_n hx hb d_L_law_326 rfl (lv_at hl 1 rfl) ?_
    refine lv_aload_n hx hb d_L_law_327 rfl (lv_at hl 0 rfl) ?_
    refine lv_iload hx hb d_L_law_328 (lv_at hl 4 rfl) ?_
    refine lv_iconst (v := nI (1)) hx hb d_L_law_330 (by decide) ?_
    refine lv_iadd hx hb d_L_law_331 ?_
    refine tI (nI (5 * j + 1)) (nI_add _ _) ?_
    refine va_sld hx hb hX hbl hbA hS (vp_in_nI (show 5 * j + 1 < Ln by omega) (by omega)) d_L_law_332 ?_
    refine tI (nI (aa)) (by rw [nI_clamp (show 5 * j + 1 < 2 ^ 31 by omega), ← hv1, e1]) ?_
    refine lv_aload_n hx hb d_L_law_333 rfl (lv_at hl 3 rfl) ?_
    refine zSWo (As := [.ref (qx), .int (nI (aa)), .ref (qo)]) (rest := []) ⟨hx, hb, hml, hown, hw⟩ (c_L_inverse_ok l D qx pp qq gg qo cA f G aa aa0 aa1) OL_B (OL_at hPX hPO hK hT hN hold) g_L_72 rfl rfl pd_L_inverse ⟨Nat.le_of_ble_eq_true rfl, Nat.le_of_ble_eq_true rfl⟩ hl.1 rfl (Nat.le_of_ble_eq_true rfl) d_L_law_334 ⟨by show _ ≤ 1035; omega, by show _ ≤ 8248; omega⟩ hS go (fun H1 locs hPO hz hk hS => ?_)
    have hPX := P1_kept hPX (hk qx (P1_lt hPX) nxo)
    have hPM := P1_kept hPM (hk qm (P1_lt hPM) nmo)
    generalize H1 = H at hPX hPM hPO hS ⊢
    have hold : ∀ q : Nat, q < s.heap.size → H[q]? = s.heap[q]? := fun q hq => hS.2.1 q hq (Nat.not_le.mpr hq)
    have hPO : va_P D classes (oA qo cA (vp_updL f (nI (0)).toNatClampNeg (lN (aa ^ (pp - 2) % pp)))) H := hPO
    refine W.eq (g2 := F0 m 337 ls [.int (nI (0))]) rfl ?_
    refine lv_istore (lv' := [(5, .int (nI (0))), (0, .ref (b)), (1, .ref (qx)), (2, .ref (qm)), (3, .ref (qo)), (4, .int (nI (5 * j)))]) hx hb d_L_law_337 hl (by decide) rfl (fun ls hl => ?_)
    refine lv_aload_n hx hb d_L_law_339 rfl (lv_at hl 3 rfl) ?_
    refine lv_aload_n hx hb d_L_law_340 rfl (lv_at hl 1 rfl) ?_
    refine lv_iload hx hb d_L_law_341 (lv_at hl 5 rfl) ?_
    refine lv_iconst (v := nI (1)) hx hb d_L_law_343 (by decide) ?_
    refine lv_iadd hx hb d_L_law_344 ?_
    refine tI (nI (5 * j + 1)) (nI_add _ _) ?_
    refine va_sld hx hb hX hbl hbA hS (vp_in_nI (show 5 * j + 1 < Ln by omega) (by omega)) d_L_law_345 ?_
    refine tI (nI (aa)) (by rw [nI_clamp (show 5 * j + 1 < 2 ^ 31 by omega), ← hv1, e1]) ?_
    refine zVW (b := qm) (As := [.int (nI (aa))]) (rest := []) ⟨hx, hb, hml, hown, hw⟩ (c_M_inverse_I_ok l D qm er pp qq gg G aa aa0 aa1) OM_B (OM_at hPM hK) (va_recv hK hPM (ci := 1) (q0 := 0) rfl rfl) g_L_75 rfl rfl pd_M_inverse_I ⟨Nat.le_of_ble_eq_true rfl, Nat.le_of_ble_eq_true rfl⟩ hl.1 rfl (Nat.le_of_ble_eq_true rfl) d_L_law_346 ⟨by show _ ≤ 1035; omega, by show _ ≤ 8248; omega⟩ hS gm (fun H1 locs hPM hz hk hS => ?_)
    have hPX := P1_kept hPX (hk qx (P1_lt hPX) nxm)
    have hPO := P1_kept hPO (hk qo (P1_lt hPO) (Ne.symm nmo))
    generalize H1 = H at hPX hPM hPO hS ⊢
    have hold : ∀ q : Nat, q < s.heap.size → H[q]? = s.heap[q]? := fun q hq => hS.2.1 q hq (Nat.not_le.mpr hq)
    have hPM : va_P D classes (oM qm (nI (0)) (lN (pp)) (lN (qq)) (lN (gg))) H := hPM
    refine W.eq (g2 := F0 m 349 ls [.int (nI (aa ^ (pp - 2) % pp))]) rfl ?_
    refine lv_istore (lv' := [(6, .int (nI (aa ^ (pp - 2) % pp))), (5, .int (nI (0))), (0, .ref (b)), (1, .ref (qx)), (2, .ref (qm)), (3, .ref (qo)), (4, .int (nI (5 * j)))]) hx hb d_L_law_349 hl (by decide) rfl (fun ls hl => ?_)
    refine lv_aload_n hx hb d_L_law_351 rfl (lv_at hl 4 rfl) ?_
    refine zV (b := qm) (As := []) (rest := []) ⟨hx, hb, hml, hown, hw⟩ (c_M_thrown l D qm (nI (0)) pp qq gg) OM_B (OM_at hPM hK) (va_recv hK hPM (ci := 1) (q0 := 0) rfl rfl) g_L_62 rfl rfl pd_M_thrown ⟨Nat.le_of_ble_eq_true rfl, Nat.le_of_ble_eq_true rfl⟩ hl.1 rfl (Nat.le_of_ble_eq_true rfl) d_L_law_352 ⟨by show _ ≤ 1035; omega, by show _ ≤ 8248; omega⟩ ?_
    refine W.eq (g2 := F0 m 355 ls [.int (nI (0))]) rfl ?_
    refine lv_iload hx hb d_L_law_355 (lv_at hl 1 rfl) ?_
    refine lv_icmp_eq (tgt := 362) hx hb d_L_law_357 (by decide) (fun _ => ?_) (fun z => absurd (rfl) z)
    refine lv_iload hx hb d_L_law_362 (lv_at hl 1 rfl) ?_
    refine lv_if_ne (tgt := 379) hx hb d_L_law_364 (by decide) (fun z => absurd (rfl) z) (fun _ => ?_)
    refine lv_aload_n hx hb d_L_law_367 rfl (lv_at hl 5 rfl) ?_
    refine lv_iconst (v := nI (0)) hx hb d_L_law_368 (by decide) ?_
    refine va_lald (f := vp_updL f (nI (0)).toNatClampNeg (lN (aa ^ (pp - 2) % pp))) hx hb hK hPO 0 0 rfl rfl (i := nI (0)) (vp_in_nI (by decide) (by decide)) d_L_law_369 ?_
    refine tL (lN (aa ^ (pp - 2) % pp)) (pk_uLs) ?_
    refine lv_iload hx hb d_L_law_370 (lv_at hl 0 rfl) ?_
    refine lv_i2l (v := lN (aa ^ (pp - 2) % pp)) hx hb d_L_law_372 (nI_l (hval)) ?_
    refine W.lcmp hx hb d_L_law_373 ?_
    refine lv_if_eq (tgt := 379) hx hb d_L_law_374 (by decide) (fun _ => ?_) (fun z => absurd ((lg_cmp_eq _ _).mpr (rfl)) z)
    refine lv_goto (tgt := 807) hx hb d_L_law_379 (by decide) ?_
    refine W.widen (by omega) (by omega) (kk (pp) (qq) (gg) (nI (0)) _ _ _ _ ⟨G, hPX, hPM, hPO, hS, lv_sub hl [2, 3, 4, 5, 6] rfl⟩)
  · refine lv_aload_n hx hb d_L_law_326 rfl (lv_at hl 1 rfl) ?_
    refine lv_aload_n hx hb d_L_law_327 rfl (lv_at hl 0 rfl) ?_
    refine lv_iload hx hb d_L_law_328 (lv_at hl 4 rfl) ?_
    refine lv_iconst (v := nI (1)) hx hb d_L_law_330 (by decide) ?_
    refine lv_iadd hx hb d_L_law_331 ?_
    refine tI (nI (5 * j + 1)) (nI_add _ _) ?_
    refine va_sld hx hb hX hbl hbA hS (vp_in_nI (show 5 * j + 1 < Ln by omega) (by omega)) d_L_law_332 ?_
    refine tI (v1) (by rw [nI_clamp (show 5 * j + 1 < 2 ^ 31 by omega)]; exact hv1.symm) ?_
    refine lv_aload_n hx hb d_L_law_333 rfl (lv_at hl 3 rfl) ?_
    refine zSWn (As := [.ref (qx), .int (v1), .ref (qo)]) (rest := []) ⟨hx, hb, hml, hown, hw⟩ (c_L_inverse_bad l hL D qx pp qq gg qo cA f G v1 hok) OL_B (OL_at hPX hPO hK hT hN hold) g_L_72 rfl rfl pd_L_inverse ⟨Nat.le_of_ble_eq_true rfl, Nat.le_of_ble_eq_true rfl⟩ hl.1 rfl (Nat.le_of_ble_eq_true rfl) d_L_law_334 ⟨by show _ ≤ 1035; omega, by show _ ≤ 8248; omega⟩ hS (fun H1 hz hk hS => ?_)
    have hPX := P1_kept hPX (hk qx (P1_lt hPX))
    have hPM := P1_kept hPM (hk qm (P1_lt hPM))
    have hPO := P1_kept hPO (hk qo (P1_lt hPO))
    generalize H1 = H at hPX hPM hPO hS ⊢
    have hold : ∀ q : Nat, q < s.heap.size → H[q]? = s.heap[q]? := fun q hq => hS.2.1 q hq (Nat.not_le.mpr hq)
    refine W.eq (g2 := F0 m 337 ls [.int (nI (1))]) rfl ?_
    refine lv_istore (lv' := [(5, .int (nI (1))), (0, .ref (b)), (1, .ref (qx)), (2, .ref (qm)), (3, .ref (qo)), (4, .int (nI (5 * j)))]) hx hb d_L_law_337 hl (by decide) rfl (fun ls hl => ?_)
    refine lv_aload_n hx hb d_L_law_339 rfl (lv_at hl 3 rfl) ?_
    refine lv_aload_n hx hb d_L_law_340 rfl (lv_at hl 1 rfl) ?_
    refine lv_iload hx hb d_L_law_341 (lv_at hl 5 rfl) ?_
    refine lv_iconst (v := nI (1)) hx hb d_L_law_343 (by decide) ?_
    refine lv_iadd hx hb d_L_law_344 ?_
    refine tI (nI (5 * j + 1)) (nI_add _ _) ?_
    refine va_sld hx hb hX hbl hbA hS (vp_in_nI (show 5 * j + 1 < Ln by omega) (by omega)) d_L_law_345 ?_
    refine tI (v1) (by rw [nI_clamp (show 5 * j + 1 < 2 ^ 31 by omega)]; exact hv1.symm) ?_
    refine zVW (b := qm) (As := [.int (v1)]) (rest := []) ⟨hx, hb, hml, hown, hw⟩ (c_M_inverse_I_bad l D qm er pp qq gg G v1 hok) OM_B (OM_at hPM hK) (va_recv hK hPM (ci := 1) (q0 := 0) rfl rfl) g_L_75 rfl rfl pd_M_inverse_I ⟨Nat.le_of_ble_eq_true rfl, Nat.le_of_ble_eq_true rfl⟩ hl.1 rfl (Nat.le_of_ble_eq_true rfl) d_L_law_346 ⟨by show _ ≤ 1035; omega, by show _ ≤ 8248; omega⟩ hS gm (fun H1 locs hPM hz hk hS => ?_)
    have hPX := P1_kept hPX (hk qx (P1_lt hPX) nxm)
    have hPO := P1_kept hPO (hk qo (P1_lt hPO) (Ne.symm nmo))
    generalize H1 = H at hPX hPM hPO hS ⊢
    have hold : ∀ q : Nat, q < s.heap.size → H[q]? = s.heap[q]? := fun q hq => hS.2.1 q hq (Nat.not_le.mpr hq)
    have hPM : va_P D classes (oM qm (nI (1)) (lN (pp)) (lN (qq)) (lN (gg))) H := hPM
    refine W.eq (g2 := F0 m 349 ls [.int (nI (0))]) rfl ?_
    refine lv_istore (lv' := [(6, .int (nI (0))), (5, .int (nI (1))), (0, .ref (b)), (1, .ref (qx)), (2, .ref (qm)), (3, .ref (qo)), (4, .int (nI (5 * j)))]) hx hb d_L_law_349 hl (by decide) rfl (fun ls hl => ?_)
    refine lv_aload_n hx hb d_L_law_351 rfl (lv_at hl 4 rfl) ?_
    refine zV (b := qm) (As := []) (rest := []) ⟨hx, hb, hml, hown, hw⟩ (c_M_thrown l D qm (nI (1)) pp qq gg) OM_B (OM_at hPM hK) (va_recv hK hPM (ci := 1) (q0 := 0) rfl rfl) g_L_62 rfl rfl pd_M_thrown ⟨Nat.le_of_ble_eq_true rfl, Nat.le_of_ble_eq_true rfl⟩ hl.1 rfl (Nat.le_of_ble_eq_true rfl) d_L_law_352 ⟨by show _ ≤ 1035; omega, by show _ ≤ 8248; omega⟩ ?_
    refine W.eq (g2 := F0 m 355 ls [.int (nI (1))]) rfl ?_
    refine lv_iload hx hb d_L_law_355 (lv_at hl 1 rfl) ?_
    refine lv_icmp_eq (tgt := 362) hx hb d_L_law_357 (by decide) (fun _ => ?_) (fun z => absurd (rfl) z)
    refine lv_iload hx hb d_L_law_362 (lv_at hl 1 rfl) ?_
    refine lv_if_ne (tgt := 379) hx hb d_L_law_364 (by decide) (fun _ => ?_) (fun z => absurd z (by decide))
    refine lv_goto (tgt := 807) hx hb d_L_law_379 (by decide) ?_
    refine W.widen (by omega) (by omega) (kk (pp) (qq) (gg) (nI (1)) _ _ _ _ ⟨G, hPX, hPM, hPO, hS, lv_sub hl [2, 3, 4, 5, 6] rfl⟩)
set_option maxHeartbeats 4000000 in
set_option maxRecDepth 100000 in
theorem law_log {p : Program} {l : Launch} {e : Env} {s : State} {m : MethodId} {below : List Frame} {meth : Method} {c : Code} {D : va_G} {cA : ClassId} {b Ln qx qm qo : Nat} {xs : Nat → Int32} (C0 : lw_At p s m meth c b Ln xs) (F : LFix l D cA qx qm qo Ln s) (j : Nat) (hj : 5 * j + 5 ≤ Ln)
    (kk : ∀ (pp qq gg : Nat) (er : Int32) (f : Nat → Int64) (H : Heap) (locs : List Loc) (ls : Array Slot), LInv D cA b qx qm qo j s pp qq gg er f H locs ls → W p l e room_1 s m #[Value.ref b] below meth c H locs (3 + j + 1) (8 + 6 * j + 6) (lw_Z below #[Value.ref b] s) (F0 m 807 ls []))
    (pp qq gg : Nat) (er : Int32) (f : Nat → Int64) (H : Heap) (locs : List Loc) (ls : Array Slot) (I0 : LInv D cA b qx qm qo j s pp qq gg er f H locs ls) : W p l e room_1 s m #[Value.ref b] below meth c H locs (3 + j) (8 + 6 * j) (lw_Z below #[Value.ref b] s) (F0 m 382 ls []) := by
  obtain ⟨hx, hb, hr, hml, hown, hts, hX, hbl, hlocks, hgv⟩ := C0
  obtain ⟨hL, hLn, hT, hN, hK, ⟨nxm, nxo, nmo⟩, gx, gm, go⟩ := F
  obtain ⟨G, hPX, hPM, hPO, hS, hl⟩ := I0
  have hw : ∀ w ∈ wall, w.before #[Value.ref b] s = true := fun w h => hts w (List.mem_filter.mp h).1
  have hbA : ¬ (fun q : Nat => s.heap.size ≤ q) b := Nat.not_le.mpr hbl
  have hold : ∀ q : Nat, q < s.heap.size → H[q]? = s.heap[q]? := fun q hq => hS.2.1 q hq (Nat.not_le.mpr hq)
  obtain ⟨v1, hv1⟩ : ∃ v, v = xs (5 * j + 1) := ⟨_, rfl⟩
  obtain ⟨v2, hv2⟩ : ∃ v, v = xs (5 * j + 2) := ⟨_, rfl⟩
  obtain ⟨v3, hv3⟩ : ∃ v, v = xs (5 * j + 3) := ⟨_, rfl⟩
  obtain ⟨v4, hv4⟩ : ∃ v, v = xs (5 * j + 4) := ⟨_, rfl⟩
  have hp5 : 5 ≤ pp := by have := G.1; have := G.2.2.1.1; omega
  have hp := G.2.2.2.2.2.2
  have hq2 : 2 ≤ qq := G.2.2.1.1
  have hq : qq < 2 ^ 31 := by have := G.1; omega
  have hgp : gg < pp := G.2.2.2.2.1
  by_cases hok : mem v1.toInt pp qq
  · by_cases hbig : pp ≤ 20000
    · obtain ⟨yy, y1, y2, y3, e1, y5, y6⟩ := mem_of hok
      rw [e1] at hok
      obtain ⟨x0, x1, x2⟩ := grp_log G y1 y2 y6
      have hval : x0 < 2 ^ 31 := by omega
      refine lv_aload_n hx hb d_L_law_382 rfl (lv_at hl 1 rfl) ?_
      refine lv_aload_n hx hb d_L_law_383 rfl (lv_at hl 0 rfl) ?_
      refine lv_iload hx hb d_L_law_384 (lv_at hl 4 rfl) ?_
      refine lv_iconst (v := nI (1)) hx hb d_L_law_386 (by decide) ?_
      refine lv_iadd hx hb d_L_law_387 ?_
      refine tI (nI (5 * j + 1)) (nI_add _ _) ?_
      refine va_sld hx hb hX hbl hbA hS (vp_in_nI (show 5 * j + 1 < Ln by omega) (by omega)) d_L_law_388 ?_
      refine tI (nI (yy)) (by rw [nI_clamp (show 5 * j + 1 < 2 ^ 31 by omega), ← hv1, e1]) ?_
      refine lv_aload_n hx hb d_L_law_389 rfl (lv_at hl 3 rfl) ?_
      refine zSWo (As := [.ref (qx), .int (nI (yy)), .ref (qo)]) (rest := []) ⟨hx, hb, hml, hown, hw⟩ (c_L_log_ok l D qx pp qq gg qo cA f G yy x0 y2 hok hbig x1 x2) OL_B (OL_at hPX hPO hK hT hN hold) g_L_76 rfl rfl pd_L_log ⟨Nat.le_of_ble_eq_true rfl, Nat.le_of_ble_eq_true rfl⟩ hl.1 rfl (Nat.le_of_ble_eq_true rfl) d_L_law_390 ⟨by show _ ≤ 1035; omega, by show _ ≤ 8248; omega⟩ hS go (fun H1 locs hPO hz hk hS => ?_)
      have hPX := P1_kept hPX (hk qx (P1_lt hPX) nxo)
      have hPM := P1_kept hPM (hk qm (P1_lt hPM) nmo)
      generalize H1 = H at hPX hPM hPO hS ⊢
      have hold : ∀ q : Nat, q < s.heap.size → H[q]? = s.heap[q]? := fun q hq => hS.2.1 q hq (Nat.not_le.mpr hq)
      have hPO : va_P D classes (oA qo cA (vp_updL f (nI (0)).toNatClampNeg (lN (x0)))) H := hPO
      refine W.eq (g2 := F0 m 393 ls [.int (nI (0))]) rfl ?_
      refine lv_istore (lv' := [(5, .int (nI (0))), (0, .ref (b)), (1, .ref (qx)), (2, .ref (qm)), (3, .ref (qo)), (4, .int (nI (5 * j)))]) hx hb d_L_law_393 hl (by decide) rfl (fun ls hl => ?_)
      refine lv_aload_n hx hb d_L_law_395 rfl (lv_at hl 3 rfl) ?_
      refine lv_aload_n hx hb d_L_law_396 rfl (lv_at hl 1 rfl) ?_
      refine lv_iload hx hb d_L_law_397 (lv_at hl 5 rfl) ?_
      refine lv_iconst (v := nI (1)) hx hb d_L_law_399 (by decide) ?_
      refine lv_iadd hx hb d_L_law_400 ?_
      refine tI (nI (5 * j + 1)) (nI_add _ _) ?_
      refine va_sld hx hb hX hbl hbA hS (vp_in_nI (show 5 * j + 1 < Ln by omega) (by omega)) d_L_law_401 ?_
      refine tI (nI (yy)) (by rw [nI_clamp (show 5 * j + 1 < 2 ^ 31 by omega), ← hv1, e1]) ?_
      refine zVW (b := qm) (As := [.int (nI (yy))]) (rest := []) ⟨hx, hb, hml, hown, hw⟩ (c_M_log_ok l D qm er pp qq gg G yy x0 y2 hok hbig x1 x2) OM_B (OM_at hPM hK) (va_recv hK hPM (ci := 1) (q0 := 0) rfl rfl) g_L_78 rfl rfl pd_M_log ⟨Nat.le_of_ble_eq_true rfl, Nat.le_of_ble_eq_true rfl⟩ hl.1 rfl (Nat.le_of_ble_eq_true rfl) d_L_law_402 ⟨by show _ ≤ 1035; omega, by show _ ≤ 8248; omega⟩ hS gm (fun H1 locs hPM hz hk hS => ?_)
      have hPX := P1_kept hPX (hk qx (P1_lt hPX) nxm)
      have hPO := P1_kept hPO (hk qo (P1_lt hPO) (Ne.symm nmo))
      generalize H1 = H at hPX hPM hPO hS ⊢
      have hold : ∀ q : Nat, q < s.heap.size → H[q]? = s.heap[q]? := fun q hq => hS.2.1 q hq (Nat.not_le.mpr hq)
      have hPM : va_P D classes (oM qm (nI (0)) (lN (pp)) (lN (qq)) (lN (gg))) H := hPM
      refine W.eq (g2 := F0 m 405 ls [.int (nI (x0))]) rfl ?_
      refine lv_istore (lv' := [(6, .int (nI (x0))), (5, .int (nI (0))), (0, .ref (b)), (1, .ref (qx)), (2, .ref (qm)), (3, .ref (qo)), (4, .int (nI (5 * j)))]) hx hb d_L_law_405 hl (by decide) rfl (fun ls hl => ?_)
      refine lv_aload_n hx hb d_L_law_407 rfl (lv_at hl 4 rfl) ?_
      refine zV (b := qm) (As := []) (rest := []) ⟨hx, hb, hml, hown, hw⟩ (c_M_thrown l D qm (nI (0)) pp qq gg) OM_B (OM_at hPM hK) (va_recv hK hPM (ci := 1) (q0 := 0) rfl rfl) g_L_62 rfl rfl pd_M_thrown ⟨Nat.le_of_ble_eq_true rfl, Nat.le_of_ble_eq_true rfl⟩ hl.1 rfl (Nat.le_of_ble_eq_true rfl) d_L_law_408 ⟨by show _ ≤ 1035; omega, by show _ ≤ 8248; omega⟩ ?_
      refine W.eq (g2 := F0 m 411 ls [.int (nI (0))]) rfl ?_
      refine lv_iload hx hb d_L_law_411 (lv_at hl 1 rfl) ?_
      refine lv_icmp_eq (tgt := 418) hx hb d_L_law_413 (by decide) (fun _ => ?_) (fun z => absurd (rfl) z)
      refine lv_iload hx hb d_L_law_418 (lv_at hl 1 rfl) ?_
      refine lv_if_ne (tgt := 435) hx hb d_L_law_420 (by decide) (fun z => absurd (rfl) z) (fun _ => ?_)
      refine lv_aload_n hx hb d_L_law_423 rfl (lv_at hl 5 rfl) ?_
      refine lv_iconst (v := nI (0)) hx hb d_L_law_424 (by decide) ?_
      refine va_lald (f := vp_updL f (nI (0)).toNatClampNeg (lN (x0))) hx hb hK hPO 0 0 rfl rfl (i := nI (0)) (vp_in_nI (by decide) (by decide)) d_L_law_425 ?_
      refine tL (lN (x0)) (pk_uLs) ?_
      refine lv_iload hx hb d_L_law_426 (lv_at hl 0 rfl) ?_
      refine lv_i2l (v := lN (x0)) hx hb d_L_law_428 (nI_l (hval)) ?_
      refine W.lcmp hx hb d_L_law_429 ?_
      refine lv_if_eq (tgt := 435) hx hb d_L_law_430 (by decide) (fun _ => ?_) (fun z => absurd ((lg_cmp_eq _ _).mpr (rfl)) z)
      refine lv_goto (tgt := 807) hx hb d_L_law_435 (by decide) ?_
      refine W.widen (by omega) (by omega) (kk (pp) (qq) (gg) (nI (0)) _ _ _ _ ⟨G, hPX, hPM, hPO, hS, lv_sub hl [2, 3, 4, 5, 6] rfl⟩)
    · refine lv_aload_n hx hb d_L_law_382 rfl (lv_at hl 1 rfl) ?_
      refine lv_aload_n hx hb d_L_law_383 rfl (lv_at hl 0 rfl) ?_
      refine lv_iload hx hb d_L_law_384 (lv_at hl 4 rfl) ?_
      refine lv_iconst (v := nI (1)) hx hb d_L_law_386 (by decide) ?_
      refine lv_iadd hx hb d_L_law_387 ?_
      refine tI (nI (5 * j + 1)) (nI_add _ _) ?_
      refine va_sld hx hb hX hbl hbA hS (vp_in_nI (show 5 * j + 1 < Ln by omega) (by omega)) d_L_law_388 ?_
      refine tI (v1) (by rw [nI_clamp (show 5 * j + 1 < 2 ^ 31 by omega)]; exact hv1.symm) ?_
      refine lv_aload_n hx hb d_L_law_389 rfl (lv_at hl 3 rfl) ?_
      refine zSWn (As := [.ref (qx), .int (v1), .ref (qo)]) (rest := []) ⟨hx, hb, hml, hown, hw⟩ (c_L_log_big l hL D qx pp qq gg qo cA f G v1 hok (by omega)) OL_B (OL_at hPX hPO hK hT hN hold) g_L_76 rfl rfl pd_L_log ⟨Nat.le_of_ble_eq_true rfl, Nat.le_of_ble_eq_true rfl⟩ hl.1 rfl (Nat.le_of_ble_eq_true rfl) d_L_law_390 ⟨by show _ ≤ 1035; omega, by show _ ≤ 8248; omega⟩ hS (fun H1 hz hk hS => ?_)
      have hPX := P1_kept hPX (hk qx (P1_lt hPX))
      have hPM := P1_kept hPM (hk qm (P1_lt hPM))
      have hPO := P1_kept hPO (hk qo (P1_lt hPO))
      generalize H1 = H at hPX hPM hPO hS ⊢
      have hold : ∀ q : Nat, q < s.heap.size → H[q]? = s.heap[q]? := fun q hq => hS.2.1 q hq (Nat.not_le.mpr hq)
      refine W.eq (g2 := F0 m 393 ls [.int (nI (2))]) rfl ?_
      refine lv_istore (lv' := [(5, .int (nI (2))), (0, .ref (b)), (1, .ref (qx)), (2, .ref (qm)), (3, .ref (qo)), (4, .int (nI (5 * j)))]) hx hb d_L_law_393 hl (by decide) rfl (fun ls hl => ?_)
      refine lv_aload_n hx hb d_L_law_395 rfl (lv_at hl 3 rfl) ?_
      refine lv_aload_n hx hb d_L_law_396 rfl (lv_at hl 1 rfl) ?_
      refine lv_iload hx hb d_L_law_397 (lv_at hl 5 rfl) ?_
      refine lv_iconst (v := nI (1)) hx hb d_L_law_399 (by decide) ?_
      refine lv_iadd hx hb d_L_law_400 ?_
      refine tI (nI (5 * j + 1)) (nI_add _ _) ?_
      refine va_sld hx hb hX hbl hbA hS (vp_in_nI (show 5 * j + 1 < Ln by omega) (by omega)) d_L_law_401 ?_
      refine tI (v1) (by rw [nI_clamp (show 5 * j + 1 < 2 ^ 31 by omega)]; exact hv1.symm) ?_
      refine zVW (b := qm) (As := [.int (v1)]) (rest := []) ⟨hx, hb, hml, hown, hw⟩ (c_M_log_big l D qm er pp qq gg G v1 hok (by omega)) OM_B (OM_at hPM hK) (va_recv hK hPM (ci := 1) (q0 := 0) rfl rfl) g_L_78 rfl rfl pd_M_log ⟨Nat.le_of_ble_eq_true rfl, Nat.le_of_ble_eq_true rfl⟩ hl.1 rfl (Nat.le_of_ble_eq_true rfl) d_L_law_402 ⟨by show _ ≤ 1035; omega, by show _ ≤ 8248; omega⟩ hS gm (fun H1 locs hPM hz hk hS => ?_)
      have hPX := P1_kept hPX (hk qx (P1_lt hPX) nxm)
      have hPO := P1_kept hPO (hk qo (P1_lt hPO) (Ne.symm nmo))
      generalize H1 = H at hPX hPM hPO hS ⊢
      have hold : ∀ q : Nat, q < s.heap.size → H[q]? = s.heap[q]? := fun q hq => hS.2.1 q hq (Nat.not_le.mpr hq)
      have hPM : va_P D classes (oM qm (nI (2)) (lN (pp)) (lN (qq)) (lN (gg))) H := hPM
      refine W.eq (g2 := F0 m 405 ls [.int (nI (0))]) rfl ?_
      refine lv_istore (lv' := [(6, .int (nI (0))), (5, .int (nI (2))), (0, .ref (b)), (1, .ref (qx)), (2, .ref (qm)), (3, .ref (qo)), (4, .int (nI (5 * j)))]) hx hb d_L_law_405 hl (by decide) rfl (fun ls hl => ?_)
      refine lv_aload_n hx hb d_L_law_407 rfl (lv_at hl 4 rfl) ?_
      refine zV (b := qm) (As := []) (rest := []) ⟨hx, hb, hml, hown, hw⟩ (c_M_thrown l D qm (nI (2)) pp qq gg) OM_B (OM_at hPM hK) (va_recv hK hPM (ci := 1) (q0 := 0) rfl rfl) g_L_62 rfl rfl pd_M_thrown ⟨Nat.le_of_ble_eq_true rfl, Nat.le_of_ble_eq_true rfl⟩ hl.1 rfl (Nat.le_of_ble_eq_true rfl) d_L_law_408 ⟨by show _ ≤ 1035; omega, by show _ ≤ 8248; omega⟩ ?_
      refine W.eq (g2 := F0 m 411 ls [.int (nI (2))]) rfl ?_
      refine lv_iload hx hb d_L_law_411 (lv_at hl 1 rfl) ?_
      refine lv_icmp_eq (tgt := 418) hx hb d_L_law_413 (by decide) (fun _ => ?_) (fun z => absurd (rfl) z)
      refine lv_iload hx hb d_L_law_418 (lv_at hl 1 rfl) ?_
      refine lv_if_ne (tgt := 435) hx hb d_L_law_420 (by decide) (fun _ => ?_) (fun z => absurd z (by decide))
      refine lv_goto (tgt := 807) hx hb d_L_law_435 (by decide) ?_
      refine W.widen (by omega) (by omega) (kk (pp) (qq) (gg) (nI (2)) _ _ _ _ ⟨G, hPX, hPM, hPO, hS, lv_sub hl [2, 3, 4, 5, 6] rfl⟩)
  · refine lv_aload_n hx hb d_L_law_382 rfl (lv_at hl 1 rfl) ?_
    refine lv_aload_n hx hb d_L_law_383 rfl (lv_at hl 0 rfl) ?_
    refine lv_iload hx hb d_L_law_384 (lv_at hl 4 rfl) ?_
    refine lv_iconst (v := nI (1)) hx hb d_L_law_386 (by decide) ?_
    refine lv_iadd hx hb d_L_law_387 ?_
    refine tI (nI (5 * j + 1)) (nI_add _ _) ?_
    refine va_sld hx hb hX hbl hbA hS (vp_in_nI (show 5 * j + 1 < Ln by omega) (by omega)) d_L_law_388 ?_
    refine tI (v1) (by rw [nI_clamp (show 5 * j + 1 < 2 ^ 31 by omega)]; exact hv1.symm) ?_
    refine lv_aload_n hx hb d_L_law_389 rfl (lv_at hl 3 rfl) ?_
    refine zSWn (As := [.ref (qx), .int (v1), .ref (qo)]) (rest := []) ⟨hx, hb, hml, hown, hw⟩ (c_L_log_bad l hL D qx pp qq gg qo cA f G v1 hok) OL_B (OL_at hPX hPO hK hT hN hold) g_L_76 rfl rfl pd_L_log ⟨Nat.le_of_ble_eq_true rfl, Nat.le_of_ble_eq_true rfl⟩ hl.1 rfl (Nat.le_of_ble_eq_true rfl) d_L_law_390 ⟨by show _ ≤ 1035; omega, by show _ ≤ 8248; omega⟩ hS (fun H1 hz hk hS => ?_)
    have hPX := P1_kept hPX (hk qx (P1_lt hPX))
    have hPM := P1_kept hPM (hk qm (P1_lt hPM))
    have hPO := P1_kept hPO (hk qo (P1_lt hPO))
    generalize H1 = H at hPX hPM hPO hS ⊢
    have hold : ∀ q : Nat, q < s.heap.size → H[q]? = s.heap[q]? := fun q hq => hS.2.1 q hq (Nat.not_le.mpr hq)
    refine W.eq (g2 := F0 m 393 ls [.int (nI (1))]) rfl ?_
    refine lv_istore (lv' := [(5, .int (nI (1))), (0, .ref (b)), (1, .ref (qx)), (2, .ref (qm)), (3, .ref (qo)), (4, .int (nI (5 * j)))]) hx hb d_L_law_393 hl (by decide) rfl (fun ls hl => ?_)
    refine lv_aload_n hx hb d_L_law_395 rfl (lv_at hl 3 rfl) ?_
    refine lv_aload_n hx hb d_L_law_396 rfl (lv_at hl 1 rfl) ?_
    refine lv_iload hx hb d_L_law_397 (lv_at hl 5 rfl) ?_
    refine lv_iconst (v := nI (1)) hx hb d_L_law_399 (by decide) ?_
    refine lv_iadd hx hb d_L_law_400 ?_
    refine tI (nI (5 * j + 1)) (nI_add _ _) ?_
    refine va_sld hx hb hX hbl hbA hS (vp_in_nI (show 5 * j + 1 < Ln by omega) (by omega)) d_L_law_401 ?_
    refine tI (v1) (by rw [nI_clamp (show 5 * j + 1 < 2 ^ 31 by omega)]; exact hv1.symm) ?_
    refine zVW (b := qm) (As := [.int (v1)]) (rest := []) ⟨hx, hb, hml, hown, hw⟩ (c_M_log_bad l D qm er pp qq gg G v1 hok) OM_B (OM_at hPM hK) (va_recv hK hPM (ci := 1) (q0 := 0) rfl rfl) g_L_78 rfl rfl pd_M_log ⟨Nat.le_of_ble_eq_true rfl, Nat.le_of_ble_eq_true rfl⟩ hl.1 rfl (Nat.le_of_ble_eq_true rfl) d_L_law_402 ⟨by show _ ≤ 1035; omega, by show _ ≤ 8248; omega⟩ hS gm (fun H1 locs hPM hz hk hS => ?_)
    have hPX := P1_kept hPX (hk qx (P1_lt hPX) nxm)
    have hPO := P1_kept hPO (hk qo (P1_lt hPO) (Ne.symm nmo))
    generalize H1 = H at hPX hPM hPO hS ⊢
    have hold : ∀ q : Nat, q < s.heap.size → H[q]? = s.heap[q]? := fun q hq => hS.2.1 q hq (Nat.not_le.mpr hq)
    have hPM : va_P D classes (oM qm (nI (1)) (lN (pp)) (lN (qq)) (lN (gg))) H := hPM
    refine W.eq (g2 := F0 m 405 ls [.int (nI (0))]) rfl ?_
    refine lv_istore (lv' := [(6, .int (nI (0))), (5, .int (nI (1))), (0, .ref (b)), (1, .ref (qx)), (2, .ref (qm)), (3, .ref (qo)), (4, .int (nI (5 * j)))]) hx hb d_L_law_405 hl (by decide) rfl (fun ls hl => ?_)
    refine lv_aload_n hx hb d_L_law_407 rfl (lv_at hl 4 rfl) ?_
    refine zV (b := qm) (As := []) (rest := []) ⟨hx, hb, hml, hown, hw⟩ (c_M_thrown l D qm (nI (1)) pp qq gg) OM_B (OM_at hPM hK) (va_recv hK hPM (ci := 1) (q0 := 0) rfl rfl) g_L_62 rfl rfl pd_M_thrown ⟨Nat.le_of_ble_eq_true rfl, Nat.le_of_ble_eq_true rfl⟩ hl.1 rfl (Nat.le_of_ble_eq_true rfl) d_L_law_408 ⟨by show _ ≤ 1035; omega, by show _ ≤ 8248; omega⟩ ?_
    refine W.eq (g2 := F0 m 411 ls [.int (nI (1))]) rfl ?_
    refine lv_iload hx hb d_L_law_411 (lv_at hl 1 rfl) ?_
    refine lv_icmp_eq (tgt := 418) hx hb d_L_law_413 (by decide) (fun _ => ?_) (fun z => absurd (rfl) z)
    refine lv_iload hx hb d_L_law_418 (lv_at hl 1 rfl) ?_
    refine lv_if_ne (tgt := 435) hx hb d_L_law_420 (by decide) (fun _ => ?_) (fun z => absurd z (by decide))
    refine lv_goto (tgt := 807) hx hb d_L_law_435 (by decide) ?_
    refine W.widen (by omega) (by omega) (kk (pp) (qq) (gg) (nI (1)) _ _ _ _ ⟨G, hPX, hPM, hPO, hS, lv_sub hl [2, 3, 4, 5, 6] rfl⟩)
