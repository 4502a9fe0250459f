/-! the law, case by case -/
set_option maxHeartbeats 4000000 in
set_option maxRecDepth 100000 in
theorem law_answer {p : Program} {l : Launch} {e : Env} {s : State} {m : MethodId} {below : List Frame} {meth : Method} {c : Code} {D : va_G} {cA : ClassId} {b Ln qx qm qo : Nat} {xs : Nat → Int32} (C0 : lw_At p s m meth c b Ln xs) (F : LFix l D cA qx qm qo Ln s) (j : Nat) (hj : 5 * j + 5 ≤ Ln)
    (kk : ∀ (pp qq gg : Nat) (er : Int32) (f : Nat → Int64) (H : Heap) (locs : List Loc) (ls : Array Slot), LInv D cA b qx qm qo j s pp qq gg er f H locs ls → W p l e room_1 s m #[Value.ref b] below meth c H locs (3 + j + 1) (8 + 6 * j + 6) (lw_Z below #[Value.ref b] s) (F0 m 807 ls []))
    (pp qq gg : Nat) (er : Int32) (f : Nat → Int64) (H : Heap) (locs : List Loc) (ls : Array Slot) (I0 : LInv D cA b qx qm qo j s pp qq gg er f H locs ls) : W p l e room_1 s m #[Value.ref b] below meth c H locs (3 + j) (8 + 6 * j) (lw_Z below #[Value.ref b] s) (F0 m 499 ls []) := by
  obtain ⟨hx, hb, hr, hml, hown, hts, hX, hbl, hlocks, hgv⟩ := C0
  obtain ⟨hL, hLn, hT, hN, hK, ⟨nxm, nxo, nmo⟩, gx, gm, go⟩ := F
  obtain ⟨G, hPX, hPM, hPO, hS, hl⟩ := I0
  have hw : ∀ w ∈ wall, w.before #[Value.ref b] s = true := fun w h => hts w (List.mem_filter.mp h).1
  have hbA : ¬ (fun q : Nat => s.heap.size ≤ q) b := Nat.not_le.mpr hbl
  have hold : ∀ q : Nat, q < s.heap.size → H[q]? = s.heap[q]? := fun q hq => hS.2.1 q hq (Nat.not_le.mpr hq)
  obtain ⟨v1, hv1⟩ : ∃ v, v = xs (5 * j + 1) := ⟨_, rfl⟩
  obtain ⟨v2, hv2⟩ : ∃ v, v = xs (5 * j + 2) := ⟨_, rfl⟩
  obtain ⟨v3, hv3⟩ : ∃ v, v = xs (5 * j + 3) := ⟨_, rfl⟩
  obtain ⟨v4, hv4⟩ : ∃ v, v = xs (5 * j + 4) := ⟨_, rfl⟩
  have hp5 : 5 ≤ pp := by have := G.1; have := G.2.2.1.1; omega
  have hp := G.2.2.2.2.2.2
  have hq2 : 2 ≤ qq := G.2.2.1.1
  have hq : qq < 2 ^ 31 := by have := G.1; omega
  have hgp : gg < pp := G.2.2.2.2.1
  by_cases hok : res v1.toInt qq ∧ res v2.toInt qq ∧ res v3.toInt qq
  · obtain ⟨xx, xx1, xx2, e1, xx3⟩ := res_of (hok.1)
    obtain ⟨kx, kx1, kx2, e2, kx3⟩ := res_of (hok.2.1)
    obtain ⟨ce, ce1, ce2, e3, ce3⟩ := res_of (hok.2.2)
    have hval : (kx + ce * xx) % qq < 2 ^ 31 := Nat.lt_trans (Nat.mod_lt _ (by omega)) hq
    refine lv_aload_n hx hb d_L_law_499 rfl (lv_at hl 1 rfl) ?_
    refine lv_aload_n hx hb d_L_law_500 rfl (lv_at hl 0 rfl) ?_
    refine lv_iload hx hb d_L_law_501 (lv_at hl 4 rfl) ?_
    refine lv_iconst (v := nI (1)) hx hb d_L_law_503 (by decide) ?_
    refine lv_iadd hx hb d_L_law_504 ?_
    refine tI (nI (5 * j + 1)) (nI_add _ _) ?_
    refine va_sld hx hb hX hbl hbA hS (vp_in_nI (show 5 * j + 1 < Ln by omega) (by omega)) d_L_law_505 ?_
    refine tI (nI (xx)) (by rw [nI_clamp (show 5 * j + 1 < 2 ^ 31 by omega), ← hv1, e1]) ?_
    refine lv_aload_n hx hb d_L_law_506 rfl (lv_at hl 0 rfl) ?_
    refine lv_iload hx hb d_L_law_507 (lv_at hl 4 rfl) ?_
    refine lv_iconst (v := nI (2)) hx hb d_L_law_509 (by decide) ?_
    refine lv_iadd hx hb d_L_law_510 ?_
    refine tI (nI (5 * j + 2)) (nI_add _ _) ?_
    refine va_sld hx hb hX hbl hbA hS (vp_in_nI (show 5 * j + 2 < Ln by omega) (by omega)) d_L_law_511 ?_
    refine tI (nI (kx)) (by rw [nI_clamp (show 5 * j + 2 < 2 ^ 31 by omega), ← hv2, e2]) ?_
    refine lv_aload_n hx hb d_L_law_512 rfl (lv_at hl 0 rfl) ?_
    refine lv_iload hx hb d_L_law_513 (lv_at hl 4 rfl) ?_
    refine lv_iconst (v := nI (3)) hx hb d_L_law_515 (by decide) ?_
    refine lv_iadd hx hb d_L_law_516 ?_
    refine tI (nI (5 * j + 3)) (nI_add _ _) ?_
    refine va_sld hx hb hX hbl hbA hS (vp_in_nI (show 5 * j + 3 < Ln by omega) (by omega)) d_L_law_517 ?_
    refine tI (nI (ce)) (by rw [nI_clamp (show 5 * j + 3 < 2 ^ 31 by omega), ← hv3, e3]) ?_
    refine lv_aload_n hx hb d_L_law_518 rfl (lv_at hl 3 rfl) ?_
    refine zSWo (As := [.ref (qx), .int (nI (xx)), .int (nI (kx)), .int (nI (ce)), .ref (qo)]) (rest := []) ⟨hx, hb, hml, hown, hw⟩ (c_L_answer_ok l D qx pp qq gg qo cA f G xx kx ce xx1 kx1 ce1) OL_B (OL_at hPX hPO hK hT hN hold) g_L_84 rfl rfl pd_L_answer ⟨Nat.le_of_ble_eq_true rfl, Nat.le_of_ble_eq_true rfl⟩ hl.1 rfl (Nat.le_of_ble_eq_true rfl) d_L_law_519 ⟨by show _ ≤ 1035; omega, by show _ ≤ 8248; omega⟩ hS go (fun H1 locs hPO hz hk hS => ?_)
    have hPX := P1_kept hPX (hk qx (P1_lt hPX) nxo)
    have hPM := P1_kept hPM (hk qm (P1_lt hPM) nmo)
    generalize H1 = H at hPX hPM hPO hS ⊢
    have hold : ∀ q : Nat, q < s.heap.size → H[q]? = s.heap[q]? := fun q hq => hS.2.1 q hq (Nat.not_le.mpr hq)
    have hPO : va_P D classes (oA qo cA (vp_updL f (nI (0)).toNatClampNeg (lN ((kx + ce * xx) % qq)))) H := hPO
    refine W.eq (g2 := F0 m 522 ls [.int (nI (0))]) rfl ?_
    refine lv_istore (lv' := [(5, .int (nI (0))), (0, .ref (b)), (1, .ref (qx)), (2, .ref (qm)), (3, .ref (qo)), (4, .int (nI (5 * j)))]) hx hb d_L_law_522 hl (by decide) rfl (fun ls hl => ?_)
    refine lv_aload_n hx hb d_L_law_524 rfl (lv_at hl 3 rfl) ?_
    refine lv_aload_n hx hb d_L_law_525 rfl (lv_at hl 1 rfl) ?_
    refine lv_iload hx hb d_L_law_526 (lv_at hl 5 rfl) ?_
    refine lv_iconst (v := nI (1)) hx hb d_L_law_528 (by decide) ?_
    refine lv_iadd hx hb d_L_law_529 ?_
    refine tI (nI (5 * j + 1)) (nI_add _ _) ?_
    refine va_sld hx hb hX hbl hbA hS (vp_in_nI (show 5 * j + 1 < Ln by omega) (by omega)) d_L_law_530 ?_
    refine tI (nI (xx)) (by rw [nI_clamp (show 5 * j + 1 < 2 ^ 31 by omega), ← hv1, e1]) ?_
    refine lv_aload_n hx hb d_L_law_531 rfl (lv_at hl 1 rfl) ?_
    refine lv_iload hx hb d_L_law_532 (lv_at hl 5 rfl) ?_
    refine lv_iconst (v := nI (2)) hx hb d_L_law_534 (by decide) ?_
    refine lv_iadd hx hb d_L_law_535 ?_
    refine tI (nI (5 * j + 2)) (nI_add _ _) ?_
    refine va_sld hx hb hX hbl hbA hS (vp_in_nI (show 5 * j + 2 < Ln by omega) (by omega)) d_L_law_536 ?_
    refine tI (nI (kx)) (by rw [nI_clamp (show 5 * j + 2 < 2 ^ 31 by omega), ← hv2, e2]) ?_
    refine lv_aload_n hx hb d_L_law_537 rfl (lv_at hl 1 rfl) ?_
    refine lv_iload hx hb d_L_law_538 (lv_at hl 5 rfl) ?_
    refine lv_iconst (v := nI (3)) hx hb d_L_law_540 (by decide) ?_
    refine lv_iadd hx hb d_L_law_541 ?_
    refine tI (nI (5 * j + 3)) (nI_add _ _) ?_
    refine va_sld hx hb hX hbl hbA hS (vp_in_nI (show 5 * j + 3 < Ln by omega) (by omega)) d_L_law_542 ?_
    refine tI (nI (ce)) (by rw [nI_clamp (show 5 * j + 3 < 2 ^ 31 by omega), ← hv3, e3]) ?_
    refine zVW (b := qm) (As := [.int (nI (xx)), .int (nI (kx)), .int (nI (ce))]) (rest := []) ⟨hx, hb, hml, hown, hw⟩ (c_M_answer_ok l D qm er pp qq gg G xx kx ce xx1 kx1 ce1) OM_B (OM_at hPM hK) (va_recv hK hPM (ci := 1) (q0 := 0) rfl rfl) g_L_87 rfl rfl pd_M_answer ⟨Nat.le_of_ble_eq_true rfl, Nat.le_of_ble_eq_true rfl⟩ hl.1 rfl (Nat.le_of_ble_eq_true rfl) d_L_law_543 ⟨by show _ ≤ 1035; omega, by show _ ≤ 8248; omega⟩ hS gm (fun H1 locs hPM hz hk hS => ?_)
    have hPX := P1_kept hPX (hk qx (P1_lt hPX) nxm)
    have hPO := P1_kept hPO (hk qo (P1_lt hPO) (Ne.symm nmo))
    generalize H1 = H at hPX hPM hPO hS ⊢
    have hold : ∀ q : Nat, q < s.heap.size → H[q]? = s.heap[q]? := fun q hq => hS.2.1 q hq (Nat.not_le.mpr hq)
    have hPM : va_P D classes (oM qm (nI (0)) (lN (pp)) (lN (qq)) (lN (gg))) H := hPM
    refine W.eq (g2 := F0 m 546 ls [.int (nI ((kx + ce * xx) % qq))]) rfl ?_
    refine lv_istore (lv' := [(6, .int (nI ((kx + ce * xx) % qq))), (5, .int (nI (0))), (0, .ref (b)), (1, .ref (qx)), (2, .ref (qm)), (3, .ref (qo)), (4, .int (nI (5 * j)))]) hx hb d_L_law_546 hl (by decide) rfl (fun ls hl => ?_)
    refine lv_aload_n hx hb d_L_law_548 rfl (lv_at hl 4 rfl) ?_
    refine zV (b := qm) (As := []) (rest := []) ⟨hx, hb, hml, hown, hw⟩ (c_M_thrown l D qm (nI (0)) pp qq gg) OM_B (OM_at hPM hK) (va_recv hK hPM (ci := 1) (q0 := 0) rfl rfl) g_L_62 rfl rfl pd_M_thrown ⟨Nat.le_of_ble_eq_true rfl, Nat.le_of_ble_eq_true rfl⟩ hl.1 rfl (Nat.le_of_ble_eq_true rfl) d_L_law_549 ⟨by show _ ≤ 1035; omega, by show _ ≤ 8248; omega⟩ ?_
    refine W.eq (g2 := F0 m 552 ls [.int (nI (0))]) rfl ?_
    refine lv_iload hx hb d_L_law_552 (lv_at hl 1 rfl) ?_
    refine lv_icmp_eq (tgt := 559) hx hb d_L_law_554 (by decide) (fun _ => ?_) (fun z => absurd (rfl) z)
    refine lv_iload hx hb d_L_law_559 (lv_at hl 1 rfl) ?_
    refine lv_if_ne (tgt := 576) hx hb d_L_law_561 (by decide) (fun z => absurd (rfl) z) (fun _ => ?_)
    refine lv_aload_n hx hb d_L_law_564 rfl (lv_at hl 5 rfl) ?_
    refine lv_iconst (v := nI (0)) hx hb d_L_law_565 (by decide) ?_
    refine va_lald (f := vp_updL f (nI (0)).toNatClampNeg (lN ((kx + ce * xx) % qq))) hx hb hK hPO 0 0 rfl rfl (i := nI (0)) (vp_in_nI (by decide) (by decide)) d_L_law_566 ?_
    refine tL (lN ((kx + ce * xx) % qq)) (pk_uLs) ?_
    refine lv_iload hx hb d_L_law_567 (lv_at hl 0 rfl) ?_
    refine lv_i2l (v := lN ((kx + ce * xx) % qq)) hx hb d_L_law_569 (nI_l (hval)) ?_
    refine W.lcmp hx hb d_L_law_570 ?_
    refine lv_if_eq (tgt := 576) hx hb d_L_law_571 (by decide) (fun _ => ?_) (fun z => absurd ((lg_cmp_eq _ _).mpr (rfl)) z)
    refine lv_goto (tgt := 807) hx hb d_L_law_576 (by decide) ?_
    refine W.widen (by omega) (by omega) (kk (pp) (qq) (gg) (nI (0)) _ _ _ _ ⟨G, hPX, hPM, hPO, hS, lv_sub hl [2, 3, 4, 5, 6] rfl⟩)
  · refine lv_aload_n hx hb d_L_law_499 rfl (lv_at hl 1 rfl) ?_
    refine lv_aload_n hx hb d_L_law_500 rfl (lv_at hl 0 rfl) ?_
    refine lv_iload hx hb d_L_law_501 (lv_at hl 4 rfl) ?_
    refine lv_iconst (v := nI (1)) hx hb d_L_law_503 (by decide) ?_
    refine lv_iadd hx hb d_L_law_504 ?_
    refine tI (nI (5 * j + 1)) (nI_add _ _) ?_
    refine va_sld hx hb hX hbl hbA hS (vp_in_nI (show 5 * j + 1 < Ln by omega) (by omega)) d_L_law_505 ?_
    refine tI (v1) (by rw [nI_clamp (show 5 * j + 1 < 2 ^ 31 by omega)]; exact hv1.symm) ?_
    refine lv_aload_n hx hb d_L_law_506 rfl (lv_at hl 0 rfl) ?_
    refine lv_iload hx hb d_L_law_507 (lv_at hl 4 rfl) ?_
    refine lv_iconst (v := nI (2)) hx hb d_L_law_509 (by decide) ?_
    refine lv_iadd hx hb d_L_law_510 ?_
    refine tI (nI (5 * j + 2)) (nI_add _ _) ?_
    refine va_sld hx hb hX hbl hbA hS (vp_in_nI (show 5 * j + 2 < Ln by omega) (by omega)) d_L_law_511 ?_
    refine tI (v2) (by rw [nI_clamp (show 5 * j + 2 < 2 ^ 31 by omega)]; exact hv2.symm) ?_
    refine lv_aload_n hx hb d_L_law_512 rfl (lv_at hl 0 rfl) ?_
    refine lv_iload hx hb d_L_law_513 (lv_at hl 4 rfl) ?_
    refine lv_iconst (v := nI (3)) hx hb d_L_law_515 (by decide) ?_
    refine lv_iadd hx hb d_L_law_516 ?_
    refine tI (nI (5 * j + 3)) (nI_add _ _) ?_
    refine va_sld hx hb hX hbl hbA hS (vp_in_nI (show 5 * j + 3 < Ln by omega) (by omega)) d_L_law_517 ?_
    refine tI (v3) (by rw [nI_clamp (show 5 * j + 3 < 2 ^ 31 by omega)]; exact hv3.symm) ?_
    refine lv_aload_n hx hb d_L_law_518 rfl (lv_at hl 3 rfl) ?_
    refine zSWn (As := [.ref (qx), .int (v1), .int (v2), .int (v3), .ref (qo)]) (rest := []) ⟨hx, hb, hml, hown, hw⟩ (c_L_answer_bad l hL D qx pp qq gg qo cA f G v1 v2 v3 hok) OL_B (OL_at hPX hPO hK hT hN hold) g_L_84 rfl rfl pd_L_answer ⟨Nat.le_of_ble_eq_true rfl, Nat.le_of_ble_eq_true rfl⟩ hl.1 rfl (Nat.le_of_ble_eq_true rfl) d_L_law_519 ⟨by show _ ≤ 1035; omega, by show _ ≤ 8248; omega⟩ hS (fun H1 hz hk hS => ?_)
    have hPX := P1_kept hPX (hk qx (P1_lt hPX))
    have hPM := P1_kept hPM (hk qm (P1_lt hPM))
    have hPO := P1_kept hPO (hk qo (P1_lt hPO))
    generalize H1 = H at hPX hPM hPO hS ⊢
    have hold : ∀ q : Nat, q < s.heap.size → H[q]? = s.heap[q]? := fun q hq => hS.2.1 q hq (Nat.not_le.mpr hq)
    refine W.eq (g2 := F0 m 522 ls [.int (nI (1))]) rfl ?_
    refine lv_istore (lv' := [(5, .int (nI (1))), (0, .ref (b)), (1, .ref (qx)), (2, .ref (qm)), (3, .ref (qo)), (4, .int (nI (5 * j)))]) hx hb d_L_law_522 hl (by decide) rfl (fun ls hl => ?_)
    refine lv_aload_n hx hb d_L_law_524 rfl (lv_at hl 3 rfl) ?_
    refine lv_aload_n hx hb d_L_law_525 rfl (lv_at hl 1 rfl) ?_
    refine lv_iload hx hb d_L_law_526 (lv_at hl 5 rfl) ?_
    refine lv_iconst (v := nI (1)) hx hb d_L_law_528 (by decide) ?_
    refine lv_iadd hx hb d_L_law_529 ?_
    refine tI (nI (5 * j + 1)) (nI_add _ _) ?_
    refine va_sld hx hb hX hbl hbA hS (vp_in_nI (show 5 * j + 1 < Ln by omega) (by omega)) d_L_law_530 ?_
    refine tI (v1) (by rw [nI_clamp (show 5 * j + 1 < 2 ^ 31 by omega)]; exact hv1.symm) ?_
    refine lv_aload_n hx hb d_L_law_531 rfl (lv_at hl 1 rfl) ?_
    refine lv_iload hx hb d_L_law_532 (lv_at hl 5 rfl) ?_
    refine lv_iconst (v := nI (2)) hx hb d_L_law_534 (by decide) ?_
    refine lv_iadd hx hb d_L_law_535 ?_
    refine tI (nI (5 * j + 2)) (nI_add _ _) ?_
    refine va_sld hx hb hX hbl hbA hS (vp_in_nI (show 5 * j + 2 < Ln by omega) (by omega)) d_L_law_536 ?_
    refine tI (v2) (by rw [nI_clamp (show 5 * j + 2 < 2 ^ 31 by omega)]; exact hv2.symm) ?_
    refine lv_aload_n hx hb d_L_law_537 rfl (lv_at hl 1 rfl) ?_
    refine lv_iload hx hb d_L_law_538 (lv_at hl 5 rfl) ?_
    refine lv_iconst (v := nI (3)) hx hb d_L_law_540 (by decide) ?_
    refine lv_iadd hx hb d_L_law_541 ?_
    refine tI (nI (5 * j + 3)) (nI_add _ _) ?_
    refine va_sld hx hb hX hbl hbA hS (vp_in_nI (show 5 * j + 3 < Ln by omega) (by omega)) d_L_law_542 ?_
    refine tI (v3) (by rw [nI_clamp (show 5 * j + 3 < 2 ^ 31 by omega)]; exact hv3.symm) ?_
    refine zVW (b := qm) (As := [.int (v1), .int (v2), .int (v3)]) (rest := []) ⟨hx, hb, hml, hown, hw⟩ (c_M_answer_bad l D qm er pp qq gg G v1 v2 v3 hok) OM_B (OM_at hPM hK) (va_recv hK hPM (ci := 1) (q0 := 0) rfl rfl) g_L_87 rfl rfl pd_M_answer ⟨Nat.le_of_ble_eq_true rfl, Nat.le_of_ble_eq_true rfl⟩ hl.1 rfl (Nat.le_of_ble_eq_true rfl) d_L_law_543 ⟨by show _ ≤ 1035; omega, by show _ ≤ 8248; omega⟩ hS gm (fun H1 locs hPM hz hk hS => ?_)
    have hPX := P1_kept hPX (hk qx (P1_lt hPX) nxm)
    have hPO := P1_kept hPO (hk qo (P1_lt hPO) (Ne.symm nmo))
    generalize H1 = H at hPX hPM hPO hS ⊢
    have hold : ∀ q : Nat, q < s.heap.size → H[q]? = s.heap[q]? := fun q hq => hS.2.1 q hq (Nat.not_le.mpr hq)
    have hPM : va_P D classes (oM qm (nI (1)) (lN (pp)) (lN (qq)) (lN (gg))) H := hPM
    refine W.eq (g2 := F0 m 546 ls [.int (nI (0))]) rfl ?_
    refine lv_istore (lv' := [(6, .int (nI (0))), (5, .int (nI (1))), (0, .ref (b)), (1, .ref (qx)), (2, .ref (qm)), (3, .ref (qo)), (4, .int (nI (5 * j)))]) hx hb d_L_law_546 hl (by decide) rfl (fun ls hl => ?_)
    refine lv_aload_n hx hb d_L_law_548 rfl (lv_at hl 4 rfl) ?_
    refine zV (b := qm) (As := []) (rest := []) ⟨hx, hb, hml, hown, hw⟩ (c_M_thrown l D qm (nI (1)) pp qq gg) OM_B (OM_at hPM hK) (va_recv hK hPM (ci := 1) (q0 := 0) rfl rfl) g_L_62 rfl rfl pd_M_thrown ⟨Nat.le_of_ble_eq_true rfl, Nat.le_of_ble_eq_true rfl⟩ hl.1 rfl (Nat.le_of_ble_eq_true rfl) d_L_law_549 ⟨by show _ ≤ 1035; omega, by show _ ≤ 8248; omega⟩ ?_
    refine W.eq (g2 := F0 m 552 ls [.int (nI (1))]) rfl ?_
    refine lv_iload hx hb d_L_law_552 (lv_at hl 1 rfl) ?_
    refine lv_icmp_eq (tgt := 559) hx hb d_L_law_554 (by decide) (fun _ => ?_) (fun z => absurd (rfl) z)
    refine lv_iload hx hb d_L_law_559 (lv_at hl 1 rfl) ?_
    refine lv_if_ne (tgt := 576) hx hb d_L_law_561 (by decide) (fun _ => ?_) (fun z => absurd z (by decide))
    refine lv_goto (tgt := 807) hx hb d_L_law_576 (by decide) ?_
    refine W.widen (by omega) (by omega) (kk (pp) (qq) (gg) (nI (1)) _ _ _ _ ⟨G, hPX, hPM, hPO, hS, lv_sub hl [2, 3, 4, 5, 6] rfl⟩)
set_option maxHeartbeats 4000000 in
set_option maxRecDepth 100000 in
theorem law_feign {p : Program} {l : Launch} {e : Env} {s : State} {m : MethodId} {below : List Frame} {meth : Method} {c : Code} {D : va_G} {cA : ClassId} {b Ln qx qm qo : Nat} {xs : Nat → Int32} (C0 : lw_At p s m meth c b Ln xs) (F : LFix l D cA qx qm qo Ln s) (j : Nat) (hj : 5 * j + 5 ≤ Ln)
    (kk : ∀ (pp qq gg : Nat) (er : Int32) (f : Nat → Int64) (H : Heap) (locs : List Loc) (ls : Array Slot), LInv D cA b qx qm qo j s pp qq gg er f H locs ls → W p l e room_1 s m #[Value.ref b] below meth c H locs (3 + j + 1) (8 + 6 * j + 6) (lw_Z below #[Value.ref b] s) (F0 m 807 ls []))
    (pp qq gg : Nat) (er : Int32) (f : Nat → Int64) (H : Heap) (locs : List Loc) (ls : Array Slot) (I0 : LInv D cA b qx qm qo j s pp qq gg er f H locs ls) : W p l e room_1 s m #[Value.ref b] below meth c H locs (3 + j) (8 + 6 * j) (lw_Z below #[Value.ref b] s) (F0 m 579 ls []) := by
  obtain ⟨hx, hb, hr, hml, hown, hts, hX, hbl, hlocks, hgv⟩ := C0
  obtain ⟨hL, hLn, hT, hN, hK, ⟨nxm, nxo, nmo⟩, gx, gm, go⟩ := F
  obtain ⟨G, hPX, hPM, hPO, hS, hl⟩ := I0
  have hw : ∀ w ∈ wall, w.before #[Value.ref b] s = true := fun w h => hts w (List.mem_filter.mp h).1
  have hbA : ¬ (fun q : Nat => s.heap.size ≤ q) b := Nat.not_le.mpr hbl
  have hold : ∀ q : Nat, q < s.heap.size → H[q]? = s.heap[q]? := fun q hq => hS.2.1 q hq (Nat.not_le.mpr hq)
  obtain ⟨v1, hv1⟩ : ∃ v, v = xs (5 * j + 1) := ⟨_, rfl⟩
  obtain ⟨v2, hv2⟩ : ∃ v, v = xs (5 * j + 2) := ⟨_, rfl⟩
  obtain ⟨v3, hv3⟩ : ∃ v, v = xs (5 * j + 3) := ⟨_, rfl⟩
  obtain ⟨v4, hv4⟩ : ∃ v, v = xs (5 * j + 4) := ⟨_, rfl⟩
  have hp5 : 5 ≤ pp := by have := G.1; have := G.2.2.1.1; omega
  have hp := G.2.2.2.2.2.2
  have hq2 : 2 ≤ qq := G.2.2.1.1
  have hq : qq < 2 ^ 31 := by have := G.1; omega
  have hgp : gg < pp := G.2.2.2.2.1
  by_cases hok : mem v1.toInt pp qq ∧ res v2.toInt qq ∧ res v3.toInt qq
  · have hm := hok.1
    obtain ⟨yy, y1, y2, y3, e1, y5, y6⟩ := mem_of hm
    rw [e1] at hm
    obtain ⟨ce, ce1, ce2, e2, ce3⟩ := res_of (hok.2.1)
    obtain ⟨ze, ze1, ze2, e3, ze3⟩ := res_of (hok.2.2)
    have hval : (gg ^ ze % pp) * (yy ^ (qq - ce) % pp) % pp < 2 ^ 31 := Nat.lt_trans (Nat.mod_lt _ (by omega)) hp
    refine lv_aload_n hx hb d_L_law_579 rfl (lv_at hl 1 rfl) ?_
    refine lv_aload_n hx hb d_L_law_580 rfl (lv_at hl 0 rfl) ?_
    refine lv_iload hx hb d_L_law_581 (lv_at hl 4 rfl) ?_
    refine lv_iconst (v := nI (1)) hx hb d_L_law_583 (by decide) ?_
    refine lv_iadd hx hb d_L_law_584 ?_
    refine tI (nI (5 * j + 1)) (nI_add _ _) ?_
    refine va_sld hx hb hX hbl hbA hS (vp_in_nI (show 5 * j + 1 < Ln by omega) (by omega)) d_L_law_585 ?_
    refine tI (nI (yy)) (by rw [nI_clamp (show 5 * j + 1 < 2 ^ 31 by omega), ← hv1, e1]) ?_
    refine lv_aload_n hx hb d_L_law_586 rfl (lv_at hl 0 rfl) ?_
    refine lv_iload hx hb d_L_law_587 (lv_at hl 4 rfl) ?_
    refine lv_iconst (v := nI (2)) hx hb d_L_law_589 (by decide) ?_
    refine lv_iadd hx hb d_L_law_590 ?_
    refine tI (nI (5 * j + 2)) (nI_add _ _) ?_
    refine va_sld hx hb hX hbl hbA hS (vp_in_nI (show 5 * j + 2 < Ln by omega) (by omega)) d_L_law_591 ?_
    refine tI (nI (ce)) (by rw [nI_clamp (show 5 * j + 2 < 2 ^ 31 by omega), ← hv2, e2]) ?_
    refine lv_aload_n hx hb d_L_law_592 rfl (lv_at hl 0 rfl) ?_
    refine lv_iload hx hb d_L_law_593 (lv_at hl 4 rfl) ?_
    refine lv_iconst (v := nI (3)) hx hb d_L_law_595 (by decide) ?_
    refine lv_iadd hx hb d_L_law_596 ?_
    refine tI (nI (5 * j + 3)) (nI_add _ _) ?_
    refine va_sld hx hb hX hbl hbA hS (vp_in_nI (show 5 * j + 3 < Ln by omega) (by omega)) d_L_law_597 ?_
    refine tI (nI (ze)) (by rw [nI_clamp (show 5 * j + 3 < 2 ^ 31 by omega), ← hv3, e3]) ?_
    refine lv_aload_n hx hb d_L_law_598 rfl (lv_at hl 3 rfl) ?_
    refine zSWo (As := [.ref (qx), .int (nI (yy)), .int (nI (ce)), .int (nI (ze)), .ref (qo)]) (rest := []) ⟨hx, hb, hml, hown, hw⟩ (c_L_feign_ok l D qx pp qq gg qo cA f G yy ce ze y2 hm ce1 ze1) OL_B (OL_at hPX hPO hK hT hN hold) g_L_88 rfl rfl pd_L_feign ⟨Nat.le_of_ble_eq_true rfl, Nat.le_of_ble_eq_true rfl⟩ hl.1 rfl (Nat.le_of_ble_eq_true rfl) d_L_law_599 ⟨by show _ ≤ 1035; omega, by show _ ≤ 8248; omega⟩ hS go (fun H1 locs hPO hz hk hS => ?_)
    have hPX := P1_kept hPX (hk qx (P1_lt hPX) nxo)
    have hPM := P1_kept hPM (hk qm (P1_lt hPM) nmo)
    generalize H1 = H at hPX hPM hPO hS ⊢
    have hold : ∀ q : Nat, q < s.heap.size → H[q]? = s.heap[q]? := fun q hq => hS.2.1 q hq (Nat.not_le.mpr hq)
    have hPO : va_P D classes (oA qo cA (vp_updL f (nI (0)).toNatClampNeg (lN ((gg ^ ze % pp) * (yy ^ (qq - ce) % pp) % pp)))) H := hPO
    refine W.eq (g2 := F0 m 602 ls [.int (nI (0))]) rfl ?_
    refine lv_istore (lv' := [(5, .int (nI (0))), (0, .ref (b)), (1, .ref (qx)), (2, .ref (qm)), (3, .ref (qo)), (4, .int (nI (5 * j)))]) hx hb d_L_law_602 hl (by decide) rfl (fun ls hl => ?_)
    refine lv_aload_n hx hb d_L_law_604 rfl (lv_at hl 3 rfl) ?_
    refine lv_aload_n hx hb d_L_law_605 rfl (lv_at hl 1 rfl) ?_
    refine lv_iload hx hb d_L_law_606 (lv_at hl 5 rfl) ?_
    refine lv_iconst (v := nI (1)) hx hb d_L_law_608 (by decide) ?_
    refine lv_iadd hx hb d_L_law_609 ?_
    refine tI (nI (5 * j + 1)) (nI_add _ _) ?_
    refine va_sld hx hb hX hbl hbA hS (vp_in_nI (show 5 * j + 1 < Ln by omega) (by omega)) d_L_law_610 ?_
    refine tI (nI (yy)) (by rw [nI_clamp (show 5 * j + 1 < 2 ^ 31 by omega), ← hv1, e1]) ?_
    refine lv_aload_n hx hb d_L_law_611 rfl (lv_at hl 1 rfl) ?_
    refine lv_iload hx hb d_L_law_612 (lv_at hl 5 rfl) ?_
    refine lv_iconst (v := nI (2)) hx hb d_L_law_614 (by decide) ?_
    refine lv_iadd hx hb d_L_law_615 ?_
    refine tI (nI (5 * j + 2)) (nI_add _ _) ?_
    refine va_sld hx hb hX hbl hbA hS (vp_in_nI (show 5 * j + 2 < Ln by omega) (by omega)) d_L_law_616 ?_
    refine tI (nI (ce)) (by rw [nI_clamp (show 5 * j + 2 < 2 ^ 31 by omega), ← hv2, e2]) ?_
    refine lv_aload_n hx hb d_L_law_617 rfl (lv_at hl 1 rfl) ?_
    refine lv_iload hx hb d_L_law_618 (lv_at hl 5 rfl) ?_
    refine lv_iconst (v := nI (3)) hx hb d_L_law_620 (by decide) ?_
    refine lv_iadd hx hb d_L_law_621 ?_
    refine tI (nI (5 * j + 3)) (nI_add _ _) ?_
    refine va_sld hx hb hX hbl hbA hS (vp_in_nI (show 5 * j + 3 < Ln by omega) (by omega)) d_L_law_622 ?_
    refine tI (nI (ze)) (by rw [nI_clamp (show 5 * j + 3 < 2 ^ 31 by omega), ← hv3, e3]) ?_
    refine zVW (b := qm) (As := [.int (nI (yy)), .int (nI (ce)), .int (nI (ze))]) (rest := []) ⟨hx, hb, hml, hown, hw⟩ (c_M_feign_ok l D qm er pp qq gg G yy ce ze y2 hm ce1 ze1) OM_B (OM_at hPM hK) (va_recv hK hPM (ci := 1) (q0 := 0) rfl rfl) g_L_90 rfl rfl pd_M_feign ⟨Nat.le_of_ble_eq_true rfl, Nat.le_of_ble_eq_true rfl⟩ hl.1 rfl (Nat.le_of_ble_eq_true rfl) d_L_law_623 ⟨by show _ ≤ 1035; omega, by show _ ≤ 8248; omega⟩ hS gm (fun H1 locs hPM hz hk hS => ?_)
    have hPX := P1_kept hPX (hk qx (P1_lt hPX) nxm)
    have hPO := P1_kept hPO (hk qo (P1_lt hPO) (Ne.symm nmo))
    generalize H1 = H at hPX hPM hPO hS ⊢
    have hold : ∀ q : Nat, q < s.heap.size → H[q]? = s.heap[q]? := fun q hq => hS.2.1 q hq (Nat.not_le.mpr hq)
    have hPM : va_P D classes (oM qm (nI (0)) (lN (pp)) (lN (qq)) (lN (gg))) H := hPM
    refine W.eq (g2 := F0 m 626 ls [.int (nI ((gg ^ ze % pp) * (yy ^ (qq - ce) % pp) % pp))]) rfl ?_
    refine lv_istore (lv' := [(6, .int (nI ((gg ^ ze % pp) * (yy ^ (qq - ce) % pp) % pp))), (5, .int (nI (0))), (0, .ref (b)), (1, .ref (qx)), (2, .ref (qm)), (3, .ref (qo)), (4, .int (nI (5 * j)))]) hx hb d_L_law_626 hl (by decide) rfl (fun ls hl => ?_)
    refine lv_aload_n hx hb d_L_law_628 rfl (lv_at hl 4 rfl) ?_
    refine zV (b := qm) (As := []) (rest := []) ⟨hx, hb, hml, hown, hw⟩ (c_M_thrown l D qm (nI (0)) pp qq gg) OM_B (OM_at hPM hK) (va_recv hK hPM (ci := 1) (q0 := 0) rfl rfl) g_L_62 rfl rfl pd_M_thrown ⟨Nat.le_of_ble_eq_true rfl, Nat.le_of_ble_eq_true rfl⟩ hl.1 rfl (Nat.le_of_ble_eq_true rfl) d_L_law_629 ⟨by show _ ≤ 1035; omega, by show _ ≤ 8248; omega⟩ ?_
    refine W.eq (g2 := F0 m 632 ls [.int (nI (0))]) rfl ?_
    refine lv_iload hx hb d_L_law_632 (lv_at hl 1 rfl) ?_
    refine lv_icmp_eq (tgt := 639) hx hb d_L_law_634 (by decide) (fun _ => ?_) (fun z => absurd (rfl) z)
    refine lv_iload hx hb d_L_law_639 (lv_at hl 1 rfl) ?_
    refine lv_if_ne (tgt := 656) hx hb d_L_law_641 (by decide) (fun z => absurd (rfl) z) (fun _ => ?_)
    refine lv_aload_n hx hb d_L_law_644 rfl (lv_at hl 5 rfl) ?_
    refine lv_iconst (v := nI (0)) hx hb d_L_law_645 (by decide) ?_
    refine va_lald (f := vp_updL f (nI (0)).toNatClampNeg (lN ((gg ^ ze % pp) * (yy ^ (qq - ce) % pp) % pp))) hx hb hK hPO 0 0 rfl rfl (i := nI (0)) (vp_in_nI (by decide) (by decide)) d_L_law_646 ?_
    refine tL (lN ((gg ^ ze % pp) * (yy ^ (qq - ce) % pp) % pp)) (pk_uLs) ?_
    refine lv_iload hx hb d_L_law_647 (lv_at hl 0 rfl) ?_
    refine lv_i2l (v := lN ((gg ^ ze % pp) * (yy ^ (qq - ce) % pp) % pp)) hx hb d_L_law_649 (nI_l (hval)) ?_
    refine W.lcmp hx hb d_L_law_650 ?_
    refine lv_if_eq (tgt := 656) hx hb d_L_law_651 (by decide) (fun _ => ?_) (fun z => absurd ((lg_cmp_eq _ _).mpr (rfl)) z)
    refine lv_goto (tgt := 807) hx hb d_L_law_656 (by decide) ?_
    refine W.widen (by omega) (by omega) (kk (pp) (qq) (gg) (nI (0)) _ _ _ _ ⟨G, hPX, hPM, hPO, hS, lv_sub hl [2, 3, 4, 5, 6] rfl⟩)
  · refine lv_aload_n hx hb d_L_law_579 rfl (lv_at hl 1 rfl) ?_
    refine lv_aload_n hx hb d_L_law_580 rfl (lv_at hl 0 rfl) ?_
    refine lv_iload hx hb d_L_law_581 (lv_at hl 4 rfl) ?_
    refine lv_iconst (v := nI (1)) hx hb d_L_law_583 (by decide) ?_
    refine lv_iadd hx hb d_L_law_584 ?_
    refine tI (nI (5 * j + 1)) (nI_add _ _) ?_
    refine va_sld hx hb hX hbl hbA hS (vp_in_nI (show 5 * j + 1 < Ln by omega) (by omega)) d_L_law_585 ?_
    refine tI (v1) (by rw [nI_clamp (show 5 * j + 1 < 2 ^ 31 by omega)]; exact hv1.symm) ?_
    refine lv_aload_n hx hb d_L_law_586 rfl (lv_at hl 0 rfl) ?_
    refine lv_iload hx hb d_L_law_587 (lv_at hl 4 rfl) ?_
    refine lv_iconst (v := nI (2)) hx hb d_L_law_589 (by decide) ?_
    refine lv_iadd hx hb d_L_law_590 ?_
    refine tI (nI (5 * j + 2)) (nI_add _ _) ?_
    refine va_sld hx hb hX hbl hbA hS (vp_in_nI (show 5 * j + 2 < Ln by omega) (by omega)) d_L_law_591 ?_
    refine tI (v2) (by rw [nI_clamp (show 5 * j + 2 < 2 ^ 31 by omega)]; exact hv2.symm) ?_
    refine lv_aload_n hx hb d_L_law_592 rfl (lv_at hl 0 rfl) ?_
    refine lv_iload hx hb d_L_law_593 (lv_at hl 4 rfl) ?_
    refine lv_iconst (v := nI (3)) hx hb d_L_law_595 (by decide) ?_
    refine lv_iadd hx hb d_L_law_596 ?_
    refine tI (nI (5 * j + 3)) (nI_add _ _) ?_
    refine va_sld hx hb hX hbl hbA hS (vp_in_nI (show 5 * j + 3 < Ln by omega) (by omega)) d_L_law_597 ?_
    refine tI (v3) (by rw [nI_clamp (show 5 * j + 3 < 2 ^ 31 by omega)]; exact hv3.symm) ?_
    refine lv_aload_n hx hb d_L_law_598 rfl (lv_at hl 3 rfl) ?_
    refine zSWn (As := [.ref (qx), .int (v1), .int (v2), .int (v3), .ref (qo)]) (rest := []) ⟨hx, hb, hml, hown, hw⟩ (c_L_feign_bad l hL D qx pp qq gg qo cA f G v1 v2 v3 hok) OL_B (OL_at hPX hPO hK hT hN hold) g_L_88 rfl rfl pd_L_feign ⟨Nat.le_of_ble_eq_true rfl, Nat.le_of_ble_eq_true rfl⟩ hl.1 rfl (Nat.le_of_ble_eq_true rfl) d_L_law_599 ⟨by show _ ≤ 1035; omega, by show _ ≤ 8248; omega⟩ hS (fun H1 hz hk hS => ?_)
    have hPX := P1_kept hPX (hk qx (P1_lt hPX))
    have hPM := P1_kept hPM (hk qm (P1_lt hPM))
    have hPO := P1_kept hPO (hk qo (P1_lt hPO))
    generalize H1 = H at hPX hPM hPO hS ⊢
    have hold : ∀ q : Nat, q < s.heap.size → H[q]? = s.heap[q]? := fun q hq => hS.2.1 q hq (Nat.not_le.mpr hq)
    refine W.eq (g2 := F0 m 602 ls [.int (nI (1))]) rfl ?_
    refine lv_istore (lv' := [(5, .int (nI (1))), (0, .ref (b)), (1, .ref (qx)), (2, .ref (qm)), (3, .ref (qo)), (4, .int (nI (5 * j)))]) hx hb d_L_law_602 hl (by decide) rfl (fun ls hl => ?_)
    refine lv_aload_n hx hb d_L_law_604 rfl (lv_at hl 3 rfl) ?_
    refine lv_aload_n hx hb d_L_law_605 rfl (lv_at hl 1 rfl) ?_
    refine lv_iload hx hb d_L_law_606 (lv_at hl 5 rfl) ?_
    refine lv_iconst (v := nI (1)) hx hb d_L_law_608 (by decide) ?_
    refine lv_iadd hx hb d_L_law_609 ?_
    refine tI (nI (5 * j + 1)) (nI_add _ _) ?_
    refine va_sld hx hb hX hbl hbA hS (vp_in_nI (show 5 * j + 1 < Ln by omega) (by omega)) d_L_law_610 ?_
    refine tI (v1) (by rw [nI_clamp (show 5 * j + 1 < 2 ^ 31 by omega)]; exact hv1.symm) ?_
    refine lv_aload_n hx hb d_L_law_611 rfl (lv_at hl 1 rfl) ?_
    refine lv_iload hx hb d_L_law_612 (lv_at hl 5 rfl) ?_
    refine lv_iconst (v := nI (2)) hx hb d_L_law_614 (by decide) ?_
    refine lv_iadd hx hb d_L_law_615 ?_
    refine tI (nI (5 * j + 2)) (nI_add _ _) ?_
    refine va_sld hx hb hX hbl hbA hS (vp_in_nI (show 5 * j + 2 < Ln by omega) (by omega)) d_L_law_616 ?_
    refine tI (v2) (by rw [nI_clamp (show 5 * j + 2 < 2 ^ 31 by omega)]; exact hv2.symm) ?_
    refine lv_aload_n hx hb d_L_law_617 rfl (lv_at hl 1 rfl) ?_
    refine lv_iload hx hb d_L_law_618 (lv_at hl 5 rfl) ?_
    refine lv_iconst (v := nI (3)) hx hb d_L_law_620 (by decide) ?_
    refine lv_iadd hx hb d_L_law_621 ?_
    refine tI (nI (5 * j + 3)) (nI_add _ _) ?_
    refine va_sld hx hb hX hbl hbA hS (vp_in_nI (show 5 * j + 3 < Ln by omega) (by omega)) d_L_law_622 ?_
    refine tI (v3) (by rw [nI_clamp (show 5 * j + 3 < 2 ^ 31 by omega)]; exact hv3.symm) ?_
    refine zVW (b := qm) (As := [.int (v1), .int (v2), .int (v3)]) (rest := []) ⟨hx, hb, hml, hown, hw⟩ (c_M_feign_bad l D qm er pp qq gg G v1 v2 v3 hok) OM_B (OM_at hPM hK) (va_recv hK hPM (ci := 1) (q0 := 0) rfl rfl) g_L_90 rfl rfl pd_M_feign ⟨Nat.le_of_ble_eq_true rfl, Nat.le_of_ble_eq_true rfl⟩ hl.1 rfl (Nat.le_of_ble_eq_true rfl) d_L_law_623 ⟨by show _ ≤ 1035; omega, by show _ ≤ 8248; omega⟩ hS gm (fun H1 locs hPM hz hk hS => ?_)
    have hPX := P1_kept hPX (hk qx (P1_lt hPX) nxm)
    have hPO := P1_kept hPO (hk qo (P1_lt hPO) (Ne.symm nmo))
    generalize H1 = H at hPX hPM hPO hS ⊢
    have hold : ∀ q : Nat, q < s.heap.size → H[q]? = s.heap[q]? := fun q hq => hS.2.1 q hq (Nat.not_le.mpr hq)
    have hPM : va_P D classes (oM qm (nI (1)) (lN (pp)) (lN (qq)) (lN (gg))) H := hPM
    refine W.eq (g2 := F0 m 626 ls [.int (nI (0))]) rfl ?_
    refine lv_istore (lv' := [(6, .int (nI (0))), (5, .int (nI (1))), (0, .ref (b)), (1, .ref (qx)), (2, .ref (qm)), (3, .ref (qo)), (4, .int (nI (5 * j)))]) hx hb d_L_law_626 hl (by decide) rfl (fun ls hl => ?_)
    refine lv_aload_n hx hb d_L_law_628 rfl (lv_at hl 4 rfl) ?_
    refine zV (b := qm) (As := []) (rest := []) ⟨hx, hb, hml, hown, hw⟩ (c_M_thrown l D qm (nI (1)) pp qq gg) OM_B (OM_at hPM hK) (va_recv hK hPM (ci := 1) (q0 := 0) rfl rfl) g_L_62 rfl rfl pd_M_thrown ⟨Nat.le_of_ble_eq_true rfl, Nat.le_of_ble_eq_true rfl⟩ hl.1 rfl (Nat.le_of_ble_eq_true rfl) d_L_law_629 ⟨by show _ ≤ 1035; omega, by show _ ≤ 8248; omega⟩ ?_
    refine W.eq (g2 := F0 m 632 ls [.int (nI (1))]) rfl ?_
    refine lv_iload hx hb d_L_law_632 (lv_at hl 1 rfl) ?_
    refine lv_icmp_eq (tgt := 639) hx hb d_L_law_634 (by decide) (fun _ => ?_) (fun z => absurd (rfl) z)
    refine lv_iload hx hb d_L_law_639 (lv_at hl 1 rfl) ?_
    refine lv_if_ne (tgt := 656) hx hb d_L_law_641 (by decide) (fun _ => ?_) (fun z => absurd z (by decide))
    refine lv_goto (tgt := 807) hx hb d_L_law_656 (by decide) ?_
    refine W.widen (by omega) (by omega) (kk (pp) (qq) (gg) (nI (1)) _ _ _ _ ⟨G, hPX, hPM, hPO, hS, lv_sub hl [2, 3, 4, 5, 6] rfl⟩)
set_option maxHeartbeats 4000000 in
set_option maxRecDepth 100000 in
theorem law_secret {p : Program} {l : Launch} {e : Env} {s : State} {m : MethodId} {below : List Frame} {meth : Method} {c : Code} {D : va_G} {cA : ClassId} {b Ln qx qm qo : Nat} {xs : Nat → Int32} (C0 : lw_At p s m meth c b Ln xs) (F : LFix l D cA qx qm qo Ln s) (j : Nat) (hj : 5 * j + 5 ≤ Ln)
    (kk : ∀ (pp qq gg : Nat) (er : Int32) (f : Nat → Int64) (H : Heap) (locs : List Loc) (ls : Array Slot), LInv D cA b qx qm qo j s pp qq gg er f H locs ls → W p l e room_1 s m #[Value.ref b] below meth c H locs (3 + j + 1) (8 + 6 * j + 6) (lw_Z below #[Value.ref b] s) (F0 m 807 ls []))
    (pp qq gg : Nat) (er : Int32) (f : Nat → Int64) (H : Heap) (locs : List Loc) (ls : Array Slot) (I0 : LInv D cA b qx qm qo j s pp qq gg er f H locs ls) : W p l e room_1 s m #[Value.ref b] below meth c H locs (3 + j) (8 + 6 * j) (lw_Z below #[Value.ref b] s) (F0 m 659 ls []) := by
  obtain ⟨hx, hb, hr, hml, hown, hts, hX, hbl, hlocks, hgv⟩ := C0
  obtain ⟨hL, hLn, hT, hN, hK, ⟨nxm, nxo, nmo⟩, gx, gm, go⟩ := F
  obtain ⟨G, hPX, hPM, hPO, hS, hl⟩ := I0
  have hw : ∀ w ∈ wall, w.before #[Value.ref b] s = true := fun w h => hts w (List.mem_filter.mp h).1
  have hbA : ¬ (fun q : Nat => s.heap.size ≤ q) b := Nat.not_le.mpr hbl
  have hold : ∀ q : Nat, q < s.heap.size → H[q]? = s.heap[q]? := fun q hq => hS.2.1 q hq (Nat.not_le.mpr hq)
  obtain ⟨v1, hv1⟩ : ∃ v, v = xs (5 * j + 1) := ⟨_, rfl⟩
  obtain ⟨v2, hv2⟩ : ∃ v, v = xs (5 * j + 2) := ⟨_, rfl⟩
  obtain ⟨v3, hv3⟩ : ∃ v, v = xs (5 * j + 3) := ⟨_, rfl⟩
  obtain ⟨v4, hv4⟩ : ∃ v, v = xs (5 * j + 4) := ⟨_, rfl⟩
  have hp5 : 5 ≤ pp := by have := G.1; have := G.2.2.1.1; omega
  have hp := G.2.2.2.2.2.2
  have hq2 : 2 ≤ qq := G.2.2.1.1
  have hq : qq < 2 ^ 31 := by have := G.1; omega
  have hgp : gg < pp := G.2.2.2.2.1
  by_cases hok : res v1.toInt qq ∧ res v2.toInt qq ∧ res v3.toInt qq ∧ res v4.toInt qq ∧ v1 ≠ v3
  · obtain ⟨ce, ce1, ce2, e1, ce3⟩ := res_of (hok.1)
    obtain ⟨ze, ze1, ze2, e2, ze3⟩ := res_of (hok.2.1)
    obtain ⟨de, de1, de2, e3, de3⟩ := res_of (hok.2.2.1)
    obtain ⟨we, we1, we2, e4, we3⟩ := res_of (hok.2.2.2.1)
    have hne : ce ≠ de := fun z => hok.2.2.2.2 (by rw [e1, e3, z])
    have hval : (ze + qq - we) % qq * (((ce + qq - de) % qq) ^ (qq - 2) % qq) % qq < 2 ^ 31 := Nat.lt_trans (Nat.mod_lt _ (by omega)) hq
    refine lv_aload_n hx hb d_L_law_659 rfl (lv_at hl 1 rfl) ?_
    refine lv_aload_n hx hb d_L_law_660 rfl (lv_at hl 0 rfl) ?_
    refine lv_iload hx hb d_L_law_661 (lv_at hl 4 rfl) ?_
    refine lv_iconst (v := nI (1)) hx hb d_L_law_663 (by decide) ?_
    refine lv_iadd hx hb d_L_law_664 ?_
    refine tI (nI (5 * j + 1)) (nI_add _ _) ?_
    refine va_sld hx hb hX hbl hbA hS (vp_in_nI (show 5 * j + 1 < Ln by omega) (by omega)) d_L_law_665 ?_
    refine tI (nI (ce)) (by rw [nI_clamp (show 5 * j + 1 < 2 ^ 31 by omega), ← hv1, e1]) ?_
    refine lv_aload_n hx hb d_L_law_666 rfl (lv_at hl 0 rfl) ?_
    refine lv_iload hx hb d_L_law_667 (lv_at hl 4 rfl) ?_
    refine lv_iconst (v := nI (2)) hx hb d_L_law_669 (by decide) ?_
    refine lv_iadd hx hb d_L_law_670 ?_
    refine tI (nI (5 * j + 2)) (nI_add _ _) ?_
    refine va_sld hx hb hX hbl hbA hS (vp_in_nI (show 5 * j + 2 < Ln by omega) (by omega)) d_L_law_671 ?_
    refine tI (nI (ze)) (by rw [nI_clamp (show 5 * j + 2 < 2 ^ 31 by omega), ← hv2, e2]) ?_
    refine lv_aload_n hx hb d_L_law_672 rfl (lv_at hl 0 rfl) ?_
    refine lv_iload hx hb d_L_law_673 (lv_at hl 4 rfl) ?_
    refine lv_iconst (v := nI (3)) hx hb d_L_law_675 (by decide) ?_
    refine lv_iadd hx hb d_L_law_676 ?_
    refine tI (nI (5 * j + 3)) (nI_add _ _) ?_
    refine va_sld hx hb hX hbl hbA hS (vp_in_nI (show 5 * j + 3 < Ln by omega) (by omega)) d_L_law_677 ?_
    refine tI (nI (de)) (by rw [nI_clamp (show 5 * j + 3 < 2 ^ 31 by omega), ← hv3, e3]) ?_
    refine lv_aload_n hx hb d_L_law_678 rfl (lv_at hl 0 rfl) ?_
    refine lv_iload hx hb d_L_law_679 (lv_at hl 4 rfl) ?_
    refine lv_iconst (v := nI (4)) hx hb d_L_law_681 (by decide) ?_
    refine lv_iadd hx hb d_L_law_682 ?_
    refine tI (nI (5 * j + 4)) (nI_add _ _) ?_
    refine va_sld hx hb hX hbl hbA hS (vp_in_nI (show 5 * j + 4 < Ln by omega) (by omega)) d_L_law_683 ?_
    refine tI (nI (we)) (by rw [nI_clamp (show 5 * j + 4 < 2 ^ 31 by omega), ← hv4, e4]) ?_
    refine lv_aload_n hx hb d_L_law_684 rfl (lv_at hl 3 rfl) ?_
    refine zSWo (As := [.ref (qx), .int (nI (ce)), .int (nI (ze)), .int (nI (de)), .int (nI (we)), .ref (qo)]) (rest := []) ⟨hx, hb, hml, hown, hw⟩ (c_L_secret_ok l D qx pp qq gg qo cA f G ce ze de we ce1 ze1 de1 we1 hne) OL_B (OL_at hPX hPO hK hT hN hold) g_L_91 rfl rfl pd_L_secret ⟨Nat.le_of_ble_eq_true rfl, Nat.le_of_ble_eq_true rfl⟩ hl.1 rfl (Nat.le_of_ble_eq_true rfl) d_L_law_685 ⟨by show _ ≤ 1035; omega, by show _ ≤ 8248; omega⟩ hS go (fun H1 locs hPO hz hk hS => ?_)
    have hPX := P1_kept hPX (hk qx (P1_lt hPX) nxo)
    have hPM := P1_kept hPM (hk qm (P1_lt hPM) nmo)
    generalize H1 = H at hPX hPM hPO hS ⊢
    have hold : ∀ q : Nat, q < s.heap.size → H[q]? = s.heap[q]? := fun q hq => hS.2.1 q hq (Nat.not_le.mpr hq)
    have hPO : va_P D classes (oA qo cA (vp_updL f (nI (0)).toNatClampNeg (lN ((ze + qq - we) % qq * (((ce + qq - de) % qq) ^ (qq - 2) % qq) % qq)))) H := hPO
    refine W.eq (g2 := F0 m 688 ls [.int (nI (0))]) rfl ?_
    refine lv_istore (lv' := [(5, .int (nI (0))), (0, .ref (b)), (1, .ref (qx)), (2, .ref (qm)), (3, .ref (qo)), (4, .int (nI (5 * j)))]) hx hb d_L_law_688 hl (by decide) rfl (fun ls hl => ?_)
    refine lv_aload_n hx hb d_L_law_690 rfl (lv_at hl 3 rfl) ?_
    refine lv_aload_n hx hb d_L_law_691 rfl (lv_at hl 1 rfl) ?_
    refine lv_iload hx hb d_L_law_692 (lv_at hl 5 rfl) ?_
    refine lv_iconst (v := nI (1)) hx hb d_L_law_694 (by decide) ?_
    refine lv_iadd hx hb d_L_law_695 ?_
    refine tI (nI (5 * j + 1)) (nI_add _ _) ?_
    refine va_sld hx hb hX hbl hbA hS (vp_in_nI (show 5 * j + 1 < Ln by omega) (by omega)) d_L_law_696 ?_
    refine tI (nI (ce)) (by rw [nI_clamp (show 5 * j + 1 < 2 ^ 31 by omega), ← hv1, e1]) ?_
    refine lv_aload_n hx hb d_L_law_697 rfl (lv_at hl 1 rfl) ?_
    refine lv_iload hx hb d_L_law_698 (lv_at hl 5 rfl) ?_
    refine lv_iconst (v := nI (2)) hx hb d_L_law_700 (by decide) ?_
    refine lv_iadd hx hb d_L_law_701 ?_
    refine tI (nI (5 * j + 2)) (nI_add _ _) ?_
    refine va_sld hx hb hX hbl hbA hS (vp_in_nI (show 5 * j + 2 < Ln by omega) (by omega)) d_L_law_702 ?_
    refine tI (nI (ze)) (by rw [nI_clamp (show 5 * j + 2 < 2 ^ 31 by omega), ← hv2, e2]) ?_
    refine lv_aload_n hx hb d_L_law_703 rfl (lv_at hl 1 rfl) ?_
    refine lv_iload hx hb d_L_law_704 (lv_at hl 5 rfl) ?_
    refine lv_iconst (v := nI (3)) hx hb d_L_law_706 (by decide) ?_
    refine lv_iadd hx hb d_L_law_707 ?_
    refine tI (nI (5 * j + 3)) (nI_add _ _) ?_
    refine va_sld hx hb hX hbl hbA hS (vp_in_nI (show 5 * j + 3 < Ln by omega) (by omega)) d_L_law_708 ?_
    refine tI (nI (de)) (by rw [nI_clamp (show 5 * j + 3 < 2 ^ 31 by omega), ← hv3, e3]) ?_
    refine lv_aload_n hx hb d_L_law_709 rfl (lv_at hl 1 rfl) ?_
    refine lv_iload hx hb d_L_law_710 (lv_at hl 5 rfl) ?_
    refine lv_iconst (v := nI (4)) hx hb d_L_law_712 (by decide) ?_
    refine lv_iadd hx hb d_L_law_713 ?_
    refine tI (nI (5 * j + 4)) (nI_add _ _) ?_
    refine va_sld hx hb hX hbl hbA hS (vp_in_nI (show 5 * j + 4 < Ln by omega) (by omega)) d_L_law_714 ?_
    refine tI (nI (we)) (by rw [nI_clamp (show 5 * j + 4 < 2 ^ 31 by omega), ← hv4, e4]) ?_
    refine zVW (b := qm) (As := [.int (nI (ce)), .int (nI (ze)), .int (nI (de)), .int (nI (we))]) (rest := []) ⟨hx, hb, hml, hown, hw⟩ (c_M_secret_ok l D qm er pp qq gg G ce ze de we ce1 ze1 de1 we1 hne) OM_B (OM_at hPM hK) (va_recv hK hPM (ci := 1) (q0 := 0) rfl rfl) g_L_94 rfl rfl pd_M_secret ⟨Nat.le_of_ble_eq_true rfl, Nat.le_of_ble_eq_true rfl⟩ hl.1 rfl (Nat.le_of_ble_eq_true rfl) d_L_law_715 ⟨by show _ ≤ 1035; omega, by show _ ≤ 8248; omega⟩ hS gm (fun H1 locs hPM hz hk hS => ?_)
    have hPX := P1_kept hPX (hk qx (P1_lt hPX) nxm)
    have hPO := P1_kept hPO (hk qo (P1_lt hPO) (Ne.symm nmo))
    generalize H1 = H at hPX hPM hPO hS ⊢
    have hold : ∀ q : Nat, q < s.heap.size → H[q]? = s.heap[q]? := fun q hq => hS.2.1 q hq (Nat.not_le.mpr hq)
    have hPM : va_P D classes (oM qm (nI (0)) (lN (pp)) (lN (qq)) (lN (gg))) H := hPM
    refine W.eq (g2 := F0 m 718 ls [.int (nI ((ze + qq - we) % qq * (((ce + qq - de) % qq) ^ (qq - 2) % qq) % qq))]) rfl ?_
    refine lv_istore (lv' := [(6, .int (nI ((ze + qq - we) % qq * (((ce + qq - de) % qq) ^ (qq - 2) % qq) % qq))), (5, .int (nI (0))), (0, .ref (b)), (1, .ref (qx)), (2, .ref (qm)), (3, .ref (qo)), (4, .int (nI (5 * j)))]) hx hb d_L_law_718 hl (by decide) rfl (fun ls hl => ?_)
    refine lv_aload_n hx hb d_L_law_720 rfl (lv_at hl 4 rfl) ?_
    refine zV (b := qm) (As := []) (rest := []) ⟨hx, hb, hml, hown, hw⟩ (c_M_thrown l D qm (nI (0)) pp qq gg) OM_B (OM_at hPM hK) (va_recv hK hPM (ci := 1) (q0 := 0) rfl rfl) g_L_62 rfl rfl pd_M_thrown ⟨Nat.le_of_ble_eq_true rfl, Nat.le_of_ble_eq_true rfl⟩ hl.1 rfl (Nat.le_of_ble_eq_true rfl) d_L_law_721 ⟨by show _ ≤ 1035; omega, by show _ ≤ 8248; omega⟩ ?_
    refine W.eq (g2 := F0 m 724 ls [.int (nI (0))]) rfl ?_
    refine lv_iload hx hb d_L_law_724 (lv_at hl 1 rfl) ?_
    refine lv_icmp_eq (tgt := 731) hx hb d_L_law_726 (by decide) (fun _ => ?_) (fun z => absurd (rfl) z)
    refine lv_iload hx hb d_L_law_731 (lv_at hl 1 rfl) ?_
    refine lv_if_ne (tgt := 748) hx hb d_L_law_733 (by decide) (fun z => absurd (rfl) z) (fun _ => ?_)
    refine lv_aload_n hx hb d_L_law_736 rfl (lv_at hl 5 rfl) ?_
    refine lv_iconst (v := nI (0)) hx hb d_L_law_737 (by decide) ?_
    refine va_lald (f := vp_updL f (nI (0)).toNatClampNeg (lN ((ze + qq - we) % qq * (((ce + qq - de) % qq) ^ (qq - 2) % qq) % qq))) hx hb hK hPO 0 0 rfl rfl (i := nI (0)) (vp_in_nI (by decide) (by decide)) d_L_law_738 ?_
    refine tL (lN ((ze + qq - we) % qq * (((ce + qq - de) % qq) ^ (qq - 2) % qq) % qq)) (pk_uLs) ?_
    refine lv_iload hx hb d_L_law_739 (lv_at hl 0 rfl) ?_
    refine lv_i2l (v := lN ((ze + qq - we) % qq * (((ce + qq - de) % qq) ^ (qq - 2) % qq) % qq)) hx hb d_L_law_741 (nI_l (hval)) ?_
    refine W.lcmp hx hb d_L_law_742 ?_
    refine lv_if_eq (tgt := 748) hx hb d_L_law_743 (by decide) (fun _ => ?_) (fun z => absurd ((lg_cmp_eq _ _).mpr (rfl)) z)
    refine lv_goto (tgt := 807) hx hb d_L_law_748 (by decide) ?_
    refine W.widen (by omega) (by omega) (kk (pp) (qq) (gg) (nI (0)) _ _ _ _ ⟨G, hPX, hPM, hPO, hS, lv_sub hl [2, 3, 4, 5, 6] rfl⟩)
  · refine lv_aload_n hx hb d_L_law_659 rfl (lv_at hl 1 rfl) ?_
    refine lv_aload_n hx hb d_L_law_660 rfl (lv_at hl 0 rfl) ?_
    refine lv_iload hx hb d_L_law_661 (lv_at hl 4 rfl) ?_
    refine lv_iconst (v := nI (1)) hx hb d_L_law_663 (by decide) ?_
    refine lv_iadd hx hb d_L_law_664 ?_
    refine tI (nI (5 * j + 1)) (nI_add _ _) ?_
    refine va_sld hx hb hX hbl hbA hS (vp_in_nI (show 5 * j + 1 < Ln by omega) (by omega)) d_L_law_665 ?_
    refine tI (v1) (by rw [nI_clamp (show 5 * j + 1 < 2 ^ 31 by omega)]; exact hv1.symm) ?_
    refine lv_aload_n hx hb d_L_law_666 rfl (lv_at hl 0 rfl) ?_
    refine lv_iload hx hb d_L_law_667 (lv_at hl 4 rfl) ?_
    refine lv_iconst (v := nI (2)) hx hb d_L_law_669 (by decide) ?_
    refine lv_iadd hx hb d_L_law_670 ?_
    refine tI (nI (5 * j + 2)) (nI_add _ _) ?_
    refine va_sld hx hb hX hbl hbA hS (vp_in_nI (show 5 * j + 2 < Ln by omega) (by omega)) d_L_law_671 ?_
    refine tI (v2) (by rw [nI_clamp (show 5 * j + 2 < 2 ^ 31 by omega)]; exact hv2.symm) ?_
    refine lv_aload_n hx hb d_L_law_672 rfl (lv_at hl 0 rfl) ?_
    refine lv_iload hx hb d_L_law_673 (lv_at hl 4 rfl) ?_
    refine lv_iconst (v := nI (3)) hx hb d_L_law_675 (by decide) ?_
    refine lv_iadd hx hb d_L_law_676 ?_
    refine tI (nI (5 * j + 3)) (nI_add _ _) ?_
    refine va_sld hx hb hX hbl hbA hS (vp_in_nI (show 5 * j + 3 < Ln by omega) (by omega)) d_L_law_677 ?_
    refine tI (v3) (by rw [nI_clamp (show 5 * j + 3 < 2 ^ 31 by omega)]; exact hv3.symm) ?_
    refine lv_aload_n hx hb d_L_law_678 rfl (lv_at hl 0 rfl) ?_
    refine lv_iload hx hb d_L_law_679 (lv_at hl 4 rfl) ?_
    refine lv_iconst (v := nI (4)) hx hb d_L_law_681 (by decide) ?_
    refine lv_iadd hx hb d_L_law_682 ?_
    refine tI (nI (5 * j + 4)) (nI_add _ _) ?_
    refine va_sld hx hb hX hbl hbA hS (vp_in_nI (show 5 * j + 4 < Ln by omega) (by omega)) d_L_law_683 ?_
    refine tI (v4) (by rw [nI_clamp (show 5 * j + 4 < 2 ^ 31 by omega)]; exact hv4.symm) ?_
    refine lv_aload_n hx hb d_L_law_684 rfl (lv_at hl 3 rfl) ?_
    refine zSWn (As := [.ref (qx), .int (v1), .int (v2), .int (v3), .int (v4), .ref (qo)]) (rest := []) ⟨hx, hb, hml, hown, hw⟩ (c_L_secret_bad l hL D qx pp qq gg qo cA f G v1 v2 v3 v4 hok) OL_B (OL_at hPX hPO hK hT hN hold) g_L_91 rfl rfl pd_L_secret ⟨Nat.le_of_ble_eq_true rfl, Nat.le_of_ble_eq_true rfl⟩ hl.1 rfl (Nat.le_of_ble_eq_true rfl) d_L_law_685 ⟨by show _ ≤ 1035; omega, by show _ ≤ 8248; omega⟩ hS (fun H1 hz hk hS => ?_)
    have hPX := P1_kept hPX (hk qx (P1_lt hPX))
    have hPM := P1_kept hPM (hk qm (P1_lt hPM))
    have hPO := P1_kept hPO (hk qo (P1_lt hPO))
    generalize H1 = H at hPX hPM hPO hS ⊢
    have hold : ∀ q : Nat, q < s.heap.size → H[q]? = s.heap[q]? := fun q hq => hS.2.1 q hq (Nat.not_le.mpr hq)
    refine W.eq (g2 := F0 m 688 ls [.int (nI (1))]) rfl ?_
    refine lv_istore (lv' := [(5, .int (nI (1))), (0, .ref (b)), (1, .ref (qx)), (2, .ref (qm)), (3, .ref (qo)), (4, .int (nI (5 * j)))]) hx hb d_L_law_688 hl (by decide) rfl (fun ls hl => ?_)
    refine lv_aload_n hx hb d_L_law_690 rfl (lv_at hl 3 rfl) ?_
    refine lv_aload_n hx hb d_L_law_691 rfl (lv_at hl 1 rfl) ?_
    refine lv_iload hx hb d_L_law_692 (lv_at hl 5 rfl) ?_
    refine lv_iconst (v := nI (1)) hx hb d_L_law_694 (by decide) ?_
    refine lv_iadd hx hb d_L_law_695 ?_
    refine tI (nI (5 * j + 1)) (nI_add _ _) ?_
    refine va_sld hx hb hX hbl hbA hS (vp_in_nI (show 5 * j + 1 < Ln by omega) (by omega)) d_L_law_696 ?_
    refine tI (v1) (by rw [nI_clamp (show 5 * j + 1 < 2 ^ 31 by omega)]; exact hv1.symm) ?_
    refine lv_aload_n hx hb d_L_law_697 rfl (lv_at hl 1 rfl) ?_
    refine lv_iload hx hb d_L_law_698 (lv_at hl 5 rfl) ?_
    refine lv_iconst (v := nI (2)) hx hb d_L_law_700 (by decide) ?_
    refine lv_iadd hx hb d_L_law_701 ?_
    refine tI (nI (5 * j + 2)) (nI_add _ _) ?_
    refine va_sld hx hb hX hbl hbA hS (vp_in_nI (show 5 * j + 2 < Ln by omega) (by omega)) d_L_law_702 ?_
    refine tI (v2) (by rw [nI_clamp (show 5 * j + 2 < 2 ^ 31 by omega)]; exact hv2.symm) ?_
    refine lv_aload_n hx hb d_L_law_703 rfl (lv_at hl 1 rfl) ?_
    refine lv_iload hx hb d_L_law_704 (lv_at hl 5 rfl) ?_
    refine lv_iconst (v := nI (3)) hx hb d_L_law_706 (by decide) ?_
    refine lv_iadd hx hb d_L_law_707 ?_
    refine tI (nI (5 * j + 3)) (nI_add _ _) ?_
    refine va_sld hx hb hX hbl hbA hS (vp_in_nI (show 5 * j + 3 < Ln by omega) (by omega)) d_L_law_708 ?_
    refine tI (v3) (by rw [nI_clamp (show 5 * j + 3 < 2 ^ 31 by omega)]; exact hv3.symm) ?_
    refine lv_aload_n hx hb d_L_law_709 rfl (lv_at hl 1 rfl) ?_
    refine lv_iload hx hb d_L_law_710 (lv_at hl 5 rfl) ?_
    refine lv_iconst (v := nI (4)) hx hb d_L_law_712 (by decide) ?_
    refine lv_iadd hx hb d_L_law_713 ?_
    refine tI (nI (5 * j + 4)) (nI_add _ _) ?_
    refine va_sld hx hb hX hbl hbA hS (vp_in_nI (show 5 * j + 4 < Ln by omega) (by omega)) d_L_law_714 ?_
    refine tI (v4) (by rw [nI_clamp (show 5 * j + 4 < 2 ^ 31 by omega)]; exact hv4.symm) ?_
    refine zVW (b := qm) (As := [.int (v1), .int (v2), .int (v3), .int (v4)]) (rest := []) ⟨hx, hb, hml, hown, hw⟩ (c_M_secret_bad l D qm er pp qq gg G v1 v2 v3 v4 hok) OM_B (OM_at hPM hK) (va_recv hK hPM (ci := 1) (q0 := 0) rfl rfl) g_L_94 rfl rfl pd_M_secret ⟨Nat.le_of_ble_eq_true rfl, Nat.le_of_ble_eq_true rfl⟩ hl.1 rfl (Nat.le_of_ble_eq_true rfl) d_L_law_715 ⟨by show _ ≤ 1035; omega, by show _ ≤ 8248; omega⟩ hS gm (fun H1 locs hPM hz hk hS => ?_)
    have hPX := P1_kept hPX (hk qx (P1_lt hPX) nxm)
    have hPO := P1_kept hPO (hk qo (P1_lt hPO) (Ne.symm nmo))
    generalize H1 = H at hPX hPM hPO hS ⊢
    have hold : ∀ q : Nat, q < s.heap.size → H[q]? = s.heap[q]? := fun q hq => hS.2.1 q hq (Nat.not_le.mpr hq)
    have hPM : va_P D classes (oM qm (nI (1)) (lN (pp)) (lN (qq)) (lN (gg))) H := hPM
    refine W.eq (g2 := F0 m 718 ls [.int (nI (0))]) rfl ?_
    refine lv_istore (lv' := [(6, .int (nI (0))), (5, .int (nI (1))), (0, .ref (b)), (1, .ref (qx)), (2, .ref (qm)), (3, .ref (qo)), (4, .int (nI (5 * j)))]) hx hb d_L_law_718 hl (by decide) rfl (fun ls hl => ?_)
    refine lv_aload_n hx hb d_L_law_720 rfl (lv_at hl 4 rfl) ?_
    refine zV (b := qm) (As := []) (rest := []) ⟨hx, hb, hml, hown, hw⟩ (c_M_thrown l D qm (nI (1)) pp qq gg) OM_B (OM_at hPM hK) (va_recv hK hPM (ci := 1) (q0 := 0) rfl rfl) g_L_62 rfl rfl pd_M_thrown ⟨Nat.le_of_ble_eq_true rfl, Nat.le_of_ble_eq_true rfl⟩ hl.1 rfl (Nat.le_of_ble_eq_true rfl) d_L_law_721 ⟨by show _ ≤ 1035; omega, by show _ ≤ 8248; omega⟩ ?_
    refine W.eq (g2 := F0 m 724 ls [.int (nI (1))]) rfl ?_
    refine lv_iload hx hb d_L_law_724 (lv_at hl 1 rfl) ?_
    refine lv_icmp_eq (tgt := 731) hx hb d_L_law_726 (by decide) (fun _ => ?_) (fun z => absurd (rfl) z)
    refine lv_iload hx hb d_L_law_731 (lv_at hl 1 rfl) ?_
    refine lv_if_ne (tgt := 748) hx hb d_L_law_733 (by decide) (fun _ => ?_) (fun z => absurd z (by decide))
    refine lv_goto (tgt := 807) hx hb d_L_law_748 (by decide) ?_
    refine W.widen (by omega) (by omega) (kk (pp) (qq) (gg) (nI (1)) _ _ _ _ ⟨G, hPX, hPM, hPO, hS, lv_sub hl [2, 3, 4, 5, 6] rfl⟩)
set_option maxHeartbeats 4000000 in
set_option maxRecDepth 100000 in
theorem law_count {p : Program} {l : Launch} {e : Env} {s : State} {m : MethodId} {below : List Frame} {meth : Method} {c : Code} {D : va_G} {cA : ClassId} {b Ln qx qm qo : Nat} {xs : Nat → Int32} (C0 : lw_At p s m meth c b Ln xs) (F : LFix l D cA qx qm qo Ln s) (j : Nat) (hj : 5 * j + 5 ≤ Ln)
    (kk : ∀ (pp qq gg : Nat) (er : Int32) (f : Nat → Int64) (H : Heap) (locs : List Loc) (ls : Array Slot), LInv D cA b qx qm qo j s pp qq gg er f H locs ls → W p l e room_1 s m #[Value.ref b] below meth c H locs (3 + j + 1) (8 + 6 * j + 6) (lw_Z below #[Value.ref b] s) (F0 m 807 ls []))
    (pp qq gg : Nat) (er : Int32) (f : Nat → Int64) (H : Heap) (locs : List Loc) (ls : Array Slot) (I0 : LInv D cA b qx qm qo j s pp qq gg er f H locs ls) : W p l e room_1 s m #[Value.ref b] below meth c H locs (3 + j) (8 + 6 * j) (lw_Z below #[Value.ref b] s) (F0 m 751 ls []) := by
  obtain ⟨hx, hb, hr, hml, hown, hts, hX, hbl, hlocks, hgv⟩ := C0
  obtain ⟨hL, hLn, hT, hN, hK, ⟨nxm, nxo, nmo⟩, gx, gm, go⟩ := F
  obtain ⟨G, hPX, hPM, hPO, hS, hl⟩ := I0
  have hw : ∀ w ∈ wall, w.before #[Value.ref b] s = true := fun w h => hts w (List.mem_filter.mp h).1
  have hbA : ¬ (fun q : Nat => s.heap.size ≤ q) b := Nat.not_le.mpr hbl
  have hold : ∀ q : Nat, q < s.heap.size → H[q]? = s.heap[q]? := fun q hq => hS.2.1 q hq (Nat.not_le.mpr hq)
  obtain ⟨v1, hv1⟩ : ∃ v, v = xs (5 * j + 1) := ⟨_, rfl⟩
  obtain ⟨v2, hv2⟩ : ∃ v, v = xs (5 * j + 2) := ⟨_, rfl⟩
  obtain ⟨v3, hv3⟩ : ∃ v, v = xs (5 * j + 3) := ⟨_, rfl⟩
  obtain ⟨v4, hv4⟩ : ∃ v, v = xs (5 * j + 4) := ⟨_, rfl⟩
  have hp5 : 5 ≤ pp := by have := G.1; have := G.2.2.1.1; omega
  have hp := G.2.2.2.2.2.2
  have hq2 : 2 ≤ qq := G.2.2.1.1
  have hq : qq < 2 ^ 31 := by have := G.1; omega
  have hgp : gg < pp := G.2.2.2.2.1
  by_cases hok : 0 ≤ v1.toInt ∧ v1.toInt ≤ 2
  · obtain ⟨z0, z1, e1, z3⟩ := ofnn (x := v1) hok.1
    have hz : z0 = 0 ∨ z0 = 1 ∨ z0 = 2 := by omega
    rcases hz with rfl | rfl | rfl
    · have hz9 := e1
      have hval : pp < 2 ^ 31 := by omega
      refine lv_aload_n hx hb d_L_law_751 rfl (lv_at hl 1 rfl) ?_
      refine lv_aload_n hx hb d_L_law_752 rfl (lv_at hl 0 rfl) ?_
      refine lv_iload hx hb d_L_law_753 (lv_at hl 4 rfl) ?_
      refine lv_iconst (v := nI (1)) hx hb d_L_law_755 (by decide) ?_
      refine lv_iadd hx hb d_L_law_756 ?_
      refine tI (nI (5 * j + 1)) (nI_add _ _) ?_
      refine va_sld hx hb hX hbl hbA hS (vp_in_nI (show 5 * j + 1 < Ln by omega) (by omega)) d_L_law_757 ?_
      refine tI (nI (0)) (by rw [nI_clamp (show 5 * j + 1 < 2 ^ 31 by omega), ← hv1, e1]) ?_
      refine lv_aload_n hx hb d_L_law_758 rfl (lv_at hl 3 rfl) ?_
      refine zSWo (As := [.ref (qx), .int (nI (0)), .ref (qo)]) (rest := []) ⟨hx, hb, hml, hown, hw⟩ (c_L_count_0 l D qx pp qq gg qo cA f G) OL_B (OL_at hPX hPO hK hT hN hold) g_L_95 rfl rfl pd_L_count ⟨Nat.le_of_ble_eq_true rfl, Nat.le_of_ble_eq_true rfl⟩ hl.1 rfl (Nat.le_of_ble_eq_true rfl) d_L_law_759 ⟨by show _ ≤ 1035; omega, by show _ ≤ 8248; omega⟩ hS go (fun H1 locs hPO hz hk hS => ?_)
      have hPX := P1_kept hPX (hk qx (P1_lt hPX) nxo)
      have hPM := P1_kept hPM (hk qm (P1_lt hPM) nmo)
      generalize H1 = H at hPX hPM hPO hS ⊢
      have hold : ∀ q : Nat, q < s.heap.size → H[q]? = s.heap[q]? := fun q hq => hS.2.1 q hq (Nat.not_le.mpr hq)
      have hPO : va_P D classes (oA qo cA (vp_updL f (nI (0)).toNatClampNeg (lN (pp)))) H := hPO
      refine W.eq (g2 := F0 m 762 ls [.int (nI (0))]) rfl ?_
      refine lv_istore (lv' := [(5, .int (nI (0))), (0, .ref (b)), (1, .ref (qx)), (2, .ref (qm)), (3, .ref (qo)), (4, .int (nI (5 * j)))]) hx hb d_L_law_762 hl (by decide) rfl (fun ls hl => ?_)
      refine lv_aload_n hx hb d_L_law_764 rfl (lv_at hl 3 rfl) ?_
      refine lv_aload_n hx hb d_L_law_765 rfl (lv_at hl 1 rfl) ?_
      refine lv_iload hx hb d_L_law_766 (lv_at hl 5 rfl) ?_
      refine lv_iconst (v := nI (1)) hx hb d_L_law_768 (by decide) ?_
      refine lv_iadd hx hb d_L_law_769 ?_
      refine tI (nI (5 * j + 1)) (nI_add _ _) ?_
      refine va_sld hx hb hX hbl hbA hS (vp_in_nI (show 5 * j + 1 < Ln by omega) (by omega)) d_L_law_770 ?_
      refine tI (nI (0)) (by rw [nI_clamp (show 5 * j + 1 < 2 ^ 31 by omega), ← hv1, e1]) ?_
      refine zVW (b := qm) (As := [.int (nI (0))]) (rest := []) ⟨hx, hb, hml, hown, hw⟩ (c_M_count_0 l D qm er pp qq gg G) OM_B (OM_at hPM hK) (va_recv hK hPM (ci := 1) (q0 := 0) rfl rfl) g_L_97 rfl rfl pd_M_count ⟨Nat.le_of_ble_eq_true rfl, Nat.le_of_ble_eq_true rfl⟩ hl.1 rfl (Nat.le_of_ble_eq_true rfl) d_L_law_771 ⟨by show _ ≤ 1035; omega, by show _ ≤ 8248; omega⟩ hS gm (fun H1 locs hPM hz hk hS => ?_)
      have hPX := P1_kept hPX (hk qx (P1_lt hPX) nxm)
      have hPO := P1_kept hPO (hk qo (P1_lt hPO) (Ne.symm nmo))
      generalize H1 = H at hPX hPM hPO hS ⊢
      have hold : ∀ q : Nat, q < s.heap.size → H[q]? = s.heap[q]? := fun q hq => hS.2.1 q hq (Nat.not_le.mpr hq)
      have hPM : va_P D classes (oM qm (nI (0)) (lN (pp)) (lN (qq)) (lN (gg))) H := hPM
      refine W.eq (g2 := F0 m 774 ls [.int (nI (pp))]) rfl ?_
      refine lv_istore (lv' := [(6, .int (nI (pp))), (5, .int (nI (0))), (0, .ref (b)), (1, .ref (qx)), (2, .ref (qm)), (3, .ref (qo)), (4, .int (nI (5 * j)))]) hx hb d_L_law_774 hl (by decide) rfl (fun ls hl => ?_)
      refine lv_aload_n hx hb d_L_law_776 rfl (lv_at hl 4 rfl) ?_
      refine zV (b := qm) (As := []) (rest := []) ⟨hx, hb, hml, hown, hw⟩ (c_M_thrown l D qm (nI (0)) pp qq gg) OM_B (OM_at hPM hK) (va_recv hK hPM (ci := 1) (q0 := 0) rfl rfl) g_L_62 rfl rfl pd_M_thrown ⟨Nat.le_of_ble_eq_true rfl, Nat.le_of_ble_eq_true rfl⟩ hl.1 rfl (Nat.le_of_ble_eq_true rfl) d_L_law_777 ⟨by show _ ≤ 1035; omega, by show _ ≤ 8248; omega⟩ ?_
      refine W.eq (g2 := F0 m 780 ls [.int (nI (0))]) rfl ?_
      refine lv_iload hx hb d_L_law_780 (lv_at hl 1 rfl) ?_
      refine lv_icmp_eq (tgt := 787) hx hb d_L_law_782 (by decide) (fun _ => ?_) (fun z => absurd (rfl) z)
      refine lv_iload hx hb d_L_law_787 (lv_at hl 1 rfl) ?_
      refine lv_if_ne (tgt := 804) hx hb d_L_law_789 (by decide) (fun z => absurd (rfl) z) (fun _ => ?_)
      refine lv_aload_n hx hb d_L_law_792 rfl (lv_at hl 5 rfl) ?_
      refine lv_iconst (v := nI (0)) hx hb d_L_law_793 (by decide) ?_
      refine va_lald (f := vp_updL f (nI (0)).toNatClampNeg (lN (pp))) hx hb hK hPO 0 0 rfl rfl (i := nI (0)) (vp_in_nI (by decide) (by decide)) d_L_law_794 ?_
      refine tL (lN (pp)) (pk_uLs) ?_
      refine lv_iload hx hb d_L_law_795 (lv_at hl 0 rfl) ?_
      refine lv_i2l (v := lN (pp)) hx hb d_L_law_797 (nI_l (hval)) ?_
      refine W.lcmp hx hb d_L_law_798 ?_
      refine lv_if_eq (tgt := 804) hx hb d_L_law_799 (by decide) (fun _ => ?_) (fun z => absurd ((lg_cmp_eq _ _).mpr (rfl)) z)
      refine lv_goto (tgt := 807) hx hb d_L_law_804 (by decide) ?_
      refine W.widen (by omega) (by omega) (kk (pp) (qq) (gg) (nI (0)) _ _ _ _ ⟨G, hPX, hPM, hPO, hS, lv_sub hl [2, 3, 4, 5, 6] rfl⟩)
    · have hz9 := e1
      have hval : qq < 2 ^ 31 := by omega
      refine lv_aload_n hx hb d_L_law_751 rfl (lv_at hl 1 rfl) ?_
      refine lv_aload_n hx hb d_L_law_752 rfl (lv_at hl 0 rfl) ?_
      refine lv_iload hx hb d_L_law_753 (lv_at hl 4 rfl) ?_
      refine lv_iconst (v := nI (1)) hx hb d_L_law_755 (by decide) ?_
      refine lv_iadd hx hb d_L_law_756 ?_
      refine tI (nI (5 * j + 1)) (nI_add _ _) ?_
      refine va_sld hx hb hX hbl hbA hS (vp_in_nI (show 5 * j + 1 < Ln by omega) (by omega)) d_L_law_757 ?_
      refine tI (nI (1)) (by rw [nI_clamp (show 5 * j + 1 < 2 ^ 31 by omega), ← hv1, e1]) ?_
      refine lv_aload_n hx hb d_L_law_758 rfl (lv_at hl 3 rfl) ?_
      refine zSWo (As := [.ref (qx), .int (nI (1)), .ref (qo)]) (rest := []) ⟨hx, hb, hml, hown, hw⟩ (c_L_count_1 l D qx pp qq gg qo cA f G) OL_B (OL_at hPX hPO hK hT hN hold) g_L_95 rfl rfl pd_L_count ⟨Nat.le_of_ble_eq_true rfl, Nat.le_of_ble_eq_true rfl⟩ hl.1 rfl (Nat.le_of_ble_eq_true rfl) d_L_law_759 ⟨by show _ ≤ 1035; omega, by show _ ≤ 8248; omega⟩ hS go (fun H1 locs hPO hz hk hS => ?_)
      have hPX := P1_kept hPX (hk qx (P1_lt hPX) nxo)
      have hPM := P1_kept hPM (hk qm (P1_lt hPM) nmo)
      generalize H1 = H at hPX hPM hPO hS ⊢
      have hold : ∀ q : Nat, q < s.heap.size → H[q]? = s.heap[q]? := fun q hq => hS.2.1 q hq (Nat.not_le.mpr hq)
      have hPO : va_P D classes (oA qo cA (vp_updL f (nI (0)).toNatClampNeg (lN (qq)))) H := hPO
      refine W.eq (g2 := F0 m 762 ls [.int (nI (0))]) rfl ?_
      refine lv_istore (lv' := [(5, .int (nI (0))), (0, .ref (b)), (1, .ref (qx)), (2, .ref (qm)), (3, .ref (qo)), (4, .int (nI (5 * j)))]) hx hb d_L_law_762 hl (by decide) rfl (fun ls hl => ?_)
      refine lv_aload_n hx hb d_L_law_764 rfl (lv_at hl 3 rfl) ?_
      refine lv_aload_n hx hb d_L_law_765 rfl (lv_at hl 1 rfl) ?_
      refine lv_iload hx hb d_L_law_766 (lv_at hl 5 rfl) ?_
      refine lv_iconst (v := nI (1)) hx hb d_L_law_768 (by decide) ?_
      refine lv_iadd hx hb d_L_law_769 ?_
      refine tI (nI (5 * j + 1)) (nI_add _ _) ?_
      refine va_sld hx hb hX hbl hbA hS (vp_in_nI (show 5 * j + 1 < Ln by omega) (by omega)) d_L_law_770 ?_
      refine tI (nI (1)) (by rw [nI_clamp (show 5 * j + 1 < 2 ^ 31 by omega), ← hv1, e1]) ?_
      refine zVW (b := qm) (As := [.int (nI (1))]) (rest := []) ⟨hx, hb, hml, hown, hw⟩ (c_M_count_1 l D qm er pp qq gg G) OM_B (OM_at hPM hK) (va_recv hK hPM (ci := 1) (q0 := 0) rfl rfl) g_L_97 rfl rfl pd_M_count ⟨Nat.le_of_ble_eq_true rfl, Nat.le_of_ble_eq_true rfl⟩ hl.1 rfl (Nat.le_of_ble_eq_true rfl) d_L_law_771 ⟨by show _ ≤ 1035; omega, by show _ ≤ 8248; omega⟩ hS gm (fun H1 locs hPM hz hk hS => ?_)
      have hPX := P1_kept hPX (hk qx (P1_lt hPX) nxm)
      have hPO := P1_kept hPO (hk qo (P1_lt hPO) (Ne.symm nmo))
      generalize H1 = H at hPX hPM hPO hS ⊢
      have hold : ∀ q : Nat, q < s.heap.size → H[q]? = s.heap[q]? := fun q hq => hS.2.1 q hq (Nat.not_le.mpr hq)
      have hPM : va_P D classes (oM qm (nI (0)) (lN (pp)) (lN (qq)) (lN (gg))) H := hPM
      refine W.eq (g2 := F0 m 774 ls [.int (nI (qq))]) rfl ?_
      refine lv_istore (lv' := [(6, .int (nI (qq))), (5, .int (nI (0))), (0, .ref (b)), (1, .ref (qx)), (2, .ref (qm)), (3, .ref (qo)), (4, .int (nI (5 * j)))]) hx hb d_L_law_774 hl (by decide) rfl (fun ls hl => ?_)
      refine lv_aload_n hx hb d_L_law_776 rfl (lv_at hl 4 rfl) ?_
      refine zV (b := qm) (As := []) (rest := []) ⟨hx, hb, hml, hown, hw⟩ (c_M_thrown l D qm (nI (0)) pp qq gg) OM_B (OM_at hPM hK) (va_recv hK hPM (ci := 1) (q0 := 0) rfl rfl) g_L_62 rfl rfl pd_M_thrown ⟨Nat.le_of_ble_eq_true rfl, Nat.le_of_ble_eq_true rfl⟩ hl.1 rfl (Nat.le_of_ble_eq_true rfl) d_L_law_777 ⟨by show _ ≤ 1035; omega, by show _ ≤ 8248; omega⟩ ?_
      refine W.eq (g2 := F0 m 780 ls [.int (nI (0))]) rfl ?_
      refine lv_iload hx hb d_L_law_780 (lv_at hl 1 rfl) ?_
      refine lv_icmp_eq (tgt := 787) hx hb d_L_law_782 (by decide) (fun _ => ?_) (fun z => absurd (rfl) z)
      refine lv_iload hx hb d_L_law_787 (lv_at hl 1 rfl) ?_
      refine lv_if_ne (tgt := 804) hx hb d_L_law_789 (by decide) (fun z => absurd (rfl) z) (fun _ => ?_)
      refine lv_aload_n hx hb d_L_law_792 rfl (lv_at hl 5 rfl) ?_
      refine lv_iconst (v := nI (0)) hx hb d_L_law_793 (by decide) ?_
      refine va_lald (f := vp_updL f (nI (0)).toNatClampNeg (lN (qq))) hx hb hK hPO 0 0 rfl rfl (i := nI (0)) (vp_in_nI (by decide) (by decide)) d_L_law_794 ?_
      refine tL (lN (qq)) (pk_uLs) ?_
      refine lv_iload hx hb d_L_law_795 (lv_at hl 0 rfl) ?_
      refine lv_i2l (v := lN (qq)) hx hb d_L_law_797 (nI_l (hval)) ?_
      refine W.lcmp hx hb d_L_law_798 ?_
      refine lv_if_eq (tgt := 804) hx hb d_L_law_799 (by decide) (fun _ => ?_) (fun z => absurd ((lg_cmp_eq _ _).mpr (rfl)) z)
      refine lv_goto (tgt := 807) hx hb d_L_law_804 (by decide) ?_
      refine W.widen (by omega) (by omega) (kk (pp) (qq) (gg) (nI (0)) _ _ _ _ ⟨G, hPX, hPM, hPO, hS, lv_sub hl [2, 3, 4, 5, 6] rfl⟩)
    · have hz9 := e1
      have hval : gg < 2 ^ 31 := by omega
      refine lv_aload_n hx hb d_L_law_751 rfl (lv_at hl 1 rfl) ?_
      refine lv_aload_n hx hb d_L_law_752 rfl (lv_at hl 0 rfl) ?_
      refine lv_iload hx hb d_L_law_753 (lv_at hl 4 rfl) ?_
      refine lv_iconst (v := nI (1)) hx hb d_L_law_755 (by decide) ?_
      refine lv_iadd hx hb d_L_law_756 ?_
      refine tI (nI (5 * j + 1)) (nI_add _ _) ?_
      refine va_sld hx hb hX hbl hbA hS (vp_in_nI (show 5 * j + 1 < Ln by omega) (by omega)) d_L_law_757 ?_
      refine tI (nI (2)) (by rw [nI_clamp (show 5 * j + 1 < 2 ^ 31 by omega), ← hv1, e1]) ?_
      refine lv_aload_n hx hb d_L_law_758 rfl (lv_at hl 3 rfl) ?_
      refine zSWo (As := [.ref (qx), .int (nI (2)), .ref (qo)]) (rest := []) ⟨hx, hb, hml, hown, hw⟩ (c_L_count_2 l D qx pp qq gg qo cA f G) OL_B (OL_at hPX hPO hK hT hN hold) g_L_95 rfl rfl pd_L_count ⟨Nat.le_of_ble_eq_true rfl, Nat.le_of_ble_eq_true rfl⟩ hl.1 rfl (Nat.le_of_ble_eq_true rfl) d_L_law_759 ⟨by show _ ≤ 1035; omega, by show _ ≤ 8248; omega⟩ hS go (fun H1 locs hPO hz hk hS => ?_)
      have hPX := P1_kept hPX (hk qx (P1_lt hPX) nxo)
      have hPM := P1_kept hPM (hk qm (P1_lt hPM) nmo)
      generalize H1 = H at hPX hPM hPO hS ⊢
      have hold : ∀ q : Nat, q < s.heap.size → H[q]? = s.heap[q]? := fun q hq => hS.2.1 q hq (Nat.not_le.mpr hq)
      have hPO : va_P D classes (oA qo cA (vp_updL f (nI (0)).toNatClampNeg (lN (gg)))) H := hPO
      refine W.eq (g2 := F0 m 762 ls [.int (nI (0))]) rfl ?_
      refine lv_istore (lv' := [(5, .int (nI (0))), (0, .ref (b)), (1, .ref (qx)), (2, .ref (qm)), (3, .ref (qo)), (4, .int (nI (5 * j)))]) hx hb d_L_law_762 hl (by decide) rfl (fun ls hl => ?_)
      refine lv_aload_n hx hb d_L_law_764 rfl (lv_at hl 3 rfl) ?_
      refine lv_aload_n hx hb d_L_law_765 rfl (lv_at hl 1 rfl) ?_
      refine lv_iload hx hb d_L_law_766 (lv_at hl 5 rfl) ?_
      refine lv_iconst (v := nI (1)) hx hb d_L_law_768 (by decide) ?_
      refine lv_iadd hx hb d_L_law_769 ?_
      refine tI (nI (5 * j + 1)) (nI_add _ _) ?_
      refine va_sld hx hb hX hbl hbA hS (vp_in_nI (show 5 * j + 1 < Ln by omega) (by omega)) d_L_law_770 ?_
      refine tI (nI (2)) (by rw [nI_clamp (show 5 * j + 1 < 2 ^ 31 by omega), ← hv1, e1]) ?_
      refine zVW (b := qm) (As := [.int (nI (2))]) (rest := []) ⟨hx, hb, hml, hown, hw⟩ (c_M_count_2 l D qm er pp qq gg G) OM_B (OM_at hPM hK) (va_recv hK hPM (ci := 1) (q0 := 0) rfl rfl) g_L_97 rfl rfl pd_M_count ⟨Nat.le_of_ble_eq_true rfl, Nat.le_of_ble_eq_true rfl⟩ hl.1 rfl (Nat.le_of_ble_eq_true rfl) d_L_law_771 ⟨by show _ ≤ 1035; omega, by show _ ≤ 8248; omega⟩ hS gm (fun H1 locs hPM hz hk hS => ?_)
      have hPX := P1_kept hPX (hk qx (P1_lt hPX) nxm)
      have hPO := P1_kept hPO (hk qo (P1_lt hPO) (Ne.symm nmo))
      generalize H1 = H at hPX hPM hPO hS ⊢
      have hold : ∀ q : Nat, q < s.heap.size → H[q]? = s.heap[q]? := fun q hq => hS.2.1 q hq (Nat.not_le.mpr hq)
      have hPM : va_P D classes (oM qm (nI (0)) (lN (pp)) (lN (qq)) (lN (gg))) H := hPM
      refine W.eq (g2 := F0 m 774 ls [.int (nI (gg))]) rfl ?_
      refine lv_istore (lv' := [(6, .int (nI (gg))), (5, .int (nI (0))), (0, .ref (b)), (1, .ref (qx)), (2, .ref (qm)), (3, .ref (qo)), (4, .int (nI (5 * j)))]) hx hb d_L_law_774 hl (by decide) rfl (fun ls hl => ?_)
      refine lv_aload_n hx hb d_L_law_776 rfl (lv_at hl 4 rfl) ?_
      refine zV (b := qm) (As := []) (rest := []) ⟨hx, hb, hml, hown, hw⟩ (c_M_thrown l D qm (nI (0)) pp qq gg) OM_B (OM_at hPM hK) (va_recv hK hPM (ci := 1) (q0 := 0) rfl rfl) g_L_62 rfl rfl pd_M_thrown ⟨Nat.le_of_ble_eq_true rfl, Nat.le_of_ble_eq_true rfl⟩ hl.1 rfl (Nat.le_of_ble_eq_true rfl) d_L_law_777 ⟨by show _ ≤ 1035; omega, by show _ ≤ 8248; omega⟩ ?_
      refine W.eq (g2 := F0 m 780 ls [.int (nI (0))]) rfl ?_
      refine lv_iload hx hb d_L_law_780 (lv_at hl 1 rfl) ?_
      refine lv_icmp_eq (tgt := 787) hx hb d_L_law_782 (by decide) (fun _ => ?_) (fun z => absurd (rfl) z)
      refine lv_iload hx hb d_L_law_787 (lv_at hl 1 rfl) ?_
      refine lv_if_ne (tgt := 804) hx hb d_L_law_789 (by decide) (fun z => absurd (rfl) z) (fun _ => ?_)
      refine lv_aload_n hx hb d_L_law_792 rfl (lv_at hl 5 rfl) ?_
      refine lv_iconst (v := nI (0)) hx hb d_L_law_793 (by decide) ?_
      refine va_lald (f := vp_updL f (nI (0)).toNatClampNeg (lN (gg))) hx hb hK hPO 0 0 rfl rfl (i := nI (0)) (vp_in_nI (by decide) (by decide)) d_L_law_794 ?_
      refine tL (lN (gg)) (pk_uLs) ?_
      refine lv_iload hx hb d_L_law_795 (lv_at hl 0 rfl) ?_
      refine lv_i2l (v := lN (gg)) hx hb d_L_law_797 (nI_l (hval)) ?_
      refine W.lcmp hx hb d_L_law_798 ?_
      refine lv_if_eq (tgt := 804) hx hb d_L_law_799 (by decide) (fun _ => ?_) (fun z => absurd ((lg_cmp_eq _ _).mpr (rfl)) z)
      refine lv_goto (tgt := 807) hx hb d_L_law_804 (by decide) ?_
      refine W.widen (by omega) (by omega) (kk (pp) (qq) (gg) (nI (0)) _ _ _ _ ⟨G, hPX, hPM, hPO, hS, lv_sub hl [2, 3, 4, 5, 6] rfl⟩)
  · refine lv_aload_n hx hb d_L_law_751 rfl (lv_at hl 1 rfl) ?_
    refine lv_aload_n hx hb d_L_law_752 rfl (lv_at hl 0 rfl) ?_
    refine lv_iload hx hb d_L_law_753 (lv_at hl 4 rfl) ?_
    refine lv_iconst (v := nI (1)) hx hb d_L_law_755 (by decide) ?_
    refine lv_iadd hx hb d_L_law_756 ?_
    refine tI (nI (5 * j + 1)) (nI_add _ _) ?_
    refine va_sld hx hb hX hbl hbA hS (vp_in_nI (show 5 * j + 1 < Ln by omega) (by omega)) d_L_law_757 ?_
    refine tI (v1) (by rw [nI_clamp (show 5 * j + 1 < 2 ^ 31 by omega)]; exact hv1.symm) ?_
    refine lv_aload_n hx hb d_L_law_758 rfl (lv_at hl 3 rfl) ?_
    refine zSWn (As := [.ref (qx), .int (v1), .ref (qo)]) (rest := []) ⟨hx, hb, hml, hown, hw⟩ (c_L_count_bad l hL D qx pp qq gg qo cA f G v1 hok) OL_B (OL_at hPX hPO hK hT hN hold) g_L_95 rfl rfl pd_L_count ⟨Nat.le_of_ble_eq_true rfl, Nat.le_of_ble_eq_true rfl⟩ hl.1 rfl (Nat.le_of_ble_eq_true rfl) d_L_law_759 ⟨by show _ ≤ 1035; omega, by show _ ≤ 8248; omega⟩ hS (fun H1 hz hk hS => ?_)
    have hPX := P1_kept hPX (hk qx (P1_lt hPX))
    have hPM := P1_kept hPM (hk qm (P1_lt hPM))
    have hPO := P1_kept hPO (hk qo (P1_lt hPO))
    generalize H1 = H at hPX hPM hPO hS ⊢
    have hold : ∀ q : Nat, q < s.heap.size → H[q]? = s.heap[q]? := fun q hq => hS.2.1 q hq (Nat.not_le.mpr hq)
    refine W.eq (g2 := F0 m 762 ls [.int (nI (1))]) rfl ?_
    refine lv_istore (lv' := [(5, .int (nI (1))), (0, .ref (b)), (1, .ref (qx)), (2, .ref (qm)), (3, .ref (qo)), (4, .int (nI (5 * j)))]) hx hb d_L_law_762 hl (by decide) rfl (fun ls hl => ?_)
    refine lv_aload_n hx hb d_L_law_764 rfl (lv_at hl 3 rfl) ?_
    refine lv_aload_n hx hb d_L_law_765 rfl (lv_at hl 1 rfl) ?_
    refine lv_iload hx hb d_L_law_766 (lv_at hl 5 rfl) ?_
    refine lv_iconst (v := nI (1)) hx hb d_L_law_768 (by decide) ?_
    refine lv_iadd hx hb d_L_law_769 ?_
    refine tI (nI (5 * j + 1)) (nI_add _ _) ?_
    refine va_sld hx hb hX hbl hbA hS (vp_in_nI (show 5 * j + 1 < Ln by omega) (by omega)) d_L_law_770 ?_
    refine tI (v1) (by rw [nI_clamp (show 5 * j + 1 < 2 ^ 31 by omega)]; exact hv1.symm) ?_
    refine zVW (b := qm) (As := [.int (v1)]) (rest := []) ⟨hx, hb, hml, hown, hw⟩ (c_M_count_bad l D qm er pp qq gg G v1 hok) OM_B (OM_at hPM hK) (va_recv hK hPM (ci := 1) (q0 := 0) rfl rfl) g_L_97 rfl rfl pd_M_count ⟨Nat.le_of_ble_eq_true rfl, Nat.le_of_ble_eq_true rfl⟩ hl.1 rfl (Nat.le_of_ble_eq_true rfl) d_L_law_771 ⟨by show _ ≤ 1035; omega, by show _ ≤ 8248; omega⟩ hS gm (fun H1 locs hPM hz hk hS => ?_)
    have hPX := P1_kept hPX (hk qx (P1_lt hPX) nxm)
    have hPO := P1_kept hPO (hk qo (P1_lt hPO) (Ne.symm nmo))
    generalize H1 = H at hPX hPM hPO hS ⊢
    have hold : ∀ q : Nat, q < s.heap.size → H[q]? = s.heap[q]? := fun q hq => hS.2.1 q hq (Nat.not_le.mpr hq)
    have hPM : va_P D classes (oM qm (nI (1)) (lN (pp)) (lN (qq)) (lN (gg))) H := hPM
    refine W.eq (g2 := F0 m 774 ls [.int (nI (0))]) rfl ?_
    refine lv_istore (lv' := [(6, .int (nI (0))), (5, .int (nI (1))), (0, .ref (b)), (1, .ref (qx)), (2, .ref (qm)), (3, .ref (qo)), (4, .int (nI (5 * j)))]) hx hb d_L_law_774 hl (by decide) rfl (fun ls hl => ?_)
    refine lv_aload_n hx hb d_L_law_776 rfl (lv_at hl 4 rfl) ?_
    refine zV (b := qm) (As := []) (rest := []) ⟨hx, hb, hml, hown, hw⟩ (c_M_thrown l D qm (nI (1)) pp qq gg) OM_B (OM_at hPM hK) (va_recv hK hPM (ci := 1) (q0 := 0) rfl rfl) g_L_62 rfl rfl pd_M_thrown ⟨Nat.le_of_ble_eq_true rfl, Nat.le_of_ble_eq_true rfl⟩ hl.1 rfl (Nat.le_of_ble_eq_true rfl) d_L_law_777 ⟨by show _ ≤ 1035; omega, by show _ ≤ 8248; omega⟩ ?_
    refine W.eq (g2 := F0 m 780 ls [.int (nI (1))]) rfl ?_
    refine lv_iload hx hb d_L_law_780 (lv_at hl 1 rfl) ?_
    refine lv_icmp_eq (tgt := 787) hx hb d_L_law_782 (by decide) (fun _ => ?_) (fun z => absurd (rfl) z)
    refine lv_iload hx hb d_L_law_787 (lv_at hl 1 rfl) ?_
    refine lv_if_ne (tgt := 804) hx hb d_L_law_789 (by decide) (fun _ => ?_) (fun z => absurd z (by decide))
    refine lv_goto (tgt := 807) hx hb d_L_law_804 (by decide) ?_
    refine W.widen (by omega) (by omega) (kk (pp) (qq) (gg) (nI (1)) _ _ _ _ ⟨G, hPX, hPM, hPO, hS, lv_sub hl [2, 3, 4, 5, 6] rfl⟩)
set_option maxHeartbeats 4000000 in
set_option maxRecDepth 100000 in
theorem law_power {p : Program} {l : Launch} {e : Env} {s : State} {m : MethodId} {below : List Frame} {meth : Method} {c : Code} {D : va_G} {cA : ClassId} {b Ln qx qm qo : Nat} {xs : Nat → Int32} (C0 : lw_At p s m meth c b Ln xs) (F : LFix l D cA qx qm qo Ln s) (j : Nat) (hj : 5 * j + 5 ≤ Ln)
    (kk : ∀ (pp qq gg : Nat) (er : Int32) (f : Nat → Int64) (H : Heap) (locs : List Loc) (ls : Array Slot), LInv D cA b qx qm qo j s pp qq gg er f H locs ls → W p l e room_1 s m #[Value.ref b] below meth c H locs (3 + j + 1) (8 + 6 * j + 6) (lw_Z below #[Value.ref b] s) (F0 m 807 ls []))
    (pp qq gg : Nat) (er : Int32) (f : Nat → Int64) (H : Heap) (locs : List Loc) (ls : Array Slot) (I0 : LInv D cA b qx qm qo j s pp qq gg er f H locs ls) : W p l e room_1 s m #[Value.ref b] below meth c H locs (3 + j) (8 + 6 * j) (lw_Z below #[Value.ref b] s) (F0 m 226 ls []) := by
  obtain ⟨hx, hb, hr, hml, hown, hts, hX, hbl, hlocks, hgv⟩ := C0
  obtain ⟨hL, hLn, hT, hN, hK, ⟨nxm, nxo, nmo⟩, gx, gm, go⟩ := F
  obtain ⟨G, hPX, hPM, hPO, hS, hl⟩ := I0
  have hw : ∀ w ∈ wall, w.before #[Value.ref b] s = true := fun w h => hts w (List.mem_filter.mp h).1
  have hbA : ¬ (fun q : Nat => s.heap.size ≤ q) b := Nat.not_le.mpr hbl
  have hold : ∀ q : Nat, q < s.heap.size → H[q]? = s.heap[q]? := fun q hq => hS.2.1 q hq (Nat.not_le.mpr hq)
  obtain ⟨v1, hv1⟩ : ∃ v, v = xs (5 * j + 1) := ⟨_, rfl⟩
  obtain ⟨v2, hv2⟩ : ∃ v, v = xs (5 * j + 2) := ⟨_, rfl⟩
  obtain ⟨v3, hv3⟩ : ∃ v, v = xs (5 * j + 3) := ⟨_, rfl⟩
  obtain ⟨v4, hv4⟩ : ∃ v, v = xs (5 * j + 4) := ⟨_, rfl⟩
  have hp5 : 5 ≤ pp := by have := G.1; have := G.2.2.1.1; omega
  have hp := G.2.2.2.2.2.2
  have hq2 : 2 ≤ qq := G.2.2.1.1
  have hq : qq < 2 ^ 31 := by have := G.1; omega
  have hgp : gg < pp := G.2.2.2.2.1
  obtain ⟨ev, hev⟩ : ∃ z : Int64, z = ((v2).toInt64 <<< ((nI (32)).toInt64 &&& 63)) ||| ((v3).toInt64 &&& (lN (4294967295))) := ⟨_, rfl⟩
  by_cases hok : res v1.toInt pp ∧ 0 ≤ ev.toInt
  · obtain ⟨aa, aa1, aa2, e1, aa3⟩ := res_of (hok.1)
    obtain ⟨ee, ee1, ee2⟩ := pk_lOf (x := ev) (fun z => by have := llt.mp z; rw [l0] at this; have := hok.2; omega)
    subst ee2
    have hval : aa ^ ee % pp < 2 ^ 31 := Nat.lt_trans (Nat.mod_lt _ (by omega)) hp
    refine lv_aload_n hx hb d_L_law_226 rfl (lv_at hl 1 rfl) ?_
    refine lv_aload_n hx hb d_L_law_227 rfl (lv_at hl 0 rfl) ?_
    refine lv_iload hx hb d_L_law_228 (lv_at hl 4 rfl) ?_
    refine lv_iconst (v := nI (1)) hx hb d_L_law_230 (by decide) ?_
    refine lv_iadd hx hb d_L_law_231 ?_
    refine tI (nI (5 * j + 1)) (nI_add _ _) ?_
    refine va_sld hx hb hX hbl hbA hS (vp_in_nI (show 5 * j + 1 < Ln by omega) (by omega)) d_L_law_232 ?_
    refine tI (nI (aa)) (by rw [nI_clamp (show 5 * j + 1 < 2 ^ 31 by omega), ← hv1, e1]) ?_
    refine lv_aload_n hx hb d_L_law_233 rfl (lv_at hl 0 rfl) ?_
    refine lv_iload hx hb d_L_law_234 (lv_at hl 4 rfl) ?_
    refine lv_iconst (v := nI (2)) hx hb d_L_law_236 (by decide) ?_
    refine lv_iadd hx hb d_L_law_237 ?_
    refine tI (nI (5 * j + 2)) (nI_add _ _) ?_
    refine va_sld hx hb hX hbl hbA hS (vp_in_nI (show 5 * j + 2 < Ln by omega) (by omega)) d_L_law_238 ?_
    refine tI (v2) (by rw [nI_clamp (show 5 * j + 2 < 2 ^ 31 by omega)]; exact hv2.symm) ?_
    refine lv_i2l (v := (v2).toInt64) hx hb d_L_law_239 (rfl) ?_
    refine lv_bipush (v := nI (32)) hx hb d_L_law_240 (by decide) ?_
    refine lv_lshl (v := (v2).toInt64 <<< ((nI (32)).toInt64 &&& 63)) hx hb d_L_law_242 (rfl) ?_
    refine lv_aload_n hx hb d_L_law_243 rfl (lv_at hl 0 rfl) ?_
    refine lv_iload hx hb d_L_law_244 (lv_at hl 4 rfl) ?_
    refine lv_iconst (v := nI (3)) hx hb d_L_law_246 (by decide) ?_
    refine lv_iadd hx hb d_L_law_247 ?_
    refine tI (nI (5 * j + 3)) (nI_add _ _) ?_
    refine va_sld hx hb hX hbl hbA hS (vp_in_nI (show 5 * j + 3 < Ln by omega) (by omega)) d_L_law_248 ?_
    refine tI (v3) (by rw [nI_clamp (show 5 * j + 3 < 2 ^ 31 by omega)]; exact hv3.symm) ?_
    refine lv_i2l (v := (v3).toInt64) hx hb d_L_law_249 (rfl) ?_
    refine lv_ldc2 hx hb hown (hw _ kl_L_66) d_L_law_250 ?_
    refine tL (lN (4294967295)) (by decide +kernel) ?_
    refine lv_land hx hb d_L_law_253 ?_
    refine tL ((v3).toInt64 &&& (lN (4294967295))) (rfl) ?_
    refine lv_lor hx hb d_L_law_254 ?_
    refine tL (lN (ee)) (hev.symm) ?_
    refine lv_aload_n hx hb d_L_law_255 rfl (lv_at hl 3 rfl) ?_
    refine zSWo (As := [.ref (qx), .int (nI (aa)), .long (lN (ee)), .ref (qo)]) (rest := []) ⟨hx, hb, hml, hown, hw⟩ (c_L_power_ok l D qx pp qq gg qo cA f G aa ee aa1 ee1) OL_B (OL_at hPX hPO hK hT hN hold) g_L_68 rfl rfl pd_L_power ⟨Nat.le_of_ble_eq_true rfl, Nat.le_of_ble_eq_true rfl⟩ hl.1 rfl (Nat.le_of_ble_eq_true rfl) d_L_law_256 ⟨by show _ ≤ 1035; omega, by show _ ≤ 8248; omega⟩ hS go (fun H1 locs hPO hz hk hS => ?_)
    have hPX := P1_kept hPX (hk qx (P1_lt hPX) nxo)
    have hPM := P1_kept hPM (hk qm (P1_lt hPM) nmo)
    generalize H1 = H at hPX hPM hPO hS ⊢
    have hold : ∀ q : Nat, q < s.heap.size → H[q]? = s.heap[q]? := fun q hq => hS.2.1 q hq (Nat.not_le.mpr hq)
    have hPO : va_P D classes (oA qo cA (vp_updL f (nI (0)).toNatClampNeg (lN (aa ^ ee % pp)))) H := hPO
    refine W.eq (g2 := F0 m 259 ls [.int (nI (0))]) rfl ?_
    refine lv_istore (lv' := [(5, .int (nI (0))), (0, .ref (b)), (1, .ref (qx)), (2, .ref (qm)), (3, .ref (qo)), (4, .int (nI (5 * j)))]) hx hb d_L_law_259 hl (by decide) rfl (fun ls hl => ?_)
    refine lv_aload_n hx hb d_L_law_261 rfl (lv_at hl 3 rfl) ?_
    refine lv_aload_n hx hb d_L_law_262 rfl (lv_at hl 1 rfl) ?_
    refine lv_iload hx hb d_L_law_263 (lv_at hl 5 rfl) ?_
    refine lv_iconst (v := nI (1)) hx hb d_L_law_265 (by decide) ?_
    refine lv_iadd hx hb d_L_law_266 ?_
    refine tI (nI (5 * j + 1)) (nI_add _ _) ?_
    refine va_sld hx hb hX hbl hbA hS (vp_in_nI (show 5 * j + 1 < Ln by omega) (by omega)) d_L_law_267 ?_
    refine tI (nI (aa)) (by rw [nI_clamp (show 5 * j + 1 < 2 ^ 31 by omega), ← hv1, e1]) ?_
    refine lv_aload_n hx hb d_L_law_268 rfl (lv_at hl 1 rfl) ?_
    refine lv_iload hx hb d_L_law_269 (lv_at hl 5 rfl) ?_
    refine lv_iconst (v := nI (2)) hx hb d_L_law_271 (by decide) ?_
    refine lv_iadd hx hb d_L_law_272 ?_
    refine tI (nI (5 * j + 2)) (nI_add _ _) ?_
    refine va_sld hx hb hX hbl hbA hS (vp_in_nI (show 5 * j + 2 < Ln by omega) (by omega)) d_L_law_273 ?_
    refine tI (v2) (by rw [nI_clamp (show 5 * j + 2 < 2 ^ 31 by omega)]; exact hv2.symm) ?_
    refine lv_i2l (v := (v2).toInt64) hx hb d_L_law_274 (rfl) ?_
    refine lv_bipush (v := nI (32)) hx hb d_L_law_275 (by decide) ?_
    refine lv_lshl (v := (v2).toInt64 <<< ((nI (32)).toInt64 &&& 63)) hx hb d_L_law_277 (rfl) ?_
    refine lv_aload_n hx hb d_L_law_278 rfl (lv_at hl 1 rfl) ?_
    refine lv_iload hx hb d_L_law_279 (lv_at hl 5 rfl) ?_
    refine lv_iconst (v := nI (3)) hx hb d_L_law_281 (by decide) ?_
    refine lv_iadd hx hb d_L_law_282 ?_
    refine tI (nI (5 * j + 3)) (nI_add _ _) ?_
    refine va_sld hx hb hX hbl hbA hS (vp_in_nI (show 5 * j + 3 < Ln by omega) (by omega)) d_L_law_283 ?_
    refine tI (v3) (by rw [nI_clamp (show 5 * j + 3 < 2 ^ 31 by omega)]; exact hv3.symm) ?_
    refine lv_i2l (v := (v3).toInt64) hx hb d_L_law_284 (rfl) ?_
    refine lv_ldc2 hx hb hown (hw _ kl_L_66) d_L_law_285 ?_
    refine tL (lN (4294967295)) (by decide +kernel) ?_
    refine lv_land hx hb d_L_law_288 ?_
    refine tL ((v3).toInt64 &&& (lN (4294967295))) (rfl) ?_
    refine lv_lor hx hb d_L_law_289 ?_
    refine tL (lN (ee)) (hev.symm) ?_
    refine zVW (b := qm) (As := [.int (nI (aa)), .long (lN (ee))]) (rest := []) ⟨hx, hb, hml, hown, hw⟩ (c_M_power_IJ_ok l D qm er pp qq gg G aa ee aa1 ee1) OM_B (OM_at hPM hK) (va_recv hK hPM (ci := 1) (q0 := 0) rfl rfl) g_L_71 rfl rfl pd_M_power_IJ ⟨Nat.le_of_ble_eq_true rfl, Nat.le_of_ble_eq_true rfl⟩ hl.1 rfl (Nat.le_of_ble_eq_true rfl) d_L_law_290 ⟨by show _ ≤ 1035; omega, by show _ ≤ 8248; omega⟩ hS gm (fun H1 locs hPM hz hk hS => ?_)
    have hPX := P1_kept hPX (hk qx (P1_lt hPX) nxm)
    have hPO := P1_kept hPO (hk qo (P1_lt hPO) (Ne.symm nmo))
    generalize H1 = H at hPX hPM hPO hS ⊢
    have hold : ∀ q : Nat, q < s.heap.size → H[q]? = s.heap[q]? := fun q hq => hS.2.1 q hq (Nat.not_le.mpr hq)
    have hPM : va_P D classes (oM qm (nI (0)) (lN (pp)) (lN (qq)) (lN (gg))) H := hPM
    refine W.eq (g2 := F0 m 293 ls [.int (nI (aa ^ ee % pp))]) rfl ?_
    refine lv_istore (lv' := [(6, .int (nI (aa ^ ee % pp))), (5, .int (nI (0))), (0, .ref (b)), (1, .ref (qx)), (2, .ref (qm)), (3, .ref (qo)), (4, .int (nI (5 * j)))]) hx hb d_L_law_293 hl (by decide) rfl (fun ls hl => ?_)
    refine lv_aload_n hx hb d_L_law_295 rfl (lv_at hl 4 rfl) ?_
    refine zV (b := qm) (As := []) (rest := []) ⟨hx, hb, hml, hown, hw⟩ (c_M_thrown l D qm (nI (0)) pp qq gg) OM_B (OM_at hPM hK) (va_recv hK hPM (ci := 1) (q0 := 0) rfl rfl) g_L_62 rfl rfl pd_M_thrown ⟨Nat.le_of_ble_eq_true rfl, Nat.le_of_ble_eq_true rfl⟩ hl.1 rfl (Nat.le_of_ble_eq_true rfl) d_L_law_296 ⟨by show _ ≤ 1035; omega, by show _ ≤ 8248; omega⟩ ?_
    refine W.eq (g2 := F0 m 299 ls [.int (nI (0))]) rfl ?_
    refine lv_iload hx hb d_L_law_299 (lv_at hl 1 rfl) ?_
    refine lv_icmp_eq (tgt := 306) hx hb d_L_law_301 (by decide) (fun _ => ?_) (fun z => absurd (rfl) z)
    refine lv_iload hx hb d_L_law_306 (lv_at hl 1 rfl) ?_
    refine lv_if_ne (tgt := 323) hx hb d_L_law_308 (by decide) (fun z => absurd (rfl) z) (fun _ => ?_)
    refine lv_aload_n hx hb d_L_law_311 rfl (lv_at hl 5 rfl) ?_
    refine lv_iconst (v := nI (0)) hx hb d_L_law_312 (by decide) ?_
    refine va_lald (f := vp_updL f (nI (0)).toNatClampNeg (lN (aa ^ ee % pp))) hx hb hK hPO 0 0 rfl rfl (i := nI (0)) (vp_in_nI (by decide) (by decide)) d_L_law_313 ?_
    refine tL (lN (aa ^ ee % pp)) (pk_uLs) ?_
    refine lv_iload hx hb d_L_law_314 (lv_at hl 0 rfl) ?_
    refine lv_i2l (v := lN (aa ^ ee % pp)) hx hb d_L_law_316 (nI_l (hval)) ?_
    refine W.lcmp hx hb d_L_law_317 ?_
    refine lv_if_eq (tgt := 323) hx hb d_L_law_318 (by decide) (fun _ => ?_) (fun z => absurd ((lg_cmp_eq _ _).mpr (rfl)) z)
    refine lv_goto (tgt := 807) hx hb d_L_law_323 (by decide) ?_
    refine W.widen (by omega) (by omega) (kk (pp) (qq) (gg) (nI (0)) _ _ _ _ ⟨G, hPX, hPM, hPO, hS, lv_sub hl [2, 3, 4, 5, 6] rfl⟩)
  · refine lv_aload_n hx hb d_L_law_226 rfl (lv_at hl 1 rfl) ?_
    refine lv_aload_n hx hb d_L_law_227 rfl (lv_at hl 0 rfl) ?_
    refine lv_iload hx hb d_L_law_228 (lv_at hl 4 rfl) ?_
    refine lv_iconst (v := nI (1)) hx hb d_L_law_230 (by decide) ?_
    refine lv_iadd hx hb d_L_law_231 ?_
    refine tI (nI (5 * j + 1)) (nI_add _ _) ?_
    refine va_sld hx hb hX hbl hbA hS (vp_in_nI (show 5 * j + 1 < Ln by omega) (by omega)) d_L_law_232 ?_
    refine tI (v1) (by rw [nI_clamp (show 5 * j + 1 < 2 ^ 31 by omega)]; exact hv1.symm) ?_
    refine lv_aload_n hx hb d_L_law_233 rfl (lv_at hl 0 rfl) ?_
    refine lv_iload hx hb d_L_law_234 (lv_at hl 4 rfl) ?_
    refine lv_iconst (v := nI (2)) hx hb d_L_law_236 (by decide) ?_
    refine lv_iadd hx hb d_L_law_237 ?_
    refine tI (nI (5 * j + 2)) (nI_add _ _) ?_
    refine va_sld hx hb hX hbl hbA hS (vp_in_nI (show 5 * j + 2 < Ln by omega) (by omega)) d_L_law_238 ?_
    refine tI (v2) (by rw [nI_clamp (show 5 * j + 2 < 2 ^ 31 by omega)]; exact hv2.symm) ?_
    refine lv_i2l (v := (v2).toInt64) hx hb d_L_law_239 (rfl) ?_
    refine lv_bipush (v := nI (32)) hx hb d_L_law_240 (by decide) ?_
    refine lv_lshl (v := (v2).toInt64 <<< ((nI (32)).toInt64 &&& 63)) hx hb d_L_law_242 (rfl) ?_
    refine lv_aload_n hx hb d_L_law_243 rfl (lv_at hl 0 rfl) ?_
    refine lv_iload hx hb d_L_law_244 (lv_at hl 4 rfl) ?_
    refine lv_iconst (v := nI (3)) hx hb d_L_law_246 (by decide) ?_
    refine lv_iadd hx hb d_L_law_247 ?_
    refine tI (nI (5 * j + 3)) (nI_add _ _) ?_
    refine va_sld hx hb hX hbl hbA hS (vp_in_nI (show 5 * j + 3 < Ln by omega) (by omega)) d_L_law_248 ?_
    refine tI (v3) (by rw [nI_clamp (show 5 * j + 3 < 2 ^ 31 by omega)]; exact hv3.symm) ?_
    refine lv_i2l (v := (v3).toInt64) hx hb d_L_law_249 (rfl) ?_
    refine lv_ldc2 hx hb hown (hw _ kl_L_66) d_L_law_250 ?_
    refine tL (lN (4294967295)) (by decide +kernel) ?_
    refine lv_land hx hb d_L_law_253 ?_
    refine tL ((v3).toInt64 &&& (lN (4294967295))) (rfl) ?_
    refine lv_lor hx hb d_L_law_254 ?_
    refine tL (ev) (hev.symm) ?_
    refine lv_aload_n hx hb d_L_law_255 rfl (lv_at hl 3 rfl) ?_
    refine zSWn (As := [.ref (qx), .int (v1), .long (ev), .ref (qo)]) (rest := []) ⟨hx, hb, hml, hown, hw⟩ (c_L_power_bad l hL D qx pp qq gg qo cA f G v1 ev hok) OL_B (OL_at hPX hPO hK hT hN hold) g_L_68 rfl rfl pd_L_power ⟨Nat.le_of_ble_eq_true rfl, Nat.le_of_ble_eq_true rfl⟩ hl.1 rfl (Nat.le_of_ble_eq_true rfl) d_L_law_256 ⟨by show _ ≤ 1035; omega, by show _ ≤ 8248; omega⟩ hS (fun H1 hz hk hS => ?_)
    have hPX := P1_kept hPX (hk qx (P1_lt hPX))
    have hPM := P1_kept hPM (hk qm (P1_lt hPM))
    have hPO := P1_kept hPO (hk qo (P1_lt hPO))
    generalize H1 = H at hPX hPM hPO hS ⊢
    have hold : ∀ q : Nat, q < s.heap.size → H[q]? = s.heap[q]? := fun q hq => hS.2.1 q hq (Nat.not_le.mpr hq)
    refine W.eq (g2 := F0 m 259 ls [.int (nI (1))]) rfl ?_
    refine lv_istore (lv' := [(5, .int (nI (1))), (0, .ref (b)), (1, .ref (qx)), (2, .ref (qm)), (3, .ref (qo)), (4, .int (nI (5 * j)))]) hx hb d_L_law_259 hl (by decide) rfl (fun ls hl => ?_)
    refine lv_aload_n hx hb d_L_law_261 rfl (lv_at hl 3 rfl) ?_
    refine lv_aload_n hx hb d_L_law_262 rfl (lv_at hl 1 rfl) ?_
    refine lv_iload hx hb d_L_law_263 (lv_at hl 5 rfl) ?_
    refine lv_iconst (v := nI (1)) hx hb d_L_law_265 (by decide) ?_
    refine lv_iadd hx hb d_L_law_266 ?_
    refine tI (nI (5 * j + 1)) (nI_add _ _) ?_
    refine va_sld hx hb hX hbl hbA hS (vp_in_nI (show 5 * j + 1 < Ln by omega) (by omega)) d_L_law_267 ?_
    refine tI (v1) (by rw [nI_clamp (show 5 * j + 1 < 2 ^ 31 by omega)]; exact hv1.symm) ?_
    refine lv_aload_n hx hb d_L_law_268 rfl (lv_at hl 1 rfl) ?_
    refine lv_iload hx hb d_L_law_269 (lv_at hl 5 rfl) ?_
    refine lv_iconst (v := nI (2)) hx hb d_L_law_271 (by decide) ?_
    refine lv_iadd hx hb d_L_law_272 ?_
    refine tI (nI (5 * j + 2)) (nI_add _ _) ?_
    refine va_sld hx hb hX hbl hbA hS (vp_in_nI (show 5 * j + 2 < Ln by omega) (by omega)) d_L_law_273 ?_
    refine tI (v2) (by rw [nI_clamp (show 5 * j + 2 < 2 ^ 31 by omega)]; exact hv2.symm) ?_
    refine lv_i2l (v := (v2).toInt64) hx hb d_L_law_274 (rfl) ?_
    refine lv_bipush (v := nI (32)) hx hb d_L_law_275 (by decide) ?_
    refine lv_lshl (v := (v2).toInt64 <<< ((nI (32)).toInt64 &&& 63)) hx hb d_L_law_277 (rfl) ?_
    refine lv_aload_n hx hb d_L_law_278 rfl (lv_at hl 1 rfl) ?_
    refine lv_iload hx hb d_L_law_279 (lv_at hl 5 rfl) ?_
    refine lv_iconst (v := nI (3)) hx hb d_L_law_281 (by decide) ?_
    refine lv_iadd hx hb d_L_law_282 ?_
    refine tI (nI (5 * j + 3)) (nI_add _ _) ?_
    refine va_sld hx hb hX hbl hbA hS (vp_in_nI (show 5 * j + 3 < Ln by omega) (by omega)) d_L_law_283 ?_
    refine tI (v3) (by rw [nI_clamp (show 5 * j + 3 < 2 ^ 31 by omega)]; exact hv3.symm) ?_
    refine lv_i2l (v := (v3).toInt64) hx hb d_L_law_284 (rfl) ?_
    refine lv_ldc2 hx hb hown (hw _ kl_L_66) d_L_law_285 ?_
    refine tL (lN (4294967295)) (by decide +kernel) ?_
    refine lv_land hx hb d_L_law_288 ?_
    refine tL ((v3).toInt64 &&& (lN (4294967295))) (rfl) ?_
    refine lv_lor hx hb d_L_law_289 ?_
    refine tL (ev) (hev.symm) ?_
    refine zVW (b := qm) (As := [.int (v1), .long (ev)]) (rest := []) ⟨hx, hb, hml, hown, hw⟩ (c_M_power_IJ_bad l D qm er pp qq gg G v1 ev hok) OM_B (OM_at hPM hK) (va_recv hK hPM (ci := 1) (q0 := 0) rfl rfl) g_L_71 rfl rfl pd_M_power_IJ ⟨Nat.le_of_ble_eq_true rfl, Nat.le_of_ble_eq_true rfl⟩ hl.1 rfl (Nat.le_of_ble_eq_true rfl) d_L_law_290 ⟨by show _ ≤ 1035; omega, by show _ ≤ 8248; omega⟩ hS gm (fun H1 locs hPM hz hk hS => ?_)
    have hPX := P1_kept hPX (hk qx (P1_lt hPX) nxm)
    have hPO := P1_kept hPO (hk qo (P1_lt hPO) (Ne.symm nmo))
    generalize H1 = H at hPX hPM hPO hS ⊢
    have hold : ∀ q : Nat, q < s.heap.size → H[q]? = s.heap[q]? := fun q hq => hS.2.1 q hq (Nat.not_le.mpr hq)
    have hPM : va_P D classes (oM qm (nI (1)) (lN (pp)) (lN (qq)) (lN (gg))) H := hPM
    refine W.eq (g2 := F0 m 293 ls [.int (nI (0))]) rfl ?_
    refine lv_istore (lv' := [(6, .int (nI (0))), (5, .int (nI (1))), (0, .ref (b)), (1, .ref (qx)), (2, .ref (qm)), (3, .ref (qo)), (4, .int (nI (5 * j)))]) hx hb d_L_law_293 hl (by decide) rfl (fun ls hl => ?_)
    refine lv_aload_n hx hb d_L_law_295 rfl (lv_at hl 4 rfl) ?_
    refine zV (b := qm) (As := []) (rest := []) ⟨hx, hb, hml, hown, hw⟩ (c_M_thrown l D qm (nI (1)) pp qq gg) OM_B (OM_at hPM hK) (va_recv hK hPM (ci := 1) (q0 := 0) rfl rfl) g_L_62 rfl rfl pd_M_thrown ⟨Nat.le_of_ble_eq_true rfl, Nat.le_of_ble_eq_true rfl⟩ hl.1 rfl (Nat.le_of_ble_eq_true rfl) d_L_law_296 ⟨by show _ ≤ 1035; omega, by show _ ≤ 8248; omega⟩ ?_
    refine W.eq (g2 := F0 m 299 ls [.int (nI (1))]) rfl ?_
    refine lv_iload hx hb d_L_law_299 (lv_at hl 1 rfl) ?_
    refine lv_icmp_eq (tgt := 306) hx hb d_L_law_301 (by decide) (fun _ => ?_) (fun z => absurd (rfl) z)
    refine lv_iload hx hb d_L_law_306 (lv_at hl 1 rfl) ?_
    refine lv_if_ne (tgt := 323) hx hb d_L_law_308 (by decide) (fun _ => ?_) (fun z => absurd z (by decide))
    refine lv_goto (tgt := 807) hx hb d_L_law_323 (by decide) ?_
    refine W.widen (by omega) (by omega) (kk (pp) (qq) (gg) (nI (1)) _ _ _ _ ⟨G, hPX, hPM, hPO, hS, lv_sub hl [2, 3, 4, 5, 6] rfl⟩)
