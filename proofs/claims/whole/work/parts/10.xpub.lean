/-! the public methods of the class: what they answer, when they throw -/
set_option maxHeartbeats 4000000 in
set_option maxRecDepth 100000 in
theorem c_X_member (l : Launch) (D : va_G) (h0 pp qq gg : Nat) (G : grp pp qq gg) (av : Int32) : Met l y_X_member (k_X_member :: wall) { frames := 3, cells := 0, slots := 0, locals := 70 } (zP [.ref (h0), .int (av)] (OX D h0 (nI (pp)) (nI (qq)) (nI (gg)))) (zR (some (.int (bI (mem av.toInt pp qq))))) 0 0 (fun _ => False) := by
  refine Met.ofW (cc := b_X_member) (maxL := 2) (ret := (some .boolean)) (by decide) rfl ?_
  intro p e s m args below meth c s₁ B hml hv
  obtain ⟨hv, hP, hK, hT⟩ := hv
  subst hv
  have hx := B.exec
  have hb := B.bytes
  have hr := B.returns
  have hts := atoms_spec (ws := k_X_member :: wall) B.pre
  have hw : ∀ w ∈ wall, w.before _ s = true := fun w h => hts w (List.mem_cons_of_mem _ h)
  have hown : s.vm.findClass R_X = some m.cls := findClass_of_methodNamed B.named
  have hlocks := B.notSynchronized
  have hl := lv_entry ([.ref (h0), .int (av)]) (n := 2) (Nat.le_of_ble_eq_true rfl)
  rw [lg_entry_eq]
  generalize (lg_sl ([.ref (h0), .int (av)]) ++ List.replicate (2 - (lg_sl ([.ref (h0), .int (av)])).length) Slot.unset).toArray = ls at hl ⊢
  have hl : lv_has ls 2 [(0, .ref (h0)), (1, .int (av))] := hl
  generalize ([.ref (h0), .int (av)] : List Value).toArray = args at B hts hw ⊢
  have hp5 : 5 ≤ pp := by have := G.1; have := G.2.2.1.1; omega
  have hp := G.2.2.2.2.2.2
  have hq2 : 2 ≤ qq := G.2.2.1.1
  have hq : qq < 2 ^ 31 := by have := G.1; omega
  have hgp : gg < pp := G.2.2.2.2.1
  refine lv_iload_n hx hb d_X_member_0 rfl (lv_at hl 1 rfl) ?_
  refine lv_aload_n hx hb d_X_member_1 rfl (lv_at hl 0 rfl) ?_
  refine va_get (D := D) (ci := 0) (v := .int (nI (pp))) (C := R_X) (T := F_X) (N := 3) hx hb hw i_X hown hK hP 0 rfl rfl 0 (by decide) (hw _ fl_X_7) (fun _ h9 => h9) rfl d_X_member_2 ?_
  refine zS (As := [.int (av), .int (nI (pp))]) (rest := []) ⟨hx, hb, hml, hown, hw⟩ (c_X_isMember l av pp (by omega) hp) g_X_27 rfl rfl pd_X_isMember ⟨Nat.le_of_ble_eq_true rfl, Nat.le_of_ble_eq_true rfl⟩ hl.1 rfl (Nat.le_of_ble_eq_true rfl) d_X_member_5 ⟨Nat.zero_le _, Nat.zero_le _⟩ ?_
  refine W.eq (g2 := F0 m 8 ls [.int (bI (mem av.toInt pp ((pp - 1) / 2)))]) rfl ?_
  refine tI (bI (mem av.toInt pp qq)) (by rw [grp_half G]) ?_
  exact W.zret (ty := .boolean) hx hb hr (bI_n _) (fun t ht _ => ⟨rfl, ht⟩) (fun _ h => nomatch h) d_X_member_8
set_option maxHeartbeats 4000000 in
set_option maxRecDepth 100000 in
theorem c_X_product_ok (l : Launch) (D : va_G) (h0 pp qq gg : Nat) (G : grp pp qq gg) (aa bb : Nat) (h1 : aa < pp) (h2 : bb < pp) : Met l y_X_product (k_X_product :: wall) { frames := 7, cells := 0, slots := 0, locals := 103 } (zP [.ref (h0), .int (nI (aa)), .int (nI (bb))] (OX D h0 (nI (pp)) (nI (qq)) (nI (gg)))) (zR (some (.int (nI (aa * bb % pp))))) 0 0 (fun _ => False) := by
  refine Met.ofW (cc := b_X_product) (maxL := 3) (ret := (some .int)) (by decide) rfl ?_
  intro p e s m args below meth c s₁ B hml hv
  obtain ⟨hv, hP, hK, hT⟩ := hv
  subst hv
  have hx := B.exec
  have hb := B.bytes
  have hr := B.returns
  have hts := atoms_spec (ws := k_X_product :: wall) B.pre
  have hw : ∀ w ∈ wall, w.before _ s = true := fun w h => hts w (List.mem_cons_of_mem _ h)
  have hown : s.vm.findClass R_X = some m.cls := findClass_of_methodNamed B.named
  have hlocks := B.notSynchronized
  have hl := lv_entry ([.ref (h0), .int (nI (aa)), .int (nI (bb))]) (n := 3) (Nat.le_of_ble_eq_true rfl)
  rw [lg_entry_eq]
  generalize (lg_sl ([.ref (h0), .int (nI (aa)), .int (nI (bb))]) ++ List.replicate (3 - (lg_sl ([.ref (h0), .int (nI (aa)), .int (nI (bb))])).length) Slot.unset).toArray = ls at hl ⊢
  have hl : lv_has ls 3 [(0, .ref (h0)), (1, .int (nI (aa))), (2, .int (nI (bb)))] := hl
  generalize ([.ref (h0), .int (nI (aa)), .int (nI (bb))] : List Value).toArray = args at B hts hw ⊢
  have hp5 : 5 ≤ pp := by have := G.1; have := G.2.2.1.1; omega
  have hp := G.2.2.2.2.2.2
  have hq2 : 2 ≤ qq := G.2.2.1.1
  have hq : qq < 2 ^ 31 := by have := G.1; omega
  have hgp : gg < pp := G.2.2.2.2.1
  have r_aa : res (nI (aa)).toInt pp := by rw [nI_toInt (by omega)]; exact ⟨by omega, by omega⟩
  have r_bb : res (nI (bb)).toInt pp := by rw [nI_toInt (by omega)]; exact ⟨by omega, by omega⟩
  refine lv_aload_n hx hb d_X_product_0 rfl (lv_at hl 0 rfl) ?_
  refine lv_iload_n hx hb d_X_product_1 rfl (lv_at hl 1 rfl) ?_
  refine zV (b := h0) (As := [.int (nI (aa))]) (rest := []) ⟨hx, hb, hml, hown, hw⟩ (c_X_requireResidue_ok l D h0 pp qq gg hp (nI (aa)) r_aa) OX_B (OX_at hP hK hT (fun _ _ => rfl)) (va_recv hK hP (ci := 0) (q0 := 0) rfl rfl) g_X_30 rfl rfl pd_X_requireResidue ⟨Nat.le_of_ble_eq_true rfl, Nat.le_of_ble_eq_true rfl⟩ hl.1 rfl (Nat.le_of_ble_eq_true rfl) d_X_product_2 ⟨Nat.zero_le _, Nat.zero_le _⟩ ?_
  refine W.eq (g2 := F0 m 5 ls []) rfl ?_
  refine lv_aload_n hx hb d_X_product_5 rfl (lv_at hl 0 rfl) ?_
  refine lv_iload_n hx hb d_X_product_6 rfl (lv_at hl 2 rfl) ?_
  refine zV (b := h0) (As := [.int (nI (bb))]) (rest := []) ⟨hx, hb, hml, hown, hw⟩ (c_X_requireResidue_ok l D h0 pp qq gg hp (nI (bb)) r_bb) OX_B (OX_at hP hK hT (fun _ _ => rfl)) (va_recv hK hP (ci := 0) (q0 := 0) rfl rfl) g_X_30 rfl rfl pd_X_requireResidue ⟨Nat.le_of_ble_eq_true rfl, Nat.le_of_ble_eq_true rfl⟩ hl.1 rfl (Nat.le_of_ble_eq_true rfl) d_X_product_7 ⟨Nat.zero_le _, Nat.zero_le _⟩ ?_
  refine W.eq (g2 := F0 m 10 ls []) rfl ?_
  refine lv_iload_n hx hb d_X_product_10 rfl (lv_at hl 1 rfl) ?_
  refine lv_iload_n hx hb d_X_product_11 rfl (lv_at hl 2 rfl) ?_
  refine lv_aload_n hx hb d_X_product_12 rfl (lv_at hl 0 rfl) ?_
  refine va_get (D := D) (ci := 0) (v := .int (nI (pp))) (C := R_X) (T := F_X) (N := 3) hx hb hw i_X hown hK hP 0 rfl rfl 0 (by decide) (hw _ fl_X_7) (fun _ h9 => h9) rfl d_X_product_13 ?_
  refine zS (As := [.int (nI (aa)), .int (nI (bb)), .int (nI (pp))]) (rest := []) ⟨hx, hb, hml, hown, hw⟩ (c_X_times l aa bb pp (by omega) (by omega) (by omega) hp) g_X_34 rfl rfl pd_X_times ⟨Nat.le_of_ble_eq_true rfl, Nat.le_of_ble_eq_true rfl⟩ hl.1 rfl (Nat.le_of_ble_eq_true rfl) d_X_product_16 ⟨Nat.zero_le _, Nat.zero_le _⟩ ?_
  refine W.eq (g2 := F0 m 19 ls [.int (nI (aa * bb % pp))]) rfl ?_
  exact W.iret hx hb hr (fun t ht _ => ⟨rfl, ht⟩) (fun _ h => nomatch h) d_X_product_19
set_option maxHeartbeats 4000000 in
set_option maxRecDepth 100000 in
theorem c_X_product_bad (l : Launch) (hL : l.stackTraces = false) (D : va_G) (h0 pp qq gg : Nat) (G : grp pp qq gg) (av bv : Int32) (hno : ¬ (res av.toInt pp ∧ res bv.toInt pp)) : vx_Met l y_X_product (k_X_product :: wall) { frames := 7, cells := 1, slots := 6, locals := 103 } (zP [.ref (h0), .int (av), .int (bv)] (OX D h0 (nI (pp)) (nI (qq)) (nI (gg)))) (fun _ _ _ _ => False) (zT IAE) 1 6 (fun _ => False) := by
  refine vx_ofW (cc := b_X_product) (maxL := 3) (ret := (some .int)) (by decide) rfl ?_
  intro p e s m args below meth c s₁ B hml ht hv
  obtain ⟨hv, hP, hK, hT⟩ := hv
  subst hv
  have hx := B.exec
  have hb := B.bytes
  have hr := B.returns
  have hts := atoms_spec (ws := k_X_product :: wall) B.pre
  have hw : ∀ w ∈ wall, w.before _ s = true := fun w h => hts w (List.mem_cons_of_mem _ h)
  have hown : s.vm.findClass R_X = some m.cls := findClass_of_methodNamed B.named
  have hlocks := B.notSynchronized
  have hl := lv_entry ([.ref (h0), .int (av), .int (bv)]) (n := 3) (Nat.le_of_ble_eq_true rfl)
  rw [lg_entry_eq]
  generalize (lg_sl ([.ref (h0), .int (av), .int (bv)]) ++ List.replicate (3 - (lg_sl ([.ref (h0), .int (av), .int (bv)])).length) Slot.unset).toArray = ls at hl ⊢
  have hl : lv_has ls 3 [(0, .ref (h0)), (1, .int (av)), (2, .int (bv))] := hl
  generalize ([.ref (h0), .int (av), .int (bv)] : List Value).toArray = args at B hts hw ⊢
  have hp5 : 5 ≤ pp := by have := G.1; have := G.2.2.1.1; omega
  have hp := G.2.2.2.2.2.2
  have hq2 : 2 ≤ qq := G.2.2.1.1
  have hq : qq < 2 ^ 31 := by have := G.1; omega
  have hgp : gg < pp := G.2.2.2.2.1
  by_cases h1 : res av.toInt pp
  · refine lv_aload_n hx hb d_X_product_0 rfl (lv_at hl 0 rfl) ?_
    refine lv_iload_n hx hb d_X_product_1 rfl (lv_at hl 1 rfl) ?_
    refine zV (b := h0) (As := [.int (av)]) (rest := []) ⟨hx, hb, hml, hown, hw⟩ (c_X_requireResidue_ok l D h0 pp qq gg hp av h1) OX_B (OX_at hP hK hT (fun _ _ => rfl)) (va_recv hK hP (ci := 0) (q0 := 0) rfl rfl) g_X_30 rfl rfl pd_X_requireResidue ⟨Nat.le_of_ble_eq_true rfl, Nat.le_of_ble_eq_true rfl⟩ hl.1 rfl (Nat.le_of_ble_eq_true rfl) d_X_product_2 ⟨Nat.zero_le _, Nat.zero_le _⟩ ?_
    refine W.eq (g2 := F0 m 5 ls []) rfl ?_
    refine lv_aload_n hx hb d_X_product_5 rfl (lv_at hl 0 rfl) ?_
    refine lv_iload_n hx hb d_X_product_6 rfl (lv_at hl 2 rfl) ?_
    exact zXo ht hlocks (zXr (b := h0) (As := [.int (bv)]) (rest := []) ⟨hx, hb, hml, hown, hw⟩ (c_X_requireResidue_bad l hL D h0 pp qq gg hp bv (fun z => hno ⟨h1, z⟩)) OX_B (OX_at hP hK hT (fun _ _ => rfl)) (va_recv hK hP (ci := 0) (q0 := 0) rfl rfl) g_X_30 rfl rfl pd_X_requireResidue ⟨Nat.le_of_ble_eq_true rfl, Nat.le_of_ble_eq_true rfl⟩ hl.1 rfl (Nat.le_of_ble_eq_true rfl) d_X_product_7 ⟨Nat.le_of_ble_eq_true rfl, Nat.le_of_ble_eq_true rfl⟩)
  · refine lv_aload_n hx hb d_X_product_0 rfl (lv_at hl 0 rfl) ?_
    refine lv_iload_n hx hb d_X_product_1 rfl (lv_at hl 1 rfl) ?_
    exact zXo ht hlocks (zXr (b := h0) (As := [.int (av)]) (rest := []) ⟨hx, hb, hml, hown, hw⟩ (c_X_requireResidue_bad l hL D h0 pp qq gg hp av h1) OX_B (OX_at hP hK hT (fun _ _ => rfl)) (va_recv hK hP (ci := 0) (q0 := 0) rfl rfl) g_X_30 rfl rfl pd_X_requireResidue ⟨Nat.le_of_ble_eq_true rfl, Nat.le_of_ble_eq_true rfl⟩ hl.1 rfl (Nat.le_of_ble_eq_true rfl) d_X_product_2 ⟨Nat.le_of_ble_eq_true rfl, Nat.le_of_ble_eq_true rfl⟩)
set_option maxHeartbeats 4000000 in
set_option maxRecDepth 100000 in
theorem c_X_power_ok (l : Launch) (D : va_G) (h0 pp qq gg : Nat) (G : grp pp qq gg) (aa ee : Nat) (h1 : aa < pp) (h2 : ee < 2 ^ 63) : Met l y_X_power (k_X_power :: wall) { frames := 7, cells := 0, slots := 0, locals := 103 } (zP [.ref (h0), .int (nI (aa)), .long (lN (ee))] (OX D h0 (nI (pp)) (nI (qq)) (nI (gg)))) (zR (some (.int (nI (aa ^ ee % pp))))) 0 0 (fun _ => False) := by
  refine Met.ofW (cc := b_X_power) (maxL := 4) (ret := (some .int)) (by decide) rfl ?_
  intro p e s m args below meth c s₁ B hml hv
  obtain ⟨hv, hP, hK, hT⟩ := hv
  subst hv
  have hx := B.exec
  have hb := B.bytes
  have hr := B.returns
  have hts := atoms_spec (ws := k_X_power :: wall) B.pre
  have hw : ∀ w ∈ wall, w.before _ s = true := fun w h => hts w (List.mem_cons_of_mem _ h)
  have hown : s.vm.findClass R_X = some m.cls := findClass_of_methodNamed B.named
  have hlocks := B.notSynchronized
  have hl := lv_entry ([.ref (h0), .int (nI (aa)), .long (lN (ee))]) (n := 4) (Nat.le_of_ble_eq_true rfl)
  rw [lg_entry_eq]
  generalize (lg_sl ([.ref (h0), .int (nI (aa)), .long (lN (ee))]) ++ List.replicate (4 - (lg_sl ([.ref (h0), .int (nI (aa)), .long (lN (ee))])).length) Slot.unset).toArray = ls at hl ⊢
  have hl : lv_has ls 4 [(0, .ref (h0)), (1, .int (nI (aa))), (2, .long (lN (ee)))] := hl
  generalize ([.ref (h0), .int (nI (aa)), .long (lN (ee))] : List Value).toArray = args at B hts hw ⊢
  have hp5 : 5 ≤ pp := by have := G.1; have := G.2.2.1.1; omega
  have hp := G.2.2.2.2.2.2
  have hq2 : 2 ≤ qq := G.2.2.1.1
  have hq : qq < 2 ^ 31 := by have := G.1; omega
  have hgp : gg < pp := G.2.2.2.2.1
  have r_aa : res (nI (aa)).toInt pp := by rw [nI_toInt (by omega)]; exact ⟨by omega, by omega⟩
  refine lv_aload_n hx hb d_X_power_0 rfl (lv_at hl 0 rfl) ?_
  refine lv_iload_n hx hb d_X_power_1 rfl (lv_at hl 1 rfl) ?_
  refine zV (b := h0) (As := [.int (nI (aa))]) (rest := []) ⟨hx, hb, hml, hown, hw⟩ (c_X_requireResidue_ok l D h0 pp qq gg hp (nI (aa)) r_aa) OX_B (OX_at hP hK hT (fun _ _ => rfl)) (va_recv hK hP (ci := 0) (q0 := 0) rfl rfl) g_X_30 rfl rfl pd_X_requireResidue ⟨Nat.le_of_ble_eq_true rfl, Nat.le_of_ble_eq_true rfl⟩ hl.1 rfl (Nat.le_of_ble_eq_true rfl) d_X_power_2 ⟨Nat.zero_le _, Nat.zero_le _⟩ ?_
  refine W.eq (g2 := F0 m 5 ls []) rfl ?_
  refine lv_lload_n hx hb d_X_power_5 rfl (lv_at hl 2 rfl) ?_
  refine lv_lconst (v := lN (0)) hx hb d_X_power_6 (by decide) ?_
  refine W.lcmp hx hb d_X_power_7 ?_
  refine lv_if_ge (tgt := 21) hx hb d_X_power_8 (by decide) (fun _ => ?_) (fun z => absurd ((lg_cmp_ge _ _).mpr ((pk_lLE (by decide) h2).mpr (by omega))) z)
  refine lv_iload_n hx hb d_X_power_21 rfl (lv_at hl 1 rfl) ?_
  refine lv_lload_n hx hb d_X_power_22 rfl (lv_at hl 2 rfl) ?_
  refine lv_aload_n hx hb d_X_power_23 rfl (lv_at hl 0 rfl) ?_
  refine va_get (D := D) (ci := 0) (v := .int (nI (pp))) (C := R_X) (T := F_X) (N := 3) hx hb hw i_X hown hK hP 0 rfl rfl 0 (by decide) (hw _ fl_X_7) (fun _ h9 => h9) rfl d_X_power_24 ?_
  refine zS (As := [.int (nI (aa)), .long (lN (ee)), .int (nI (pp))]) (rest := []) ⟨hx, hb, hml, hown, hw⟩ (c_X_raised l aa ee pp h1 h2 (by omega) hp) g_X_45 rfl rfl pd_X_raised ⟨Nat.le_of_ble_eq_true rfl, Nat.le_of_ble_eq_true rfl⟩ hl.1 rfl (Nat.le_of_ble_eq_true rfl) d_X_power_27 ⟨Nat.zero_le _, Nat.zero_le _⟩ ?_
  refine W.eq (g2 := F0 m 30 ls [.int (nI (aa ^ ee % pp))]) rfl ?_
  exact W.iret hx hb hr (fun t ht _ => ⟨rfl, ht⟩) (fun _ h => nomatch h) d_X_power_30
set_option maxHeartbeats 4000000 in
set_option maxRecDepth 100000 in
theorem c_X_power_bad (l : Launch) (hL : l.stackTraces = false) (D : va_G) (h0 pp qq gg : Nat) (G : grp pp qq gg) (av : Int32) (ev : Int64) (hno : ¬ (res av.toInt pp ∧ 0 ≤ ev.toInt)) : vx_Met l y_X_power (k_X_power :: wall) { frames := 7, cells := 1, slots := 6, locals := 103 } (zP [.ref (h0), .int (av), .long (ev)] (OX D h0 (nI (pp)) (nI (qq)) (nI (gg)))) (fun _ _ _ _ => False) (zT IAE) 1 6 (fun _ => False) := by
  refine vx_ofW (cc := b_X_power) (maxL := 4) (ret := (some .int)) (by decide) rfl ?_
  intro p e s m args below meth c s₁ B hml ht hv
  obtain ⟨hv, hP, hK, hT⟩ := hv
  subst hv
  have hx := B.exec
  have hb := B.bytes
  have hr := B.returns
  have hts := atoms_spec (ws := k_X_power :: wall) B.pre
  have hw : ∀ w ∈ wall, w.before _ s = true := fun w h => hts w (List.mem_cons_of_mem _ h)
  have hown : s.vm.findClass R_X = some m.cls := findClass_of_methodNamed B.named
  have hlocks := B.notSynchronized
  have hl := lv_entry ([.ref (h0), .int (av), .long (ev)]) (n := 4) (Nat.le_of_ble_eq_true rfl)
  rw [lg_entry_eq]
  generalize (lg_sl ([.ref (h0), .int (av), .long (ev)]) ++ List.replicate (4 - (lg_sl ([.ref (h0), .int (av), .long (ev)])).length) Slot.unset).toArray = ls at hl ⊢
  have hl : lv_has ls 4 [(0, .ref (h0)), (1, .int (av)), (2, .long (ev))] := hl
  generalize ([.ref (h0), .int (av), .long (ev)] : List Value).toArray = args at B hts hw ⊢
  have hp5 : 5 ≤ pp := by have := G.1; have := G.2.2.1.1; omega
  have hp := G.2.2.2.2.2.2
  have hq2 : 2 ≤ qq := G.2.2.1.1
  have hq : qq < 2 ^ 31 := by have := G.1; omega
  have hgp : gg < pp := G.2.2.2.2.1
  by_cases h1 : res av.toInt pp
  · refine lv_aload_n hx hb d_X_power_0 rfl (lv_at hl 0 rfl) ?_
    refine lv_iload_n hx hb d_X_power_1 rfl (lv_at hl 1 rfl) ?_
    refine zV (b := h0) (As := [.int (av)]) (rest := []) ⟨hx, hb, hml, hown, hw⟩ (c_X_requireResidue_ok l D h0 pp qq gg hp av h1) OX_B (OX_at hP hK hT (fun _ _ => rfl)) (va_recv hK hP (ci := 0) (q0 := 0) rfl rfl) g_X_30 rfl rfl pd_X_requireResidue ⟨Nat.le_of_ble_eq_true rfl, Nat.le_of_ble_eq_true rfl⟩ hl.1 rfl (Nat.le_of_ble_eq_true rfl) d_X_power_2 ⟨Nat.zero_le _, Nat.zero_le _⟩ ?_
    refine W.eq (g2 := F0 m 5 ls []) rfl ?_
    refine lv_lload_n hx hb d_X_power_5 rfl (lv_at hl 2 rfl) ?_
    refine lv_lconst (v := lN (0)) hx hb d_X_power_6 (by decide) ?_
    refine W.lcmp hx hb d_X_power_7 ?_
    refine lv_if_ge (tgt := 21) hx hb d_X_power_8 (by decide) (fun z => absurd z (fun z9 => (fun z => hno ⟨h1, by have := lle.mp z; exact this⟩) ((lg_cmp_ge _ _).mp z9))) (fun _ => ?_)
    exact zThr (cls := IAE) (text := "the exponent is below 0") (ik := 38) (is := 40) (ic := 42) hx hb hL hown hw hT (by decide +kernel) at_IAE an_IAE hT.1 ao_IAE cl_X_38 in_IllegalArgumentException (by decide +kernel) hml hl.1 ht hlocks d_X_power_11 d_X_power_14 d_X_power_15 d_X_power_17 d_X_power_20 (Nat.le_of_ble_eq_true rfl) (Nat.le_of_ble_eq_true rfl) (Nat.le_of_ble_eq_true rfl) (Nat.le_of_ble_eq_true rfl)
  · refine lv_aload_n hx hb d_X_power_0 rfl (lv_at hl 0 rfl) ?_
    refine lv_iload_n hx hb d_X_power_1 rfl (lv_at hl 1 rfl) ?_
    exact zXo ht hlocks (zXr (b := h0) (As := [.int (av)]) (rest := []) ⟨hx, hb, hml, hown, hw⟩ (c_X_requireResidue_bad l hL D h0 pp qq gg hp av h1) OX_B (OX_at hP hK hT (fun _ _ => rfl)) (va_recv hK hP (ci := 0) (q0 := 0) rfl rfl) g_X_30 rfl rfl pd_X_requireResidue ⟨Nat.le_of_ble_eq_true rfl, Nat.le_of_ble_eq_true rfl⟩ hl.1 rfl (Nat.le_of_ble_eq_true rfl) d_X_power_2 ⟨Nat.le_of_ble_eq_true rfl, Nat.le_of_ble_eq_true rfl⟩)
set_option maxHeartbeats 4000000 in
set_option maxRecDepth 100000 in
theorem c_X_inverse_ok (l : Launch) (D : va_G) (h0 pp qq gg : Nat) (G : grp pp qq gg) (aa : Nat) (h0a : 1 ≤ aa) (h1 : aa < pp) : Met l y_X_inverse (k_X_inverse :: wall) { frames := 7, cells := 0, slots := 0, locals := 103 } (zP [.ref (h0), .int (nI (aa))] (OX D h0 (nI (pp)) (nI (qq)) (nI (gg)))) (zR (some (.int (nI (aa ^ (pp - 2) % pp))))) 0 0 (fun _ => False) := by
  refine Met.ofW (cc := b_X_inverse) (maxL := 2) (ret := (some .int)) (by decide) rfl ?_
  intro p e s m args below meth c s₁ B hml hv
  obtain ⟨hv, hP, hK, hT⟩ := hv
  subst hv
  have hx := B.exec
  have hb := B.bytes
  have hr := B.returns
  have hts := atoms_spec (ws := k_X_inverse :: wall) B.pre
  have hw : ∀ w ∈ wall, w.before _ s = true := fun w h => hts w (List.mem_cons_of_mem _ h)
  have hown : s.vm.findClass R_X = some m.cls := findClass_of_methodNamed B.named
  have hlocks := B.notSynchronized
  have hl := lv_entry ([.ref (h0), .int (nI (aa))]) (n := 2) (Nat.le_of_ble_eq_true rfl)
  rw [lg_entry_eq]
  generalize (lg_sl ([.ref (h0), .int (nI (aa))]) ++ List.replicate (2 - (lg_sl ([.ref (h0), .int (nI (aa))])).length) Slot.unset).toArray = ls at hl ⊢
  have hl : lv_has ls 2 [(0, .ref (h0)), (1, .int (nI (aa)))] := hl
  generalize ([.ref (h0), .int (nI (aa))] : List Value).toArray = args at B hts hw ⊢
  have hp5 : 5 ≤ pp := by have := G.1; have := G.2.2.1.1; omega
  have hp := G.2.2.2.2.2.2
  have hq2 : 2 ≤ qq := G.2.2.1.1
  have hq : qq < 2 ^ 31 := by have := G.1; omega
  have hgp : gg < pp := G.2.2.2.2.1
  have r_aa : res (nI (aa)).toInt pp := by rw [nI_toInt (by omega)]; exact ⟨by omega, by omega⟩
  refine lv_aload_n hx hb d_X_inverse_0 rfl (lv_at hl 0 rfl) ?_
  refine lv_iload_n hx hb d_X_inverse_1 rfl (lv_at hl 1 rfl) ?_
  refine zV (b := h0) (As := [.int (nI (aa))]) (rest := []) ⟨hx, hb, hml, hown, hw⟩ (c_X_requireResidue_ok l D h0 pp qq gg hp (nI (aa)) r_aa) OX_B (OX_at hP hK hT (fun _ _ => rfl)) (va_recv hK hP (ci := 0) (q0 := 0) rfl rfl) g_X_30 rfl rfl pd_X_requireResidue ⟨Nat.le_of_ble_eq_true rfl, Nat.le_of_ble_eq_true rfl⟩ hl.1 rfl (Nat.le_of_ble_eq_true rfl) d_X_inverse_2 ⟨Nat.zero_le _, Nat.zero_le _⟩ ?_
  refine W.eq (g2 := F0 m 5 ls []) rfl ?_
  refine lv_iload_n hx hb d_X_inverse_5 rfl (lv_at hl 1 rfl) ?_
  refine lv_if_ne (tgt := 19) hx hb d_X_inverse_6 (by decide) (fun _ => ?_) (fun z => absurd z (nI_ne0 (by omega) (by omega)))
  refine lv_iload_n hx hb d_X_inverse_19 rfl (lv_at hl 1 rfl) ?_
  refine lv_aload_n hx hb d_X_inverse_20 rfl (lv_at hl 0 rfl) ?_
  refine va_get (D := D) (ci := 0) (v := .int (nI (pp))) (C := R_X) (T := F_X) (N := 3) hx hb hw i_X hown hK hP 0 rfl rfl 0 (by decide) (hw _ fl_X_7) (fun _ h9 => h9) rfl d_X_inverse_21 ?_
  refine zS (As := [.int (nI (aa)), .int (nI (pp))]) (rest := []) ⟨hx, hb, hml, hown, hw⟩ (c_X_inverted l aa pp h1 (by omega) hp) g_X_51 rfl rfl pd_X_inverted ⟨Nat.le_of_ble_eq_true rfl, Nat.le_of_ble_eq_true rfl⟩ hl.1 rfl (Nat.le_of_ble_eq_true rfl) d_X_inverse_24 ⟨Nat.zero_le _, Nat.zero_le _⟩ ?_
  refine W.eq (g2 := F0 m 27 ls [.int (nI (aa ^ (pp - 2) % pp))]) rfl ?_
  exact W.iret hx hb hr (fun t ht _ => ⟨rfl, ht⟩) (fun _ h => nomatch h) d_X_inverse_27
set_option maxHeartbeats 4000000 in
set_option maxRecDepth 100000 in
theorem c_X_inverse_bad (l : Launch) (hL : l.stackTraces = false) (D : va_G) (h0 pp qq gg : Nat) (G : grp pp qq gg) (av : Int32) (hno : ¬ (1 ≤ av.toInt ∧ av.toInt < pp)) : vx_Met l y_X_inverse (k_X_inverse :: wall) { frames := 7, cells := 1, slots := 6, locals := 103 } (zP [.ref (h0), .int (av)] (OX D h0 (nI (pp)) (nI (qq)) (nI (gg)))) (fun _ _ _ _ => False) (zT IAE) 1 6 (fun _ => False) := by
  refine vx_ofW (cc := b_X_inverse) (maxL := 2) (ret := (some .int)) (by decide) rfl ?_
  intro p e s m args below meth c s₁ B hml ht hv
  obtain ⟨hv, hP, hK, hT⟩ := hv
  subst hv
  have hx := B.exec
  have hb := B.bytes
  have hr := B.returns
  have hts := atoms_spec (ws := k_X_inverse :: wall) B.pre
  have hw : ∀ w ∈ wall, w.before _ s = true := fun w h => hts w (List.mem_cons_of_mem _ h)
  have hown : s.vm.findClass R_X = some m.cls := findClass_of_methodNamed B.named
  have hlocks := B.notSynchronized
  have hl := lv_entry ([.ref (h0), .int (av)]) (n := 2) (Nat.le_of_ble_eq_true rfl)
  rw [lg_entry_eq]
  generalize (lg_sl ([.ref (h0), .int (av)]) ++ List.replicate (2 - (lg_sl ([.ref (h0), .int (av)])).length) Slot.unset).toArray = ls at hl ⊢
  have hl : lv_has ls 2 [(0, .ref (h0)), (1, .int (av))] := hl
  generalize ([.ref (h0), .int (av)] : List Value).toArray = args at B hts hw ⊢
  have hp5 : 5 ≤ pp := by have := G.1; have := G.2.2.1.1; omega
  have hp := G.2.2.2.2.2.2
  have hq2 : 2 ≤ qq := G.2.2.1.1
  have hq : qq < 2 ^ 31 := by have := G.1; omega
  have hgp : gg < pp := G.2.2.2.2.1
  by_cases h1 : res av.toInt pp
  · refine lv_aload_n hx hb d_X_inverse_0 rfl (lv_at hl 0 rfl) ?_
    refine lv_iload_n hx hb d_X_inverse_1 rfl (lv_at hl 1 rfl) ?_
    refine zV (b := h0) (As := [.int (av)]) (rest := []) ⟨hx, hb, hml, hown, hw⟩ (c_X_requireResidue_ok l D h0 pp qq gg hp av h1) OX_B (OX_at hP hK hT (fun _ _ => rfl)) (va_recv hK hP (ci := 0) (q0 := 0) rfl rfl) g_X_30 rfl rfl pd_X_requireResidue ⟨Nat.le_of_ble_eq_true rfl, Nat.le_of_ble_eq_true rfl⟩ hl.1 rfl (Nat.le_of_ble_eq_true rfl) d_X_inverse_2 ⟨Nat.zero_le _, Nat.zero_le _⟩ ?_
    refine W.eq (g2 := F0 m 5 ls []) rfl ?_
    refine lv_iload_n hx hb d_X_inverse_5 rfl (lv_at hl 1 rfl) ?_
    refine lv_if_ne (tgt := 19) hx hb d_X_inverse_6 (by decide) (fun z => absurd (ieq.mpr (by rw [i0]; have := h1.1; have := h1.2; omega)) z) (fun _ => ?_)
    exact zThr (cls := IAE) (text := "0 has no inverse") (ik := 38) (is := 49) (ic := 42) hx hb hL hown hw hT (by decide +kernel) at_IAE an_IAE hT.1 ao_IAE cl_X_38 in_IllegalArgumentException (by decide +kernel) hml hl.1 ht hlocks d_X_inverse_9 d_X_inverse_12 d_X_inverse_13 d_X_inverse_15 d_X_inverse_18 (Nat.le_of_ble_eq_true rfl) (Nat.le_of_ble_eq_true rfl) (Nat.le_of_ble_eq_true rfl) (Nat.le_of_ble_eq_true rfl)
  · refine lv_aload_n hx hb d_X_inverse_0 rfl (lv_at hl 0 rfl) ?_
    refine lv_iload_n hx hb d_X_inverse_1 rfl (lv_at hl 1 rfl) ?_
    exact zXo ht hlocks (zXr (b := h0) (As := [.int (av)]) (rest := []) ⟨hx, hb, hml, hown, hw⟩ (c_X_requireResidue_bad l hL D h0 pp qq gg hp av h1) OX_B (OX_at hP hK hT (fun _ _ => rfl)) (va_recv hK hP (ci := 0) (q0 := 0) rfl rfl) g_X_30 rfl rfl pd_X_requireResidue ⟨Nat.le_of_ble_eq_true rfl, Nat.le_of_ble_eq_true rfl⟩ hl.1 rfl (Nat.le_of_ble_eq_true rfl) d_X_inverse_2 ⟨Nat.le_of_ble_eq_true rfl, Nat.le_of_ble_eq_true rfl⟩)
set_option maxHeartbeats 4000000 in
set_option maxRecDepth 100000 in
theorem c_X_log_ok (l : Launch) (D : va_G) (h0 pp qq gg : Nat) (G : grp pp qq gg) (yy x0 : Nat) (h1 : yy < pp) (hm : mem (nI (yy)).toInt pp qq) (h2 : pp ≤ 20000) (h3 : x0 < qq) (h4 : gg ^ x0 % pp = yy) : Met l y_X_log (k_X_log :: wall) { frames := 7, cells := 0, slots := 0, locals := 103 } (zP [.ref (h0), .int (nI (yy))] (OX D h0 (nI (pp)) (nI (qq)) (nI (gg)))) (zR (some (.int (nI (x0))))) 0 0 (fun _ => False) := by
  refine Met.ofW (cc := b_X_log) (maxL := 4) (ret := (some .int)) (by decide) rfl ?_
  intro p e s m args below meth c s₁ B hml hv
  obtain ⟨hv, hP, hK, hT⟩ := hv
  subst hv
  have hx := B.exec
  have hb := B.bytes
  have hr := B.returns
  have hts := atoms_spec (ws := k_X_log :: wall) B.pre
  have hw : ∀ w ∈ wall, w.before _ s = true := fun w h => hts w (List.mem_cons_of_mem _ h)
  have hown : s.vm.findClass R_X = some m.cls := findClass_of_methodNamed B.named
  have hlocks := B.notSynchronized
  have hl := lv_entry ([.ref (h0), .int (nI (yy))]) (n := 4) (Nat.le_of_ble_eq_true rfl)
  rw [lg_entry_eq]
  generalize (lg_sl ([.ref (h0), .int (nI (yy))]) ++ List.replicate (4 - (lg_sl ([.ref (h0), .int (nI (yy))])).length) Slot.unset).toArray = ls at hl ⊢
  have hl : lv_has ls 4 [(0, .ref (h0)), (1, .int (nI (yy)))] := hl
  generalize ([.ref (h0), .int (nI (yy))] : List Value).toArray = args at B hts hw ⊢
  have hp5 : 5 ≤ pp := by have := G.1; have := G.2.2.1.1; omega
  have hp := G.2.2.2.2.2.2
  have hq2 : 2 ≤ qq := G.2.2.1.1
  have hq : qq < 2 ^ 31 := by have := G.1; omega
  have hgp : gg < pp := G.2.2.2.2.1
  have loop : ∀ (n xx : Nat), x0 ≤ xx + n → xx ≤ x0 → ∀ ls : Array Slot, lv_has ls 4 [(0, .ref (h0)), (1, .int (nI (yy))), (2, .int (nI (xx))), (3, .int (nI (gg ^ xx % pp)))] →
      W p l e (headSpec (k_X_log :: wall) { frames := 7, cells := 0, slots := 0, locals := 103 }).room s m args below meth c s.heap [] 0 0 (MQ below (zR (some (.int (nI (x0))))) args s 0 0 (fun _ => False)) (F0 m 29 ls []) := by
    intro n
    induction n with
    | zero =>
      intro xx q1 q2 ls hl
      obtain rfl : xx = x0 := by omega
      have hlt : gg ^ xx % pp < pp := Nat.mod_lt _ (by omega)
      refine lv_iload_n hx hb d_X_log_29 rfl (lv_at hl 2 rfl) ?_
      refine lv_aload_n hx hb d_X_log_30 rfl (lv_at hl 0 rfl) ?_
      refine va_get (D := D) (ci := 0) (v := .int (nI (qq))) (C := R_X) (T := F_X) (N := 3) hx hb hw i_X hown hK hP 0 rfl rfl 1 (by decide) (hw _ fl_X_13) (fun _ h9 => h9) rfl d_X_log_31 ?_
      refine lv_iconst (v := nI (1)) hx hb d_X_log_34 (by decide) ?_
      refine lv_isub hx hb d_X_log_35 ?_
      refine tI (nI (qq - 1)) (pk_sub (by omega)) ?_
      refine lv_icmp_ge (tgt := 63) hx hb d_X_log_36 (by decide) (fun cc => ?_) (fun cc => ?_)
      · refine lv_iload_n hx hb d_X_log_63 rfl (lv_at hl 2 rfl) ?_
        exact W.iret hx hb hr (fun t ht _ => ⟨rfl, ht⟩) (fun _ h => nomatch h) d_X_log_64
      · refine lv_iload_n hx hb d_X_log_39 rfl (lv_at hl 3 rfl) ?_
        refine lv_iload_n hx hb d_X_log_40 rfl (lv_at hl 1 rfl) ?_
        refine lv_icmp_eq (tgt := 63) hx hb d_X_log_41 (by decide) (fun _ => ?_) (fun z => absurd (by rw [h4]) z)
        refine lv_iload_n hx hb d_X_log_63 rfl (lv_at hl 2 rfl) ?_
        exact W.iret hx hb hr (fun t ht _ => ⟨rfl, ht⟩) (fun _ h => nomatch h) d_X_log_64
    | succ n ih =>
      intro xx q1 q2 ls hl
      have hlt : gg ^ xx % pp < pp := Nat.mod_lt _ (by omega)
      refine lv_iload_n hx hb d_X_log_29 rfl (lv_at hl 2 rfl) ?_
      refine lv_aload_n hx hb d_X_log_30 rfl (lv_at hl 0 rfl) ?_
      refine va_get (D := D) (ci := 0) (v := .int (nI (qq))) (C := R_X) (T := F_X) (N := 3) hx hb hw i_X hown hK hP 0 rfl rfl 1 (by decide) (hw _ fl_X_13) (fun _ h9 => h9) rfl d_X_log_31 ?_
      refine lv_iconst (v := nI (1)) hx hb d_X_log_34 (by decide) ?_
      refine lv_isub hx hb d_X_log_35 ?_
      refine tI (nI (qq - 1)) (pk_sub (by omega)) ?_
      refine lv_icmp_ge (tgt := 63) hx hb d_X_log_36 (by decide) (fun cc => ?_) (fun cc => ?_)
      · have cc := (nI_leI (by omega) (by omega)).mp cc
        obtain rfl : xx = x0 := by omega
        refine lv_iload_n hx hb d_X_log_63 rfl (lv_at hl 2 rfl) ?_
        exact W.iret hx hb hr (fun t ht _ => ⟨rfl, ht⟩) (fun _ h => nomatch h) d_X_log_64
      · refine lv_iload_n hx hb d_X_log_39 rfl (lv_at hl 3 rfl) ?_
        refine lv_iload_n hx hb d_X_log_40 rfl (lv_at hl 1 rfl) ?_
        refine lv_icmp_eq (tgt := 63) hx hb d_X_log_41 (by decide) (fun cc => ?_) (fun cc => ?_)
        · have cc := (nI_eq (by omega) (by omega)).mp cc
          have hxx : xx = x0 := by
            rcases Nat.lt_or_ge xx x0 with h | h
            · exact (grp_inj G h h3 (by rw [h4]; exact cc)).elim
            · omega
          subst hxx
          refine lv_iload_n hx hb d_X_log_63 rfl (lv_at hl 2 rfl) ?_
          exact W.iret hx hb hr (fun t ht _ => ⟨rfl, ht⟩) (fun _ h => nomatch h) d_X_log_64
        · have hne : xx ≠ x0 := fun z => cc (by rw [z, h4])
          refine lv_iload_n hx hb d_X_log_44 rfl (lv_at hl 3 rfl) ?_
          refine lv_aload_n hx hb d_X_log_45 rfl (lv_at hl 0 rfl) ?_
          refine va_get (D := D) (ci := 0) (v := .int (nI (gg))) (C := R_X) (T := F_X) (N := 3) hx hb hw i_X hown hK hP 0 rfl rfl 2 (by decide) (hw _ fl_X_16) (fun _ h9 => h9) rfl d_X_log_46 ?_
          refine lv_aload_n hx hb d_X_log_49 rfl (lv_at hl 0 rfl) ?_
          refine va_get (D := D) (ci := 0) (v := .int (nI (pp))) (C := R_X) (T := F_X) (N := 3) hx hb hw i_X hown hK hP 0 rfl rfl 0 (by decide) (hw _ fl_X_7) (fun _ h9 => h9) rfl d_X_log_50 ?_
          refine zS (As := [.int (nI (gg ^ xx % pp)), .int (nI (gg)), .int (nI (pp))]) (rest := []) ⟨hx, hb, hml, hown, hw⟩ (c_X_times l (gg ^ xx % pp) gg pp (by omega) (by omega) (by omega) hp) g_X_34 rfl rfl pd_X_times ⟨Nat.le_of_ble_eq_true rfl, Nat.le_of_ble_eq_true rfl⟩ hl.1 rfl (Nat.le_of_ble_eq_true rfl) d_X_log_53 ⟨Nat.zero_le _, Nat.zero_le _⟩ ?_
          refine W.eq (g2 := F0 m 56 ls [.int (nI (gg ^ xx % pp * gg % pp))]) rfl ?_
          refine tI (nI (gg ^ (xx + 1) % pp)) (by rw [Nat.mod_mul_mod, ← Nat.pow_succ]) ?_
          refine lv_istore_n (lv' := [(3, .int (nI (gg ^ (xx + 1) % pp))), (0, .ref (h0)), (1, .int (nI (yy))), (2, .int (nI (xx)))]) hx hb d_X_log_56 rfl hl (by decide) rfl (fun ls hl => ?_)
          refine lv_iinc (v := nI (xx + 1)) (lv' := [(2, .int (nI (xx + 1))), (3, .int (nI (gg ^ (xx + 1) % pp))), (0, .ref (h0)), (1, .int (nI (yy)))]) hx hb d_X_log_57 hl (k := 3) rfl (nI_1 _) (by decide) rfl (fun ls hl => ?_)
          refine lv_goto (tgt := 29) hx hb d_X_log_60 (by decide) ?_
          exact ih (xx + 1) (by omega) (by omega) ls (lv_sub hl [2, 3, 0, 1] rfl)
  refine lv_aload_n hx hb d_X_log_0 rfl (lv_at hl 0 rfl) ?_
  refine lv_iload_n hx hb d_X_log_1 rfl (lv_at hl 1 rfl) ?_
  refine zV (b := h0) (As := [.int (nI (yy))]) (rest := []) ⟨hx, hb, hml, hown, hw⟩ (c_X_requireMember_ok l D h0 pp qq gg G (nI (yy)) hm) OX_B (OX_at hP hK hT (fun _ _ => rfl)) (va_recv hK hP (ci := 0) (q0 := 0) rfl rfl) g_X_55 rfl rfl pd_X_requireMember ⟨Nat.le_of_ble_eq_true rfl, Nat.le_of_ble_eq_true rfl⟩ hl.1 rfl (Nat.le_of_ble_eq_true rfl) d_X_log_2 ⟨Nat.zero_le _, Nat.zero_le _⟩ ?_
  refine W.eq (g2 := F0 m 5 ls []) rfl ?_
  refine lv_aload_n hx hb d_X_log_5 rfl (lv_at hl 0 rfl) ?_
  refine va_get (D := D) (ci := 0) (v := .int (nI (pp))) (C := R_X) (T := F_X) (N := 3) hx hb hw i_X hown hK hP 0 rfl rfl 0 (by decide) (hw _ fl_X_7) (fun _ h9 => h9) rfl d_X_log_6 ?_
  refine lv_sipush (v := nI (20000)) hx hb d_X_log_9 (by decide) ?_
  refine lv_icmp_le (tgt := 25) hx hb d_X_log_12 (by decide) (fun _ => ?_) (fun z => absurd (nI_le h2 (by decide)) z)
  refine lv_iconst (v := nI (0)) hx hb d_X_log_25 (by decide) ?_
  refine lv_istore_n (lv' := [(2, .int (nI (0))), (0, .ref (h0)), (1, .int (nI (yy)))]) hx hb d_X_log_26 rfl hl (by decide) rfl (fun ls hl => ?_)
  refine lv_iconst (v := nI (1)) hx hb d_X_log_27 (by decide) ?_
  refine lv_istore_n (lv' := [(3, .int (nI (1))), (2, .int (nI (0))), (0, .ref (h0)), (1, .int (nI (yy)))]) hx hb d_X_log_28 rfl hl (by decide) rfl (fun ls hl => ?_)
  have hl : lv_has ls 4 [(0, .ref (h0)), (1, .int (nI (yy))), (2, .int (nI (0))), (3, .int (nI (gg ^ 0 % pp)))] := by
    rw [Nat.pow_zero, Nat.mod_eq_of_lt (show 1 < pp by omega)]
    exact lv_sub hl [2, 3, 1, 0] rfl
  exact loop x0 0 (by omega) (by omega) ls hl
set_option maxHeartbeats 4000000 in
set_option maxRecDepth 100000 in
theorem c_X_log_bad (l : Launch) (hL : l.stackTraces = false) (D : va_G) (h0 pp qq gg : Nat) (G : grp pp qq gg) (av : Int32) (hno : ¬ mem av.toInt pp qq) : vx_Met l y_X_log (k_X_log :: wall) { frames := 7, cells := 1, slots := 6, locals := 103 } (zP [.ref (h0), .int (av)] (OX D h0 (nI (pp)) (nI (qq)) (nI (gg)))) (fun _ _ _ _ => False) (zT IAE) 1 6 (fun _ => False) := by
  refine vx_ofW (cc := b_X_log) (maxL := 4) (ret := (some .int)) (by decide) rfl ?_
  intro p e s m args below meth c s₁ B hml ht hv
  obtain ⟨hv, hP, hK, hT⟩ := hv
  subst hv
  have hx := B.exec
  have hb := B.bytes
  have hr := B.returns
  have hts := atoms_spec (ws := k_X_log :: wall) B.pre
  have hw : ∀ w ∈ wall, w.before _ s = true := fun w h => hts w (List.mem_cons_of_mem _ h)
  have hown : s.vm.findClass R_X = some m.cls := findClass_of_methodNamed B.named
  have hlocks := B.notSynchronized
  have hl := lv_entry ([.ref (h0), .int (av)]) (n := 4) (Nat.le_of_ble_eq_true rfl)
  rw [lg_entry_eq]
  generalize (lg_sl ([.ref (h0), .int (av)]) ++ List.replicate (4 - (lg_sl ([.ref (h0), .int (av)])).length) Slot.unset).toArray = ls at hl ⊢
  have hl : lv_has ls 4 [(0, .ref (h0)), (1, .int (av))] := hl
  generalize ([.ref (h0), .int (av)] : List Value).toArray = args at B hts hw ⊢
  have hp5 : 5 ≤ pp := by have := G.1; have := G.2.2.1.1; omega
  have hp := G.2.2.2.2.2.2
  have hq2 : 2 ≤ qq := G.2.2.1.1
  have hq : qq < 2 ^ 31 := by have := G.1; omega
  have hgp : gg < pp := G.2.2.2.2.1
  refine lv_aload_n hx hb d_X_log_0 rfl (lv_at hl 0 rfl) ?_
  refine lv_iload_n hx hb d_X_log_1 rfl (lv_at hl 1 rfl) ?_
  exact zXo ht hlocks (zXr (b := h0) (As := [.int (av)]) (rest := []) ⟨hx, hb, hml, hown, hw⟩ (c_X_requireMember_bad l hL D h0 pp qq gg G av hno) OX_B (OX_at hP hK hT (fun _ _ => rfl)) (va_recv hK hP (ci := 0) (q0 := 0) rfl rfl) g_X_55 rfl rfl pd_X_requireMember ⟨Nat.le_of_ble_eq_true rfl, Nat.le_of_ble_eq_true rfl⟩ hl.1 rfl (Nat.le_of_ble_eq_true rfl) d_X_log_2 ⟨Nat.le_of_ble_eq_true rfl, Nat.le_of_ble_eq_true rfl⟩)
set_option maxHeartbeats 4000000 in
set_option maxRecDepth 100000 in
theorem c_X_log_big (l : Launch) (hL : l.stackTraces = false) (D : va_G) (h0 pp qq gg : Nat) (G : grp pp qq gg) (av : Int32) (hm : mem av.toInt pp qq) (h2 : 20000 < pp) : vx_Met l y_X_log (k_X_log :: wall) { frames := 7, cells := 1, slots := 6, locals := 103 } (zP [.ref (h0), .int (av)] (OX D h0 (nI (pp)) (nI (qq)) (nI (gg)))) (fun _ _ _ _ => False) (zT ISE) 1 6 (fun _ => False) := by
  refine vx_ofW (cc := b_X_log) (maxL := 4) (ret := (some .int)) (by decide) rfl ?_
  intro p e s m args below meth c s₁ B hml ht hv
  obtain ⟨hv, hP, hK, hT⟩ := hv
  subst hv
  have hx := B.exec
  have hb := B.bytes
  have hr := B.returns
  have hts := atoms_spec (ws := k_X_log :: wall) B.pre
  have hw : ∀ w ∈ wall, w.before _ s = true := fun w h => hts w (List.mem_cons_of_mem _ h)
  have hown : s.vm.findClass R_X = some m.cls := findClass_of_methodNamed B.named
  have hlocks := B.notSynchronized
  have hl := lv_entry ([.ref (h0), .int (av)]) (n := 4) (Nat.le_of_ble_eq_true rfl)
  rw [lg_entry_eq]
  generalize (lg_sl ([.ref (h0), .int (av)]) ++ List.replicate (4 - (lg_sl ([.ref (h0), .int (av)])).length) Slot.unset).toArray = ls at hl ⊢
  have hl : lv_has ls 4 [(0, .ref (h0)), (1, .int (av))] := hl
  generalize ([.ref (h0), .int (av)] : List Value).toArray = args at B hts hw ⊢
  have hp5 : 5 ≤ pp := by have := G.1; have := G.2.2.1.1; omega
  have hp := G.2.2.2.2.2.2
  have hq2 : 2 ≤ qq := G.2.2.1.1
  have hq : qq < 2 ^ 31 := by have := G.1; omega
  have hgp : gg < pp := G.2.2.2.2.1
  refine lv_aload_n hx hb d_X_log_0 rfl (lv_at hl 0 rfl) ?_
  refine lv_iload_n hx hb d_X_log_1 rfl (lv_at hl 1 rfl) ?_
  refine zV (b := h0) (As := [.int (av)]) (rest := []) ⟨hx, hb, hml, hown, hw⟩ (c_X_requireMember_ok l D h0 pp qq gg G av hm) OX_B (OX_at hP hK hT (fun _ _ => rfl)) (va_recv hK hP (ci := 0) (q0 := 0) rfl rfl) g_X_55 rfl rfl pd_X_requireMember ⟨Nat.le_of_ble_eq_true rfl, Nat.le_of_ble_eq_true rfl⟩ hl.1 rfl (Nat.le_of_ble_eq_true rfl) d_X_log_2 ⟨Nat.zero_le _, Nat.zero_le _⟩ ?_
  refine W.eq (g2 := F0 m 5 ls []) rfl ?_
  refine lv_aload_n hx hb d_X_log_5 rfl (lv_at hl 0 rfl) ?_
  refine va_get (D := D) (ci := 0) (v := .int (nI (pp))) (C := R_X) (T := F_X) (N := 3) hx hb hw i_X hown hK hP 0 rfl rfl 0 (by decide) (hw _ fl_X_7) (fun _ h9 => h9) rfl d_X_log_6 ?_
  refine lv_sipush (v := nI (20000)) hx hb d_X_log_9 (by decide) ?_
  refine lv_icmp_le (tgt := 25) hx hb d_X_log_12 (by decide) (fun z => absurd z (fun z => by have := (nI_leI (by omega) (by decide)).mp z; omega)) (fun _ => ?_)
  exact zThr (cls := ISE) (text := "p is too large for log") (ik := 58) (is := 60) (ic := 62) hx hb hL hown hw hT (by decide +kernel) at_ISE an_ISE hT.2.1 ao_ISE cl_X_58 in_IllegalStateException (by decide +kernel) hml hl.1 ht hlocks d_X_log_15 d_X_log_18 d_X_log_19 d_X_log_21 d_X_log_24 (Nat.le_of_ble_eq_true rfl) (Nat.le_of_ble_eq_true rfl) (Nat.le_of_ble_eq_true rfl) (Nat.le_of_ble_eq_true rfl)
/-- a proof that is accepted -/
def okp (pp qq gg : Nat) (y a c z : Int) : Prop := mem y pp qq ∧ mem a pp qq ∧ res c qq ∧ res z qq ∧ gg ^ z.toNat % pp = a.toNat * (y.toNat ^ c.toNat % pp) % pp
set_option maxHeartbeats 4000000 in
set_option maxRecDepth 100000 in
theorem c_X_accepts (l : Launch) (D : va_G) (h0 pp qq gg : Nat) (G : grp pp qq gg) (yv av cv zv : Int32) : Met l y_X_accepts (k_X_accepts :: wall) { frames := 3, cells := 0, slots := 0, locals := 70 } (zP [.ref (h0), .int (yv), .int (av), .int (cv), .int (zv)] (OX D h0 (nI (pp)) (nI (qq)) (nI (gg)))) (zR (some (.int (bI (okp pp qq gg yv.toInt av.toInt cv.toInt zv.toInt))))) 0 0 (fun _ => False) := by
  refine Met.ofW (cc := b_X_accepts) (maxL := 5) (ret := (some .boolean)) (by decide) rfl ?_
  intro p e s m args below meth c s₁ B hml hv
  obtain ⟨hv, hP, hK, hT⟩ := hv
  subst hv
  have hx := B.exec
  have hb := B.bytes
  have hr := B.returns
  have hts := atoms_spec (ws := k_X_accepts :: wall) B.pre
  have hw : ∀ w ∈ wall, w.before _ s = true := fun w h => hts w (List.mem_cons_of_mem _ h)
  have hown : s.vm.findClass R_X = some m.cls := findClass_of_methodNamed B.named
  have hlocks := B.notSynchronized
  have hl := lv_entry ([.ref (h0), .int (yv), .int (av), .int (cv), .int (zv)]) (n := 5) (Nat.le_of_ble_eq_true rfl)
  rw [lg_entry_eq]
  generalize (lg_sl ([.ref (h0), .int (yv), .int (av), .int (cv), .int (zv)]) ++ List.replicate (5 - (lg_sl ([.ref (h0), .int (yv), .int (av), .int (cv), .int (zv)])).length) Slot.unset).toArray = ls at hl ⊢
  have hl : lv_has ls 5 [(0, .ref (h0)), (1, .int (yv)), (2, .int (av)), (3, .int (cv)), (4, .int (zv))] := hl
  generalize ([.ref (h0), .int (yv), .int (av), .int (cv), .int (zv)] : List Value).toArray = args at B hts hw ⊢
  have hp5 : 5 ≤ pp := by have := G.1; have := G.2.2.1.1; omega
  have hp := G.2.2.2.2.2.2
  have hq2 : 2 ≤ qq := G.2.2.1.1
  have hq : qq < 2 ^ 31 := by have := G.1; omega
  have hgp : gg < pp := G.2.2.2.2.1
  refine lv_iload_n hx hb d_X_accepts_0 rfl (lv_at hl 1 rfl) ?_
  refine lv_aload_n hx hb d_X_accepts_1 rfl (lv_at hl 0 rfl) ?_
  refine va_get (D := D) (ci := 0) (v := .int (nI (pp))) (C := R_X) (T := F_X) (N := 3) hx hb hw i_X hown hK hP 0 rfl rfl 0 (by decide) (hw _ fl_X_7) (fun _ h9 => h9) rfl d_X_accepts_2 ?_
  refine zS (As := [.int (yv), .int (nI (pp))]) (rest := []) ⟨hx, hb, hml, hown, hw⟩ (c_X_isMember l yv pp (by omega) hp) g_X_27 rfl rfl pd_X_isMember ⟨Nat.le_of_ble_eq_true rfl, Nat.le_of_ble_eq_true rfl⟩ hl.1 rfl (Nat.le_of_ble_eq_true rfl) d_X_accepts_5 ⟨Nat.zero_le _, Nat.zero_le _⟩ ?_
  refine W.eq (g2 := F0 m 8 ls [.int (bI (mem yv.toInt pp ((pp - 1) / 2)))]) rfl ?_
  refine tI (bI (mem yv.toInt pp qq)) (by rw [grp_half G]) ?_
  by_cases hy : mem yv.toInt pp qq
  · refine tI (1) (bI_t hy) ?_
    refine lv_if_eq (tgt := 39) hx hb d_X_accepts_8 (by decide) (fun z => absurd z (by decide)) (fun _ => ?_)
    refine lv_iload_n hx hb d_X_accepts_11 rfl (lv_at hl 2 rfl) ?_
    refine lv_aload_n hx hb d_X_accepts_12 rfl (lv_at hl 0 rfl) ?_
    refine va_get (D := D) (ci := 0) (v := .int (nI (pp))) (C := R_X) (T := F_X) (N := 3) hx hb hw i_X hown hK hP 0 rfl rfl 0 (by decide) (hw _ fl_X_7) (fun _ h9 => h9) rfl d_X_accepts_13 ?_
    refine zS (As := [.int (av), .int (nI (pp))]) (rest := []) ⟨hx, hb, hml, hown, hw⟩ (c_X_isMember l av pp (by omega) hp) g_X_27 rfl rfl pd_X_isMember ⟨Nat.le_of_ble_eq_true rfl, Nat.le_of_ble_eq_true rfl⟩ hl.1 rfl (Nat.le_of_ble_eq_true rfl) d_X_accepts_16 ⟨Nat.zero_le _, Nat.zero_le _⟩ ?_
    refine W.eq (g2 := F0 m 19 ls [.int (bI (mem av.toInt pp ((pp - 1) / 2)))]) rfl ?_
    refine tI (bI (mem av.toInt pp qq)) (by rw [grp_half G]) ?_
    by_cases ha : mem av.toInt pp qq
    · refine tI (1) (bI_t ha) ?_
      refine lv_if_eq (tgt := 39) hx hb d_X_accepts_19 (by decide) (fun z => absurd z (by decide)) (fun _ => ?_)
      refine lv_aload_n hx hb d_X_accepts_22 rfl (lv_at hl 0 rfl) ?_
      refine lv_iload_n hx hb d_X_accepts_23 rfl (lv_at hl 3 rfl) ?_
      refine zV (b := h0) (As := [.int (cv)]) (rest := []) ⟨hx, hb, hml, hown, hw⟩ (c_X_isExponent l D h0 pp qq gg hq cv) OX_B (OX_at hP hK hT (fun _ _ => rfl)) (va_recv hK hP (ci := 0) (q0 := 0) rfl rfl) g_X_63 rfl rfl pd_X_isExponent ⟨Nat.le_of_ble_eq_true rfl, Nat.le_of_ble_eq_true rfl⟩ hl.1 rfl (Nat.le_of_ble_eq_true rfl) d_X_accepts_24 ⟨Nat.zero_le _, Nat.zero_le _⟩ ?_
      refine W.eq (g2 := F0 m 27 ls [.int (bI (res cv.toInt qq))]) rfl ?_
      by_cases hc : res cv.toInt qq
      · refine tI (1) (bI_t hc) ?_
        refine lv_if_eq (tgt := 39) hx hb d_X_accepts_27 (by decide) (fun z => absurd z (by decide)) (fun _ => ?_)
        refine lv_aload_n hx hb d_X_accepts_30 rfl (lv_at hl 0 rfl) ?_
        refine lv_iload hx hb d_X_accepts_31 (lv_at hl 4 rfl) ?_
        refine zV (b := h0) (As := [.int (zv)]) (rest := []) ⟨hx, hb, hml, hown, hw⟩ (c_X_isExponent l D h0 pp qq gg hq zv) OX_B (OX_at hP hK hT (fun _ _ => rfl)) (va_recv hK hP (ci := 0) (q0 := 0) rfl rfl) g_X_63 rfl rfl pd_X_isExponent ⟨Nat.le_of_ble_eq_true rfl, Nat.le_of_ble_eq_true rfl⟩ hl.1 rfl (Nat.le_of_ble_eq_true rfl) d_X_accepts_33 ⟨Nat.zero_le _, Nat.zero_le _⟩ ?_
        refine W.eq (g2 := F0 m 36 ls [.int (bI (res zv.toInt qq))]) rfl ?_
        by_cases hz : res zv.toInt qq
        · refine tI (1) (bI_t hz) ?_
          refine lv_if_ne (tgt := 41) hx hb d_X_accepts_36 (by decide) (fun _ => ?_) (fun z => absurd z (by decide))
          obtain ⟨yy, y1, y2, y3, rfl, y5, y6⟩ := mem_of hy
          obtain ⟨aa, a1, a2, a3, rfl, a5, a6⟩ := mem_of ha
          obtain ⟨ce, c1, c2, rfl, c4⟩ := res_of hc
          obtain ⟨ze, z1, z2, rfl, z4⟩ := res_of hz
          have e1 : gg ^ ze % pp < pp := Nat.mod_lt _ (by omega)
          have e2 : yy ^ ce % pp < pp := Nat.mod_lt _ (by omega)
          have e3 : aa * (yy ^ ce % pp) % pp < pp := Nat.mod_lt _ (by omega)
          refine lv_aload_n hx hb d_X_accepts_41 rfl (lv_at hl 0 rfl) ?_
          refine va_get (D := D) (ci := 0) (v := .int (nI (gg))) (C := R_X) (T := F_X) (N := 3) hx hb hw i_X hown hK hP 0 rfl rfl 2 (by decide) (hw _ fl_X_16) (fun _ h9 => h9) rfl d_X_accepts_42 ?_
          refine lv_iload hx hb d_X_accepts_45 (lv_at hl 4 rfl) ?_
          refine lv_i2l (v := lN (ze)) hx hb d_X_accepts_47 (nI_l (by omega)) ?_
          refine lv_aload_n hx hb d_X_accepts_48 rfl (lv_at hl 0 rfl) ?_
          refine va_get (D := D) (ci := 0) (v := .int (nI (pp))) (C := R_X) (T := F_X) (N := 3) hx hb hw i_X hown hK hP 0 rfl rfl 0 (by decide) (hw _ fl_X_7) (fun _ h9 => h9) rfl d_X_accepts_49 ?_
          refine zS (As := [.int (nI (gg)), .long (lN (ze)), .int (nI (pp))]) (rest := []) ⟨hx, hb, hml, hown, hw⟩ (c_X_raised l gg ze pp hgp (by omega) (by omega) hp) g_X_45 rfl rfl pd_X_raised ⟨Nat.le_of_ble_eq_true rfl, Nat.le_of_ble_eq_true rfl⟩ hl.1 rfl (Nat.le_of_ble_eq_true rfl) d_X_accepts_52 ⟨Nat.zero_le _, Nat.zero_le _⟩ ?_
          refine W.eq (g2 := F0 m 55 ls [.int (nI (gg ^ ze % pp))]) rfl ?_
          refine lv_iload_n hx hb d_X_accepts_55 rfl (lv_at hl 2 rfl) ?_
          refine lv_iload_n hx hb d_X_accepts_56 rfl (lv_at hl 1 rfl) ?_
          refine lv_iload_n hx hb d_X_accepts_57 rfl (lv_at hl 3 rfl) ?_
          refine lv_i2l (v := lN (ce)) hx hb d_X_accepts_58 (nI_l (by omega)) ?_
          refine lv_aload_n hx hb d_X_accepts_59 rfl (lv_at hl 0 rfl) ?_
          refine va_get (D := D) (ci := 0) (v := .int (nI (pp))) (C := R_X) (T := F_X) (N := 3) hx hb hw i_X hown hK hP 0 rfl rfl 0 (by decide) (hw _ fl_X_7) (fun _ h9 => h9) rfl d_X_accepts_60 ?_
          refine zS (As := [.int (nI (yy)), .long (lN (ce)), .int (nI (pp))]) (rest := [.int (nI (aa)), .int (nI (gg ^ ze % pp))]) ⟨hx, hb, hml, hown, hw⟩ (c_X_raised l yy ce pp y2 (by omega) (by omega) hp) g_X_45 rfl rfl pd_X_raised ⟨Nat.le_of_ble_eq_true rfl, Nat.le_of_ble_eq_true rfl⟩ hl.1 rfl (Nat.le_of_ble_eq_true rfl) d_X_accepts_63 ⟨Nat.zero_le _, Nat.zero_le _⟩ ?_
          refine W.eq (g2 := F0 m 66 ls [.int (nI (yy ^ ce % pp)), .int (nI (aa)), .int (nI (gg ^ ze % pp))]) rfl ?_
          refine lv_aload_n hx hb d_X_accepts_66 rfl (lv_at hl 0 rfl) ?_
          refine va_get (D := D) (ci := 0) (v := .int (nI (pp))) (C := R_X) (T := F_X) (N := 3) hx hb hw i_X hown hK hP 0 rfl rfl 0 (by decide) (hw _ fl_X_7) (fun _ h9 => h9) rfl d_X_accepts_67 ?_
          refine zS (As := [.int (nI (aa)), .int (nI (yy ^ ce % pp)), .int (nI (pp))]) (rest := [.int (nI (gg ^ ze % pp))]) ⟨hx, hb, hml, hown, hw⟩ (c_X_times l aa (yy ^ ce % pp) pp (by omega) (by omega) (by omega) hp) g_X_34 rfl rfl pd_X_times ⟨Nat.le_of_ble_eq_true rfl, Nat.le_of_ble_eq_true rfl⟩ hl.1 rfl (Nat.le_of_ble_eq_true rfl) d_X_accepts_70 ⟨Nat.zero_le _, Nat.zero_le _⟩ ?_
          refine W.eq (g2 := F0 m 73 ls [.int (nI (aa * (yy ^ ce % pp) % pp)), .int (nI (gg ^ ze % pp))]) rfl ?_
          refine lv_icmp_ne (tgt := 80) hx hb d_X_accepts_73 (by decide) (fun cc => ?_) (fun cc => ?_)
          · rw [bI_f (fun z : okp pp qq gg (nI (yy)).toInt (nI (aa)).toInt (nI (ce)).toInt (nI (ze)).toInt => cc (by have := z.2.2.2.2; rw [y5, a5, c4, z4] at this; exact congrArg nI this))]
            refine lv_iconst (v := nI (0)) hx hb d_X_accepts_80 (by decide) ?_
            exact W.zret (ty := .boolean) hx hb hr (by decide) (fun t ht _ => ⟨rfl, ht⟩) (fun _ h => nomatch h) d_X_accepts_81
          · have cc := (nI_eq (by omega) (by omega)).mp cc
            rw [bI_t (show okp pp qq gg (nI (yy)).toInt (nI (aa)).toInt (nI (ce)).toInt (nI (ze)).toInt from ⟨hy, ha, hc, hz, by rw [y5, a5, c4, z4]; exact cc⟩)]
            refine lv_iconst (v := nI (1)) hx hb d_X_accepts_76 (by decide) ?_
            refine lv_goto (tgt := 81) hx hb d_X_accepts_77 (by decide) ?_
            exact W.zret (ty := .boolean) hx hb hr (by decide) (fun t ht _ => ⟨rfl, ht⟩) (fun _ h => nomatch h) d_X_accepts_81
        · refine tI (0) (bI_f hz) ?_
          refine lv_if_ne (tgt := 41) hx hb d_X_accepts_36 (by decide) (fun z => absurd (rfl) z) (fun _ => ?_)
          rw [bI_f (fun z : okp pp qq gg yv.toInt av.toInt cv.toInt zv.toInt => hz z.2.2.2.1)]
          refine lv_iconst (v := nI (0)) hx hb d_X_accepts_39 (by decide) ?_
          exact W.zret (ty := .boolean) hx hb hr (by decide) (fun t ht _ => ⟨rfl, ht⟩) (fun _ h => nomatch h) d_X_accepts_40
      · refine tI (0) (bI_f hc) ?_
        refine lv_if_eq (tgt := 39) hx hb d_X_accepts_27 (by decide) (fun _ => ?_) (fun z => absurd (rfl) z)
        rw [bI_f (fun z : okp pp qq gg yv.toInt av.toInt cv.toInt zv.toInt => hc z.2.2.1)]
        refine lv_iconst (v := nI (0)) hx hb d_X_accepts_39 (by decide) ?_
        exact W.zret (ty := .boolean) hx hb hr (by decide) (fun t ht _ => ⟨rfl, ht⟩) (fun _ h => nomatch h) d_X_accepts_40
    · refine tI (0) (bI_f ha) ?_
      refine lv_if_eq (tgt := 39) hx hb d_X_accepts_19 (by decide) (fun _ => ?_) (fun z => absurd (rfl) z)
      rw [bI_f (fun z : okp pp qq gg yv.toInt av.toInt cv.toInt zv.toInt => ha z.2.1)]
      refine lv_iconst (v := nI (0)) hx hb d_X_accepts_39 (by decide) ?_
      exact W.zret (ty := .boolean) hx hb hr (by decide) (fun t ht _ => ⟨rfl, ht⟩) (fun _ h => nomatch h) d_X_accepts_40
  · refine tI (0) (bI_f hy) ?_
    refine lv_if_eq (tgt := 39) hx hb d_X_accepts_8 (by decide) (fun _ => ?_) (fun z => absurd (rfl) z)
    rw [bI_f (fun z : okp pp qq gg yv.toInt av.toInt cv.toInt zv.toInt => hy z.1)]
    refine lv_iconst (v := nI (0)) hx hb d_X_accepts_39 (by decide) ?_
    exact W.zret (ty := .boolean) hx hb hr (by decide) (fun t ht _ => ⟨rfl, ht⟩) (fun _ h => nomatch h) d_X_accepts_40
set_option maxHeartbeats 4000000 in
set_option maxRecDepth 100000 in
theorem c_X_answer_ok (l : Launch) (D : va_G) (h0 pp qq gg : Nat) (G : grp pp qq gg) (xx kk ce : Nat) (h1 : xx < qq) (h2 : kk < qq) (h3 : ce < qq) : Met l y_X_answer (k_X_answer :: wall) { frames := 7, cells := 0, slots := 0, locals := 103 } (zP [.ref (h0), .int (nI (xx)), .int (nI (kk)), .int (nI (ce))] (OX D h0 (nI (pp)) (nI (qq)) (nI (gg)))) (zR (some (.int (nI ((kk + ce * xx) % qq))))) 0 0 (fun _ => False) := by
  refine Met.ofW (cc := b_X_answer) (maxL := 4) (ret := (some .int)) (by decide) rfl ?_
  intro p e s m args below meth c s₁ B hml hv
  obtain ⟨hv, hP, hK, hT⟩ := hv
  subst hv
  have hx := B.exec
  have hb := B.bytes
  have hr := B.returns
  have hts := atoms_spec (ws := k_X_answer :: wall) B.pre
  have hw : ∀ w ∈ wall, w.before _ s = true := fun w h => hts w (List.mem_cons_of_mem _ h)
  have hown : s.vm.findClass R_X = some m.cls := findClass_of_methodNamed B.named
  have hlocks := B.notSynchronized
  have hl := lv_entry ([.ref (h0), .int (nI (xx)), .int (nI (kk)), .int (nI (ce))]) (n := 4) (Nat.le_of_ble_eq_true rfl)
  rw [lg_entry_eq]
  generalize (lg_sl ([.ref (h0), .int (nI (xx)), .int (nI (kk)), .int (nI (ce))]) ++ List.replicate (4 - (lg_sl ([.ref (h0), .int (nI (xx)), .int (nI (kk)), .int (nI (ce))])).length) Slot.unset).toArray = ls at hl ⊢
  have hl : lv_has ls 4 [(0, .ref (h0)), (1, .int (nI (xx))), (2, .int (nI (kk))), (3, .int (nI (ce)))] := hl
  generalize ([.ref (h0), .int (nI (xx)), .int (nI (kk)), .int (nI (ce))] : List Value).toArray = args at B hts hw ⊢
  have hp5 : 5 ≤ pp := by have := G.1; have := G.2.2.1.1; omega
  have hp := G.2.2.2.2.2.2
  have hq2 : 2 ≤ qq := G.2.2.1.1
  have hq : qq < 2 ^ 31 := by have := G.1; omega
  have hgp : gg < pp := G.2.2.2.2.1
  have r_xx : res (nI (xx)).toInt qq := by rw [nI_toInt (by omega)]; exact ⟨by omega, by omega⟩
  have r_kk : res (nI (kk)).toInt qq := by rw [nI_toInt (by omega)]; exact ⟨by omega, by omega⟩
  have r_ce : res (nI (ce)).toInt qq := by rw [nI_toInt (by omega)]; exact ⟨by omega, by omega⟩
  refine lv_aload_n hx hb d_X_answer_0 rfl (lv_at hl 0 rfl) ?_
  refine lv_iload_n hx hb d_X_answer_1 rfl (lv_at hl 1 rfl) ?_
  refine zV (b := h0) (As := [.int (nI (xx))]) (rest := []) ⟨hx, hb, hml, hown, hw⟩ (c_X_requireExponent_ok l D h0 pp qq gg hq (nI (xx)) r_xx) OX_B (OX_at hP hK hT (fun _ _ => rfl)) (va_recv hK hP (ci := 0) (q0 := 0) rfl rfl) g_X_67 rfl rfl pd_X_requireExponent ⟨Nat.le_of_ble_eq_true rfl, Nat.le_of_ble_eq_true rfl⟩ hl.1 rfl (Nat.le_of_ble_eq_true rfl) d_X_answer_2 ⟨Nat.zero_le _, Nat.zero_le _⟩ ?_
  refine W.eq (g2 := F0 m 5 ls []) rfl ?_
  refine lv_aload_n hx hb d_X_answer_5 rfl (lv_at hl 0 rfl) ?_
  refine lv_iload_n hx hb d_X_answer_6 rfl (lv_at hl 2 rfl) ?_
  refine zV (b := h0) (As := [.int (nI (kk))]) (rest := []) ⟨hx, hb, hml, hown, hw⟩ (c_X_requireExponent_ok l D h0 pp qq gg hq (nI (kk)) r_kk) OX_B (OX_at hP hK hT (fun _ _ => rfl)) (va_recv hK hP (ci := 0) (q0 := 0) rfl rfl) g_X_67 rfl rfl pd_X_requireExponent ⟨Nat.le_of_ble_eq_true rfl, Nat.le_of_ble_eq_true rfl⟩ hl.1 rfl (Nat.le_of_ble_eq_true rfl) d_X_answer_7 ⟨Nat.zero_le _, Nat.zero_le _⟩ ?_
  refine W.eq (g2 := F0 m 10 ls []) rfl ?_
  refine lv_aload_n hx hb d_X_answer_10 rfl (lv_at hl 0 rfl) ?_
  refine lv_iload_n hx hb d_X_answer_11 rfl (lv_at hl 3 rfl) ?_
  refine zV (b := h0) (As := [.int (nI (ce))]) (rest := []) ⟨hx, hb, hml, hown, hw⟩ (c_X_requireExponent_ok l D h0 pp qq gg hq (nI (ce)) r_ce) OX_B (OX_at hP hK hT (fun _ _ => rfl)) (va_recv hK hP (ci := 0) (q0 := 0) rfl rfl) g_X_67 rfl rfl pd_X_requireExponent ⟨Nat.le_of_ble_eq_true rfl, Nat.le_of_ble_eq_true rfl⟩ hl.1 rfl (Nat.le_of_ble_eq_true rfl) d_X_answer_12 ⟨Nat.zero_le _, Nat.zero_le _⟩ ?_
  refine W.eq (g2 := F0 m 15 ls []) rfl ?_
  have e1 : ce * xx % qq < qq := Nat.mod_lt _ (by omega)
  refine lv_iload_n hx hb d_X_answer_15 rfl (lv_at hl 2 rfl) ?_
  refine lv_iload_n hx hb d_X_answer_16 rfl (lv_at hl 3 rfl) ?_
  refine lv_iload_n hx hb d_X_answer_17 rfl (lv_at hl 1 rfl) ?_
  refine lv_aload_n hx hb d_X_answer_18 rfl (lv_at hl 0 rfl) ?_
  refine va_get (D := D) (ci := 0) (v := .int (nI (qq))) (C := R_X) (T := F_X) (N := 3) hx hb hw i_X hown hK hP 0 rfl rfl 1 (by decide) (hw _ fl_X_13) (fun _ h9 => h9) rfl d_X_answer_19 ?_
  refine zS (As := [.int (nI (ce)), .int (nI (xx)), .int (nI (qq))]) (rest := [.int (nI (kk))]) ⟨hx, hb, hml, hown, hw⟩ (c_X_times l ce xx qq (by omega) (by omega) (by omega) hq) g_X_34 rfl rfl pd_X_times ⟨Nat.le_of_ble_eq_true rfl, Nat.le_of_ble_eq_true rfl⟩ hl.1 rfl (Nat.le_of_ble_eq_true rfl) d_X_answer_22 ⟨Nat.zero_le _, Nat.zero_le _⟩ ?_
  refine W.eq (g2 := F0 m 25 ls [.int (nI (ce * xx % qq)), .int (nI (kk))]) rfl ?_
  refine lv_aload_n hx hb d_X_answer_25 rfl (lv_at hl 0 rfl) ?_
  refine va_get (D := D) (ci := 0) (v := .int (nI (qq))) (C := R_X) (T := F_X) (N := 3) hx hb hw i_X hown hK hP 0 rfl rfl 1 (by decide) (hw _ fl_X_13) (fun _ h9 => h9) rfl d_X_answer_26 ?_
  refine zS (As := [.int (nI (kk)), .int (nI (ce * xx % qq)), .int (nI (qq))]) (rest := []) ⟨hx, hb, hml, hown, hw⟩ (c_X_sum l kk (ce * xx % qq) qq (by omega) (by omega) (by omega) hq) g_X_70 rfl rfl pd_X_sum ⟨Nat.le_of_ble_eq_true rfl, Nat.le_of_ble_eq_true rfl⟩ hl.1 rfl (Nat.le_of_ble_eq_true rfl) d_X_answer_29 ⟨Nat.zero_le _, Nat.zero_le _⟩ ?_
  refine W.eq (g2 := F0 m 32 ls [.int (nI ((kk + ce * xx % qq) % qq))]) rfl ?_
  exact W.iret hx hb hr (fun t ht _ => ⟨by rw [Nat.add_mod_mod], ht⟩) (fun _ h => nomatch h) d_X_answer_32
set_option maxHeartbeats 4000000 in
set_option maxRecDepth 100000 in
theorem c_X_answer_bad (l : Launch) (hL : l.stackTraces = false) (D : va_G) (h0 pp qq gg : Nat) (G : grp pp qq gg) (xv kv cv : Int32) (hno : ¬ (res xv.toInt qq ∧ res kv.toInt qq ∧ res cv.toInt qq)) : vx_Met l y_X_answer (k_X_answer :: wall) { frames := 7, cells := 1, slots := 6, locals := 103 } (zP [.ref (h0), .int (xv), .int (kv), .int (cv)] (OX D h0 (nI (pp)) (nI (qq)) (nI (gg)))) (fun _ _ _ _ => False) (zT IAE) 1 6 (fun _ => False) := by
  refine vx_ofW (cc := b_X_answer) (maxL := 4) (ret := (some .int)) (by decide) rfl ?_
  intro p e s m args below meth c s₁ B hml ht hv
  obtain ⟨hv, hP, hK, hT⟩ := hv
  subst hv
  have hx := B.exec
  have hb := B.bytes
  have hr := B.returns
  have hts := atoms_spec (ws := k_X_answer :: wall) B.pre
  have hw : ∀ w ∈ wall, w.before _ s = true := fun w h => hts w (List.mem_cons_of_mem _ h)
  have hown : s.vm.findClass R_X = some m.cls := findClass_of_methodNamed B.named
  have hlocks := B.notSynchronized
  have hl := lv_entry ([.ref (h0), .int (xv), .int (kv), .int (cv)]) (n := 4) (Nat.le_of_ble_eq_true rfl)
  rw [lg_entry_eq]
  generalize (lg_sl ([.ref (h0), .int (xv), .int (kv), .int (cv)]) ++ List.replicate (4 - (lg_sl ([.ref (h0), .int (xv), .int (kv), .int (cv)])).length) Slot.unset).toArray = ls at hl ⊢
  have hl : lv_has ls 4 [(0, .ref (h0)), (1, .int (xv)), (2, .int (kv)), (3, .int (cv))] := hl
  generalize ([.ref (h0), .int (xv), .int (kv), .int (cv)] : List Value).toArray = args at B hts hw ⊢
  have hp5 : 5 ≤ pp := by have := G.1; have := G.2.2.1.1; omega
  have hp := G.2.2.2.2.2.2
  have hq2 : 2 ≤ qq := G.2.2.1.1
  have hq : qq < 2 ^ 31 := by have := G.1; omega
  have hgp : gg < pp := G.2.2.2.2.1
  by_cases h1 : res xv.toInt qq
  · refine lv_aload_n hx hb d_X_answer_0 rfl (lv_at hl 0 rfl) ?_
    refine lv_iload_n hx hb d_X_answer_1 rfl (lv_at hl 1 rfl) ?_
    refine zV (b := h0) (As := [.int (xv)]) (rest := []) ⟨hx, hb, hml, hown, hw⟩ (c_X_requireExponent_ok l D h0 pp qq gg hq xv h1) OX_B (OX_at hP hK hT (fun _ _ => rfl)) (va_recv hK hP (ci := 0) (q0 := 0) rfl rfl) g_X_67 rfl rfl pd_X_requireExponent ⟨Nat.le_of_ble_eq_true rfl, Nat.le_of_ble_eq_true rfl⟩ hl.1 rfl (Nat.le_of_ble_eq_true rfl) d_X_answer_2 ⟨Nat.zero_le _, Nat.zero_le _⟩ ?_
    refine W.eq (g2 := F0 m 5 ls []) rfl ?_
    by_cases h2 : res kv.toInt qq
    · refine lv_aload_n hx hb d_X_answer_5 rfl (lv_at hl 0 rfl) ?_
      refine lv_iload_n hx hb d_X_answer_6 rfl (lv_at hl 2 rfl) ?_
      refine zV (b := h0) (As := [.int (kv)]) (rest := []) ⟨hx, hb, hml, hown, hw⟩ (c_X_requireExponent_ok l D h0 pp qq gg hq kv h2) OX_B (OX_at hP hK hT (fun _ _ => rfl)) (va_recv hK hP (ci := 0) (q0 := 0) rfl rfl) g_X_67 rfl rfl pd_X_requireExponent ⟨Nat.le_of_ble_eq_true rfl, Nat.le_of_ble_eq_true rfl⟩ hl.1 rfl (Nat.le_of_ble_eq_true rfl) d_X_answer_7 ⟨Nat.zero_le _, Nat.zero_le _⟩ ?_
      refine W.eq (g2 := F0 m 10 ls []) rfl ?_
      refine lv_aload_n hx hb d_X_answer_10 rfl (lv_at hl 0 rfl) ?_
      refine lv_iload_n hx hb d_X_answer_11 rfl (lv_at hl 3 rfl) ?_
      exact zXo ht hlocks (zXr (b := h0) (As := [.int (cv)]) (rest := []) ⟨hx, hb, hml, hown, hw⟩ (c_X_requireExponent_bad l hL D h0 pp qq gg hq cv (fun z => hno ⟨h1, h2, z⟩)) OX_B (OX_at hP hK hT (fun _ _ => rfl)) (va_recv hK hP (ci := 0) (q0 := 0) rfl rfl) g_X_67 rfl rfl pd_X_requireExponent ⟨Nat.le_of_ble_eq_true rfl, Nat.le_of_ble_eq_true rfl⟩ hl.1 rfl (Nat.le_of_ble_eq_true rfl) d_X_answer_12 ⟨Nat.le_of_ble_eq_true rfl, Nat.le_of_ble_eq_true rfl⟩)
    · refine lv_aload_n hx hb d_X_answer_5 rfl (lv_at hl 0 rfl) ?_
      refine lv_iload_n hx hb d_X_answer_6 rfl (lv_at hl 2 rfl) ?_
      exact zXo ht hlocks (zXr (b := h0) (As := [.int (kv)]) (rest := []) ⟨hx, hb, hml, hown, hw⟩ (c_X_requireExponent_bad l hL D h0 pp qq gg hq kv h2) OX_B (OX_at hP hK hT (fun _ _ => rfl)) (va_recv hK hP (ci := 0) (q0 := 0) rfl rfl) g_X_67 rfl rfl pd_X_requireExponent ⟨Nat.le_of_ble_eq_true rfl, Nat.le_of_ble_eq_true rfl⟩ hl.1 rfl (Nat.le_of_ble_eq_true rfl) d_X_answer_7 ⟨Nat.le_of_ble_eq_true rfl, Nat.le_of_ble_eq_true rfl⟩)
  · refine lv_aload_n hx hb d_X_answer_0 rfl (lv_at hl 0 rfl) ?_
    refine lv_iload_n hx hb d_X_answer_1 rfl (lv_at hl 1 rfl) ?_
    exact zXo ht hlocks (zXr (b := h0) (As := [.int (xv)]) (rest := []) ⟨hx, hb, hml, hown, hw⟩ (c_X_requireExponent_bad l hL D h0 pp qq gg hq xv h1) OX_B (OX_at hP hK hT (fun _ _ => rfl)) (va_recv hK hP (ci := 0) (q0 := 0) rfl rfl) g_X_67 rfl rfl pd_X_requireExponent ⟨Nat.le_of_ble_eq_true rfl, Nat.le_of_ble_eq_true rfl⟩ hl.1 rfl (Nat.le_of_ble_eq_true rfl) d_X_answer_2 ⟨Nat.le_of_ble_eq_true rfl, Nat.le_of_ble_eq_true rfl⟩)
set_option maxHeartbeats 4000000 in
set_option maxRecDepth 100000 in
theorem c_X_feign_ok (l : Launch) (D : va_G) (h0 pp qq gg : Nat) (G : grp pp qq gg) (yy ce ze : Nat) (h1 : yy < pp) (hm : mem (nI (yy)).toInt pp qq) (h2 : ce < qq) (h3 : ze < qq) : Met l y_X_feign (k_X_feign :: wall) { frames := 7, cells := 0, slots := 0, locals := 103 } (zP [.ref (h0), .int (nI (yy)), .int (nI (ce)), .int (nI (ze))] (OX D h0 (nI (pp)) (nI (qq)) (nI (gg)))) (zR (some (.int (nI ((gg ^ ze % pp) * (yy ^ (qq - ce) % pp) % pp))))) 0 0 (fun _ => False) := by
  refine Met.ofW (cc := b_X_feign) (maxL := 4) (ret := (some .int)) (by decide) rfl ?_
  intro p e s m args below meth c s₁ B hml hv
  obtain ⟨hv, hP, hK, hT⟩ := hv
  subst hv
  have hx := B.exec
  have hb := B.bytes
  have hr := B.returns
  have hts := atoms_spec (ws := k_X_feign :: wall) B.pre
  have hw : ∀ w ∈ wall, w.before _ s = true := fun w h => hts w (List.mem_cons_of_mem _ h)
  have hown : s.vm.findClass R_X = some m.cls := findClass_of_methodNamed B.named
  have hlocks := B.notSynchronized
  have hl := lv_entry ([.ref (h0), .int (nI (yy)), .int (nI (ce)), .int (nI (ze))]) (n := 4) (Nat.le_of_ble_eq_true rfl)
  rw [lg_entry_eq]
  generalize (lg_sl ([.ref (h0), .int (nI (yy)), .int (nI (ce)), .int (nI (ze))]) ++ List.replicate (4 - (lg_sl ([.ref (h0), .int (nI (yy)), .int (nI (ce)), .int (nI (ze))])).length) Slot.unset).toArray = ls at hl ⊢
  have hl : lv_has ls 4 [(0, .ref (h0)), (1, .int (nI (yy))), (2, .int (nI (ce))), (3, .int (nI (ze)))] := hl
  generalize ([.ref (h0), .int (nI (yy)), .int (nI (ce)), .int (nI (ze))] : List Value).toArray = args at B hts hw ⊢
  have hp5 : 5 ≤ pp := by have := G.1; have := G.2.2.1.1; omega
  have hp := G.2.2.2.2.2.2
  have hq2 : 2 ≤ qq := G.2.2.1.1
  have hq : qq < 2 ^ 31 := by have := G.1; omega
  have hgp : gg < pp := G.2.2.2.2.1
  have r_ce : res (nI (ce)).toInt qq := by rw [nI_toInt (by omega)]; exact ⟨by omega, by omega⟩
  have r_ze : res (nI (ze)).toInt qq := by rw [nI_toInt (by omega)]; exact ⟨by omega, by omega⟩
  refine lv_aload_n hx hb d_X_feign_0 rfl (lv_at hl 0 rfl) ?_
  refine lv_iload_n hx hb d_X_feign_1 rfl (lv_at hl 1 rfl) ?_
  refine zV (b := h0) (As := [.int (nI (yy))]) (rest := []) ⟨hx, hb, hml, hown, hw⟩ (c_X_requireMember_ok l D h0 pp qq gg G (nI (yy)) hm) OX_B (OX_at hP hK hT (fun _ _ => rfl)) (va_recv hK hP (ci := 0) (q0 := 0) rfl rfl) g_X_55 rfl rfl pd_X_requireMember ⟨Nat.le_of_ble_eq_true rfl, Nat.le_of_ble_eq_true rfl⟩ hl.1 rfl (Nat.le_of_ble_eq_true rfl) d_X_feign_2 ⟨Nat.zero_le _, Nat.zero_le _⟩ ?_
  refine W.eq (g2 := F0 m 5 ls []) rfl ?_
  refine lv_aload_n hx hb d_X_feign_5 rfl (lv_at hl 0 rfl) ?_
  refine lv_iload_n hx hb d_X_feign_6 rfl (lv_at hl 2 rfl) ?_
  refine zV (b := h0) (As := [.int (nI (ce))]) (rest := []) ⟨hx, hb, hml, hown, hw⟩ (c_X_requireExponent_ok l D h0 pp qq gg hq (nI (ce)) r_ce) OX_B (OX_at hP hK hT (fun _ _ => rfl)) (va_recv hK hP (ci := 0) (q0 := 0) rfl rfl) g_X_67 rfl rfl pd_X_requireExponent ⟨Nat.le_of_ble_eq_true rfl, Nat.le_of_ble_eq_true rfl⟩ hl.1 rfl (Nat.le_of_ble_eq_true rfl) d_X_feign_7 ⟨Nat.zero_le _, Nat.zero_le _⟩ ?_
  refine W.eq (g2 := F0 m 10 ls []) rfl ?_
  refine lv_aload_n hx hb d_X_feign_10 rfl (lv_at hl 0 rfl) ?_
  refine lv_iload_n hx hb d_X_feign_11 rfl (lv_at hl 3 rfl) ?_
  refine zV (b := h0) (As := [.int (nI (ze))]) (rest := []) ⟨hx, hb, hml, hown, hw⟩ (c_X_requireExponent_ok l D h0 pp qq gg hq (nI (ze)) r_ze) OX_B (OX_at hP hK hT (fun _ _ => rfl)) (va_recv hK hP (ci := 0) (q0 := 0) rfl rfl) g_X_67 rfl rfl pd_X_requireExponent ⟨Nat.le_of_ble_eq_true rfl, Nat.le_of_ble_eq_true rfl⟩ hl.1 rfl (Nat.le_of_ble_eq_true rfl) d_X_feign_12 ⟨Nat.zero_le _, Nat.zero_le _⟩ ?_
  refine W.eq (g2 := F0 m 15 ls []) rfl ?_
  have e1 : gg ^ ze % pp < pp := Nat.mod_lt _ (by omega)
  have e2 : yy ^ (qq - ce) % pp < pp := Nat.mod_lt _ (by omega)
  refine lv_aload_n hx hb d_X_feign_15 rfl (lv_at hl 0 rfl) ?_
  refine va_get (D := D) (ci := 0) (v := .int (nI (gg))) (C := R_X) (T := F_X) (N := 3) hx hb hw i_X hown hK hP 0 rfl rfl 2 (by decide) (hw _ fl_X_16) (fun _ h9 => h9) rfl d_X_feign_16 ?_
  refine lv_iload_n hx hb d_X_feign_19 rfl (lv_at hl 3 rfl) ?_
  refine lv_i2l (v := lN (ze)) hx hb d_X_feign_20 (nI_l (by omega)) ?_
  refine lv_aload_n hx hb d_X_feign_21 rfl (lv_at hl 0 rfl) ?_
  refine va_get (D := D) (ci := 0) (v := .int (nI (pp))) (C := R_X) (T := F_X) (N := 3) hx hb hw i_X hown hK hP 0 rfl rfl 0 (by decide) (hw _ fl_X_7) (fun _ h9 => h9) rfl d_X_feign_22 ?_
  refine zS (As := [.int (nI (gg)), .long (lN (ze)), .int (nI (pp))]) (rest := []) ⟨hx, hb, hml, hown, hw⟩ (c_X_raised l gg ze pp hgp (by omega) (by omega) hp) g_X_45 rfl rfl pd_X_raised ⟨Nat.le_of_ble_eq_true rfl, Nat.le_of_ble_eq_true rfl⟩ hl.1 rfl (Nat.le_of_ble_eq_true rfl) d_X_feign_25 ⟨Nat.zero_le _, Nat.zero_le _⟩ ?_
  refine W.eq (g2 := F0 m 28 ls [.int (nI (gg ^ ze % pp))]) rfl ?_
  refine lv_iload_n hx hb d_X_feign_28 rfl (lv_at hl 1 rfl) ?_
  refine lv_aload_n hx hb d_X_feign_29 rfl (lv_at hl 0 rfl) ?_
  refine va_get (D := D) (ci := 0) (v := .int (nI (qq))) (C := R_X) (T := F_X) (N := 3) hx hb hw i_X hown hK hP 0 rfl rfl 1 (by decide) (hw _ fl_X_13) (fun _ h9 => h9) rfl d_X_feign_30 ?_
  refine lv_iload_n hx hb d_X_feign_33 rfl (lv_at hl 2 rfl) ?_
  refine lv_isub hx hb d_X_feign_34 ?_
  refine tI (nI (qq - ce)) (pk_sub (by omega)) ?_
  refine lv_i2l (v := lN (qq - ce)) hx hb d_X_feign_35 (nI_l (by omega)) ?_
  refine lv_aload_n hx hb d_X_feign_36 rfl (lv_at hl 0 rfl) ?_
  refine va_get (D := D) (ci := 0) (v := .int (nI (pp))) (C := R_X) (T := F_X) (N := 3) hx hb hw i_X hown hK hP 0 rfl rfl 0 (by decide) (hw _ fl_X_7) (fun _ h9 => h9) rfl d_X_feign_37 ?_
  refine zS (As := [.int (nI (yy)), .long (lN (qq - ce)), .int (nI (pp))]) (rest := [.int (nI (gg ^ ze % pp))]) ⟨hx, hb, hml, hown, hw⟩ (c_X_raised l yy (qq - ce) pp h1 (by omega) (by omega) hp) g_X_45 rfl rfl pd_X_raised ⟨Nat.le_of_ble_eq_true rfl, Nat.le_of_ble_eq_true rfl⟩ hl.1 rfl (Nat.le_of_ble_eq_true rfl) d_X_feign_40 ⟨Nat.zero_le _, Nat.zero_le _⟩ ?_
  refine W.eq (g2 := F0 m 43 ls [.int (nI (yy ^ (qq - ce) % pp)), .int (nI (gg ^ ze % pp))]) rfl ?_
  refine lv_aload_n hx hb d_X_feign_43 rfl (lv_at hl 0 rfl) ?_
  refine va_get (D := D) (ci := 0) (v := .int (nI (pp))) (C := R_X) (T := F_X) (N := 3) hx hb hw i_X hown hK hP 0 rfl rfl 0 (by decide) (hw _ fl_X_7) (fun _ h9 => h9) rfl d_X_feign_44 ?_
  refine zS (As := [.int (nI (gg ^ ze % pp)), .int (nI (yy ^ (qq - ce) % pp)), .int (nI (pp))]) (rest := []) ⟨hx, hb, hml, hown, hw⟩ (c_X_times l (gg ^ ze % pp) (yy ^ (qq - ce) % pp) pp (by omega) (by omega) (by omega) hp) g_X_34 rfl rfl pd_X_times ⟨Nat.le_of_ble_eq_true rfl, Nat.le_of_ble_eq_true rfl⟩ hl.1 rfl (Nat.le_of_ble_eq_true rfl) d_X_feign_47 ⟨Nat.zero_le _, Nat.zero_le _⟩ ?_
  refine W.eq (g2 := F0 m 50 ls [.int (nI ((gg ^ ze % pp) * (yy ^ (qq - ce) % pp) % pp))]) rfl ?_
  exact W.iret hx hb hr (fun t ht _ => ⟨rfl, ht⟩) (fun _ h => nomatch h) d_X_feign_50
set_option maxHeartbeats 4000000 in
set_option maxRecDepth 100000 in
theorem c_X_feign_bad (l : Launch) (hL : l.stackTraces = false) (D : va_G) (h0 pp qq gg : Nat) (G : grp pp qq gg) (yv cv zv : Int32) (hno : ¬ (mem yv.toInt pp qq ∧ res cv.toInt qq ∧ res zv.toInt qq)) : vx_Met l y_X_feign (k_X_feign :: wall) { frames := 7, cells := 1, slots := 6, locals := 103 } (zP [.ref (h0), .int (yv), .int (cv), .int (zv)] (OX D h0 (nI (pp)) (nI (qq)) (nI (gg)))) (fun _ _ _ _ => False) (zT IAE) 1 6 (fun _ => False) := by
  refine vx_ofW (cc := b_X_feign) (maxL := 4) (ret := (some .int)) (by decide) rfl ?_
  intro p e s m args below meth c s₁ B hml ht hv
  obtain ⟨hv, hP, hK, hT⟩ := hv
  subst hv
  have hx := B.exec
  have hb := B.bytes
  have hr := B.returns
  have hts := atoms_spec (ws := k_X_feign :: wall) B.pre
  have hw : ∀ w ∈ wall, w.before _ s = true := fun w h => hts w (List.mem_cons_of_mem _ h)
  have hown : s.vm.findClass R_X = some m.cls := findClass_of_methodNamed B.named
  have hlocks := B.notSynchronized
  have hl := lv_entry ([.ref (h0), .int (yv), .int (cv), .int (zv)]) (n := 4) (Nat.le_of_ble_eq_true rfl)
  rw [lg_entry_eq]
  generalize (lg_sl ([.ref (h0), .int (yv), .int (cv), .int (zv)]) ++ List.replicate (4 - (lg_sl ([.ref (h0), .int (yv), .int (cv), .int (zv)])).length) Slot.unset).toArray = ls at hl ⊢
  have hl : lv_has ls 4 [(0, .ref (h0)), (1, .int (yv)), (2, .int (cv)), (3, .int (zv))] := hl
  generalize ([.ref (h0), .int (yv), .int (cv), .int (zv)] : List Value).toArray = args at B hts hw ⊢
  have hp5 : 5 ≤ pp := by have := G.1; have := G.2.2.1.1; omega
  have hp := G.2.2.2.2.2.2
  have hq2 : 2 ≤ qq := G.2.2.1.1
  have hq : qq < 2 ^ 31 := by have := G.1; omega
  have hgp : gg < pp := G.2.2.2.2.1
  by_cases h0y : mem yv.toInt pp qq
  · refine lv_aload_n hx hb d_X_feign_0 rfl (lv_at hl 0 rfl) ?_
    refine lv_iload_n hx hb d_X_feign_1 rfl (lv_at hl 1 rfl) ?_
    refine zV (b := h0) (As := [.int (yv)]) (rest := []) ⟨hx, hb, hml, hown, hw⟩ (c_X_requireMember_ok l D h0 pp qq gg G yv h0y) OX_B (OX_at hP hK hT (fun _ _ => rfl)) (va_recv hK hP (ci := 0) (q0 := 0) rfl rfl) g_X_55 rfl rfl pd_X_requireMember ⟨Nat.le_of_ble_eq_true rfl, Nat.le_of_ble_eq_true rfl⟩ hl.1 rfl (Nat.le_of_ble_eq_true rfl) d_X_feign_2 ⟨Nat.zero_le _, Nat.zero_le _⟩ ?_
    refine W.eq (g2 := F0 m 5 ls []) rfl ?_
    by_cases h1 : res cv.toInt qq
    · refine lv_aload_n hx hb d_X_feign_5 rfl (lv_at hl 0 rfl) ?_
      refine lv_iload_n hx hb d_X_feign_6 rfl (lv_at hl 2 rfl) ?_
      refine zV (b := h0) (As := [.int (cv)]) (rest := []) ⟨hx, hb, hml, hown, hw⟩ (c_X_requireExponent_ok l D h0 pp qq gg hq cv h1) OX_B (OX_at hP hK hT (fun _ _ => rfl)) (va_recv hK hP (ci := 0) (q0 := 0) rfl rfl) g_X_67 rfl rfl pd_X_requireExponent ⟨Nat.le_of_ble_eq_true rfl, Nat.le_of_ble_eq_true rfl⟩ hl.1 rfl (Nat.le_of_ble_eq_true rfl) d_X_feign_7 ⟨Nat.zero_le _, Nat.zero_le _⟩ ?_
      refine W.eq (g2 := F0 m 10 ls []) rfl ?_
      refine lv_aload_n hx hb d_X_feign_10 rfl (lv_at hl 0 rfl) ?_
      refine lv_iload_n hx hb d_X_feign_11 rfl (lv_at hl 3 rfl) ?_
      exact zXo ht hlocks (zXr (b := h0) (As := [.int (zv)]) (rest := []) ⟨hx, hb, hml, hown, hw⟩ (c_X_requireExponent_bad l hL D h0 pp qq gg hq zv (fun z => hno ⟨h0y, h1, z⟩)) OX_B (OX_at hP hK hT (fun _ _ => rfl)) (va_recv hK hP (ci := 0) (q0 := 0) rfl rfl) g_X_67 rfl rfl pd_X_requireExponent ⟨Nat.le_of_ble_eq_true rfl, Nat.le_of_ble_eq_true rfl⟩ hl.1 rfl (Nat.le_of_ble_eq_true rfl) d_X_feign_12 ⟨Nat.le_of_ble_eq_true rfl, Nat.le_of_ble_eq_true rfl⟩)
    · refine lv_aload_n hx hb d_X_feign_5 rfl (lv_at hl 0 rfl) ?_
      refine lv_iload_n hx hb d_X_feign_6 rfl (lv_at hl 2 rfl) ?_
      exact zXo ht hlocks (zXr (b := h0) (As := [.int (cv)]) (rest := []) ⟨hx, hb, hml, hown, hw⟩ (c_X_requireExponent_bad l hL D h0 pp qq gg hq cv h1) OX_B (OX_at hP hK hT (fun _ _ => rfl)) (va_recv hK hP (ci := 0) (q0 := 0) rfl rfl) g_X_67 rfl rfl pd_X_requireExponent ⟨Nat.le_of_ble_eq_true rfl, Nat.le_of_ble_eq_true rfl⟩ hl.1 rfl (Nat.le_of_ble_eq_true rfl) d_X_feign_7 ⟨Nat.le_of_ble_eq_true rfl, Nat.le_of_ble_eq_true rfl⟩)
  · refine lv_aload_n hx hb d_X_feign_0 rfl (lv_at hl 0 rfl) ?_
    refine lv_iload_n hx hb d_X_feign_1 rfl (lv_at hl 1 rfl) ?_
    exact zXo ht hlocks (zXr (b := h0) (As := [.int (yv)]) (rest := []) ⟨hx, hb, hml, hown, hw⟩ (c_X_requireMember_bad l hL D h0 pp qq gg G yv h0y) OX_B (OX_at hP hK hT (fun _ _ => rfl)) (va_recv hK hP (ci := 0) (q0 := 0) rfl rfl) g_X_55 rfl rfl pd_X_requireMember ⟨Nat.le_of_ble_eq_true rfl, Nat.le_of_ble_eq_true rfl⟩ hl.1 rfl (Nat.le_of_ble_eq_true rfl) d_X_feign_2 ⟨Nat.le_of_ble_eq_true rfl, Nat.le_of_ble_eq_true rfl⟩)
set_option maxHeartbeats 4000000 in
set_option maxRecDepth 100000 in
theorem c_X_secret_ok (l : Launch) (D : va_G) (h0 pp qq gg : Nat) (G : grp pp qq gg) (ce ze de we : Nat) (h1 : ce < qq) (h2 : ze < qq) (h3 : de < qq) (h4 : we < qq) (h5 : ce ≠ de) : Met l y_X_secret (k_X_secret :: wall) { frames := 7, cells := 0, slots := 0, locals := 103 } (zP [.ref (h0), .int (nI (ce)), .int (nI (ze)), .int (nI (de)), .int (nI (we))] (OX D h0 (nI (pp)) (nI (qq)) (nI (gg)))) (zR (some (.int (nI ((ze + qq - we) % qq * (((ce + qq - de) % qq) ^ (qq - 2) % qq) % qq))))) 0 0 (fun _ => False) := by
  refine Met.ofW (cc := b_X_secret) (maxL := 5) (ret := (some .int)) (by decide) rfl ?_
  intro p e s m args below meth c s₁ B hml hv
  obtain ⟨hv, hP, hK, hT⟩ := hv
  subst hv
  have hx := B.exec
  have hb := B.bytes
  have hr := B.returns
  have hts := atoms_spec (ws := k_X_secret :: wall) B.pre
  have hw : ∀ w ∈ wall, w.before _ s = true := fun w h => hts w (List.mem_cons_of_mem _ h)
  have hown : s.vm.findClass R_X = some m.cls := findClass_of_methodNamed B.named
  have hlocks := B.notSynchronized
  have hl := lv_entry ([.ref (h0), .int (nI (ce)), .int (nI (ze)), .int (nI (de)), .int (nI (we))]) (n := 5) (Nat.le_of_ble_eq_true rfl)
  rw [lg_entry_eq]
  generalize (lg_sl ([.ref (h0), .int (nI (ce)), .int (nI (ze)), .int (nI (de)), .int (nI (we))]) ++ List.replicate (5 - (lg_sl ([.ref (h0), .int (nI (ce)), .int (nI (ze)), .int (nI (de)), .int (nI (we))])).length) Slot.unset).toArray = ls at hl ⊢
  have hl : lv_has ls 5 [(0, .ref (h0)), (1, .int (nI (ce))), (2, .int (nI (ze))), (3, .int (nI (de))), (4, .int (nI (we)))] := hl
  generalize ([.ref (h0), .int (nI (ce)), .int (nI (ze)), .int (nI (de)), .int (nI (we))] : List Value).toArray = args at B hts hw ⊢
  have hp5 : 5 ≤ pp := by have := G.1; have := G.2.2.1.1; omega
  have hp := G.2.2.2.2.2.2
  have hq2 : 2 ≤ qq := G.2.2.1.1
  have hq : qq < 2 ^ 31 := by have := G.1; omega
  have hgp : gg < pp := G.2.2.2.2.1
  have r_ce : res (nI (ce)).toInt qq := by rw [nI_toInt (by omega)]; exact ⟨by omega, by omega⟩
  have r_ze : res (nI (ze)).toInt qq := by rw [nI_toInt (by omega)]; exact ⟨by omega, by omega⟩
  have r_de : res (nI (de)).toInt qq := by rw [nI_toInt (by omega)]; exact ⟨by omega, by omega⟩
  have r_we : res (nI (we)).toInt qq := by rw [nI_toInt (by omega)]; exact ⟨by omega, by omega⟩
  refine lv_aload_n hx hb d_X_secret_0 rfl (lv_at hl 0 rfl) ?_
  refine lv_iload_n hx hb d_X_secret_1 rfl (lv_at hl 1 rfl) ?_
  refine zV (b := h0) (As := [.int (nI (ce))]) (rest := []) ⟨hx, hb, hml, hown, hw⟩ (c_X_requireExponent_ok l D h0 pp qq gg hq (nI (ce)) r_ce) OX_B (OX_at hP hK hT (fun _ _ => rfl)) (va_recv hK hP (ci := 0) (q0 := 0) rfl rfl) g_X_67 rfl rfl pd_X_requireExponent ⟨Nat.le_of_ble_eq_true rfl, Nat.le_of_ble_eq_true rfl⟩ hl.1 rfl (Nat.le_of_ble_eq_true rfl) d_X_secret_2 ⟨Nat.zero_le _, Nat.zero_le _⟩ ?_
  refine W.eq (g2 := F0 m 5 ls []) rfl ?_
  refine lv_aload_n hx hb d_X_secret_5 rfl (lv_at hl 0 rfl) ?_
  refine lv_iload_n hx hb d_X_secret_6 rfl (lv_at hl 2 rfl) ?_
  refine zV (b := h0) (As := [.int (nI (ze))]) (rest := []) ⟨hx, hb, hml, hown, hw⟩ (c_X_requireExponent_ok l D h0 pp qq gg hq (nI (ze)) r_ze) OX_B (OX_at hP hK hT (fun _ _ => rfl)) (va_recv hK hP (ci := 0) (q0 := 0) rfl rfl) g_X_67 rfl rfl pd_X_requireExponent ⟨Nat.le_of_ble_eq_true rfl, Nat.le_of_ble_eq_true rfl⟩ hl.1 rfl (Nat.le_of_ble_eq_true rfl) d_X_secret_7 ⟨Nat.zero_le _, Nat.zero_le _⟩ ?_
  refine W.eq (g2 := F0 m 10 ls []) rfl ?_
  refine lv_aload_n hx hb d_X_secret_10 rfl (lv_at hl 0 rfl) ?_
  refine lv_iload_n hx hb d_X_secret_11 rfl (lv_at hl 3 rfl) ?_
  refine zV (b := h0) (As := [.int (nI (de))]) (rest := []) ⟨hx, hb, hml, hown, hw⟩ (c_X_requireExponent_ok l D h0 pp qq gg hq (nI (de)) r_de) OX_B (OX_at hP hK hT (fun _ _ => rfl)) (va_recv hK hP (ci := 0) (q0 := 0) rfl rfl) g_X_67 rfl rfl pd_X_requireExponent ⟨Nat.le_of_ble_eq_true rfl, Nat.le_of_ble_eq_true rfl⟩ hl.1 rfl (Nat.le_of_ble_eq_true rfl) d_X_secret_12 ⟨Nat.zero_le _, Nat.zero_le _⟩ ?_
  refine W.eq (g2 := F0 m 15 ls []) rfl ?_
  refine lv_aload_n hx hb d_X_secret_15 rfl (lv_at hl 0 rfl) ?_
  refine lv_iload hx hb d_X_secret_16 (lv_at hl 4 rfl) ?_
  refine zV (b := h0) (As := [.int (nI (we))]) (rest := []) ⟨hx, hb, hml, hown, hw⟩ (c_X_requireExponent_ok l D h0 pp qq gg hq (nI (we)) r_we) OX_B (OX_at hP hK hT (fun _ _ => rfl)) (va_recv hK hP (ci := 0) (q0 := 0) rfl rfl) g_X_67 rfl rfl pd_X_requireExponent ⟨Nat.le_of_ble_eq_true rfl, Nat.le_of_ble_eq_true rfl⟩ hl.1 rfl (Nat.le_of_ble_eq_true rfl) d_X_secret_18 ⟨Nat.zero_le _, Nat.zero_le _⟩ ?_
  refine W.eq (g2 := F0 m 21 ls []) rfl ?_
  have e1 : (ze + qq - we) % qq < qq := Nat.mod_lt _ (by omega)
  have e2 : (ce + qq - de) % qq < qq := Nat.mod_lt _ (by omega)
  have e3 : ((ce + qq - de) % qq) ^ (qq - 2) % qq < qq := Nat.mod_lt _ (by omega)
  refine lv_iload_n hx hb d_X_secret_21 rfl (lv_at hl 1 rfl) ?_
  refine lv_iload_n hx hb d_X_secret_22 rfl (lv_at hl 3 rfl) ?_
  refine lv_icmp_ne (tgt := 36) hx hb d_X_secret_23 (by decide) (fun _ => ?_) (fun z => absurd z (fun z => h5 ((nI_eq (by omega) (by omega)).mp z)))
  refine lv_iload_n hx hb d_X_secret_36 rfl (lv_at hl 2 rfl) ?_
  refine lv_iload hx hb d_X_secret_37 (lv_at hl 4 rfl) ?_
  refine lv_aload_n hx hb d_X_secret_39 rfl (lv_at hl 0 rfl) ?_
  refine va_get (D := D) (ci := 0) (v := .int (nI (qq))) (C := R_X) (T := F_X) (N := 3) hx hb hw i_X hown hK hP 0 rfl rfl 1 (by decide) (hw _ fl_X_13) (fun _ h9 => h9) rfl d_X_secret_40 ?_
  refine zS (As := [.int (nI (ze)), .int (nI (we)), .int (nI (qq))]) (rest := []) ⟨hx, hb, hml, hown, hw⟩ (c_X_difference l ze we qq h2 h4 hq) g_X_75 rfl rfl pd_X_difference ⟨Nat.le_of_ble_eq_true rfl, Nat.le_of_ble_eq_true rfl⟩ hl.1 rfl (Nat.le_of_ble_eq_true rfl) d_X_secret_43 ⟨Nat.zero_le _, Nat.zero_le _⟩ ?_
  refine W.eq (g2 := F0 m 46 ls [.int (nI ((ze + qq - we) % qq))]) rfl ?_
  refine lv_iload_n hx hb d_X_secret_46 rfl (lv_at hl 1 rfl) ?_
  refine lv_iload_n hx hb d_X_secret_47 rfl (lv_at hl 3 rfl) ?_
  refine lv_aload_n hx hb d_X_secret_48 rfl (lv_at hl 0 rfl) ?_
  refine va_get (D := D) (ci := 0) (v := .int (nI (qq))) (C := R_X) (T := F_X) (N := 3) hx hb hw i_X hown hK hP 0 rfl rfl 1 (by decide) (hw _ fl_X_13) (fun _ h9 => h9) rfl d_X_secret_49 ?_
  refine zS (As := [.int (nI (ce)), .int (nI (de)), .int (nI (qq))]) (rest := [.int (nI ((ze + qq - we) % qq))]) ⟨hx, hb, hml, hown, hw⟩ (c_X_difference l ce de qq h1 h3 hq) g_X_75 rfl rfl pd_X_difference ⟨Nat.le_of_ble_eq_true rfl, Nat.le_of_ble_eq_true rfl⟩ hl.1 rfl (Nat.le_of_ble_eq_true rfl) d_X_secret_52 ⟨Nat.zero_le _, Nat.zero_le _⟩ ?_
  refine W.eq (g2 := F0 m 55 ls [.int (nI ((ce + qq - de) % qq)), .int (nI ((ze + qq - we) % qq))]) rfl ?_
  refine lv_aload_n hx hb d_X_secret_55 rfl (lv_at hl 0 rfl) ?_
  refine va_get (D := D) (ci := 0) (v := .int (nI (qq))) (C := R_X) (T := F_X) (N := 3) hx hb hw i_X hown hK hP 0 rfl rfl 1 (by decide) (hw _ fl_X_13) (fun _ h9 => h9) rfl d_X_secret_56 ?_
  refine zS (As := [.int (nI ((ce + qq - de) % qq)), .int (nI (qq))]) (rest := [.int (nI ((ze + qq - we) % qq))]) ⟨hx, hb, hml, hown, hw⟩ (c_X_inverted l ((ce + qq - de) % qq) qq e2 hq2 hq) g_X_51 rfl rfl pd_X_inverted ⟨Nat.le_of_ble_eq_true rfl, Nat.le_of_ble_eq_true rfl⟩ hl.1 rfl (Nat.le_of_ble_eq_true rfl) d_X_secret_59 ⟨Nat.zero_le _, Nat.zero_le _⟩ ?_
  refine W.eq (g2 := F0 m 62 ls [.int (nI (((ce + qq - de) % qq) ^ (qq - 2) % qq)), .int (nI ((ze + qq - we) % qq))]) rfl ?_
  refine lv_aload_n hx hb d_X_secret_62 rfl (lv_at hl 0 rfl) ?_
  refine va_get (D := D) (ci := 0) (v := .int (nI (qq))) (C := R_X) (T := F_X) (N := 3) hx hb hw i_X hown hK hP 0 rfl rfl 1 (by decide) (hw _ fl_X_13) (fun _ h9 => h9) rfl d_X_secret_63 ?_
  refine zS (As := [.int (nI ((ze + qq - we) % qq)), .int (nI (((ce + qq - de) % qq) ^ (qq - 2) % qq)), .int (nI (qq))]) (rest := []) ⟨hx, hb, hml, hown, hw⟩ (c_X_times l ((ze + qq - we) % qq) (((ce + qq - de) % qq) ^ (qq - 2) % qq) qq (by omega) (by omega) (by omega) hq) g_X_34 rfl rfl pd_X_times ⟨Nat.le_of_ble_eq_true rfl, Nat.le_of_ble_eq_true rfl⟩ hl.1 rfl (Nat.le_of_ble_eq_true rfl) d_X_secret_66 ⟨Nat.zero_le _, Nat.zero_le _⟩ ?_
  refine W.eq (g2 := F0 m 69 ls [.int (nI ((ze + qq - we) % qq * (((ce + qq - de) % qq) ^ (qq - 2) % qq) % qq))]) rfl ?_
  exact W.iret hx hb hr (fun t ht _ => ⟨rfl, ht⟩) (fun _ h => nomatch h) d_X_secret_69
set_option maxHeartbeats 4000000 in
set_option maxRecDepth 100000 in
theorem c_X_secret_bad (l : Launch) (hL : l.stackTraces = false) (D : va_G) (h0 pp qq gg : Nat) (G : grp pp qq gg) (cv zv dv wv : Int32) (hno : ¬ (res cv.toInt qq ∧ res zv.toInt qq ∧ res dv.toInt qq ∧ res wv.toInt qq ∧ cv ≠ dv)) : vx_Met l y_X_secret (k_X_secret :: wall) { frames := 7, cells := 1, slots := 6, locals := 103 } (zP [.ref (h0), .int (cv), .int (zv), .int (dv), .int (wv)] (OX D h0 (nI (pp)) (nI (qq)) (nI (gg)))) (fun _ _ _ _ => False) (zT IAE) 1 6 (fun _ => False) := by
  refine vx_ofW (cc := b_X_secret) (maxL := 5) (ret := (some .int)) (by decide) rfl ?_
  intro p e s m args below meth c s₁ B hml ht hv
  obtain ⟨hv, hP, hK, hT⟩ := hv
  subst hv
  have hx := B.exec
  have hb := B.bytes
  have hr := B.returns
  have hts := atoms_spec (ws := k_X_secret :: wall) B.pre
  have hw : ∀ w ∈ wall, w.before _ s = true := fun w h => hts w (List.mem_cons_of_mem _ h)
  have hown : s.vm.findClass R_X = some m.cls := findClass_of_methodNamed B.named
  have hlocks := B.notSynchronized
  have hl := lv_entry ([.ref (h0), .int (cv), .int (zv), .int (dv), .int (wv)]) (n := 5) (Nat.le_of_ble_eq_true rfl)
  rw [lg_entry_eq]
  generalize (lg_sl ([.ref (h0), .int (cv), .int (zv), .int (dv), .int (wv)]) ++ List.replicate (5 - (lg_sl ([.ref (h0), .int (cv), .int (zv), .int (dv), .int (wv)])).length) Slot.unset).toArray = ls at hl ⊢
  have hl : lv_has ls 5 [(0, .ref (h0)), (1, .int (cv)), (2, .int (zv)), (3, .int (dv)), (4, .int (wv))] := hl
  generalize ([.ref (h0), .int (cv), .int (zv), .int (dv), .int (wv)] : List Value).toArray = args at B hts hw ⊢
  have hp5 : 5 ≤ pp := by have := G.1; have := G.2.2.1.1; omega
  have hp := G.2.2.2.2.2.2
  have hq2 : 2 ≤ qq := G.2.2.1.1
  have hq : qq < 2 ^ 31 := by have := G.1; omega
  have hgp : gg < pp := G.2.2.2.2.1
  by_cases h1 : res cv.toInt qq
  · refine lv_aload_n hx hb d_X_secret_0 rfl (lv_at hl 0 rfl) ?_
    refine lv_iload_n hx hb d_X_secret_1 rfl (lv_at hl 1 rfl) ?_
    refine zV (b := h0) (As := [.int (cv)]) (rest := []) ⟨hx, hb, hml, hown, hw⟩ (c_X_requireExponent_ok l D h0 pp qq gg hq cv h1) OX_B (OX_at hP hK hT (fun _ _ => rfl)) (va_recv hK hP (ci := 0) (q0 := 0) rfl rfl) g_X_67 rfl rfl pd_X_requireExponent ⟨Nat.le_of_ble_eq_true rfl, Nat.le_of_ble_eq_true rfl⟩ hl.1 rfl (Nat.le_of_ble_eq_true rfl) d_X_secret_2 ⟨Nat.zero_le _, Nat.zero_le _⟩ ?_
    refine W.eq (g2 := F0 m 5 ls []) rfl ?_
    by_cases h2 : res zv.toInt qq
    · refine lv_aload_n hx hb d_X_secret_5 rfl (lv_at hl 0 rfl) ?_
      refine lv_iload_n hx hb d_X_secret_6 rfl (lv_at hl 2 rfl) ?_
      refine zV (b := h0) (As := [.int (zv)]) (rest := []) ⟨hx, hb, hml, hown, hw⟩ (c_X_requireExponent_ok l D h0 pp qq gg hq zv h2) OX_B (OX_at hP hK hT (fun _ _ => rfl)) (va_recv hK hP (ci := 0) (q0 := 0) rfl rfl) g_X_67 rfl rfl pd_X_requireExponent ⟨Nat.le_of_ble_eq_true rfl, Nat.le_of_ble_eq_true rfl⟩ hl.1 rfl (Nat.le_of_ble_eq_true rfl) d_X_secret_7 ⟨Nat.zero_le _, Nat.zero_le _⟩ ?_
      refine W.eq (g2 := F0 m 10 ls []) rfl ?_
      by_cases h3 : res dv.toInt qq
      · refine lv_aload_n hx hb d_X_secret_10 rfl (lv_at hl 0 rfl) ?_
        refine lv_iload_n hx hb d_X_secret_11 rfl (lv_at hl 3 rfl) ?_
        refine zV (b := h0) (As := [.int (dv)]) (rest := []) ⟨hx, hb, hml, hown, hw⟩ (c_X_requireExponent_ok l D h0 pp qq gg hq dv h3) OX_B (OX_at hP hK hT (fun _ _ => rfl)) (va_recv hK hP (ci := 0) (q0 := 0) rfl rfl) g_X_67 rfl rfl pd_X_requireExponent ⟨Nat.le_of_ble_eq_true rfl, Nat.le_of_ble_eq_true rfl⟩ hl.1 rfl (Nat.le_of_ble_eq_true rfl) d_X_secret_12 ⟨Nat.zero_le _, Nat.zero_le _⟩ ?_
        refine W.eq (g2 := F0 m 15 ls []) rfl ?_
        by_cases h4 : res wv.toInt qq
        · refine lv_aload_n hx hb d_X_secret_15 rfl (lv_at hl 0 rfl) ?_
          refine lv_iload hx hb d_X_secret_16 (lv_at hl 4 rfl) ?_
          refine zV (b := h0) (As := [.int (wv)]) (rest := []) ⟨hx, hb, hml, hown, hw⟩ (c_X_requireExponent_ok l D h0 pp qq gg hq wv h4) OX_B (OX_at hP hK hT (fun _ _ => rfl)) (va_recv hK hP (ci := 0) (q0 := 0) rfl rfl) g_X_67 rfl rfl pd_X_requireExponent ⟨Nat.le_of_ble_eq_true rfl, Nat.le_of_ble_eq_true rfl⟩ hl.1 rfl (Nat.le_of_ble_eq_true rfl) d_X_secret_18 ⟨Nat.zero_le _, Nat.zero_le _⟩ ?_
          refine W.eq (g2 := F0 m 21 ls []) rfl ?_
          refine lv_iload_n hx hb d_X_secret_21 rfl (lv_at hl 1 rfl) ?_
          refine lv_iload_n hx hb d_X_secret_22 rfl (lv_at hl 3 rfl) ?_
          refine lv_icmp_ne (tgt := 36) hx hb d_X_secret_23 (by decide) (fun z => absurd (Classical.byContradiction fun z => hno ⟨h1, h2, h3, h4, z⟩) z) (fun _ => ?_)
          exact zThr (cls := IAE) (text := "the two challenges are one") (ik := 38) (is := 73) (ic := 42) hx hb hL hown hw hT (by decide +kernel) at_IAE an_IAE hT.1 ao_IAE cl_X_38 in_IllegalArgumentException (by decide +kernel) hml hl.1 ht hlocks d_X_secret_26 d_X_secret_29 d_X_secret_30 d_X_secret_32 d_X_secret_35 (Nat.le_of_ble_eq_true rfl) (Nat.le_of_ble_eq_true rfl) (Nat.le_of_ble_eq_true rfl) (Nat.le_of_ble_eq_true rfl)
        · refine lv_aload_n hx hb d_X_secret_15 rfl (lv_at hl 0 rfl) ?_
          refine lv_iload hx hb d_X_secret_16 (lv_at hl 4 rfl) ?_
          exact zXo ht hlocks (zXr (b := h0) (As := [.int (wv)]) (rest := []) ⟨hx, hb, hml, hown, hw⟩ (c_X_requireExponent_bad l hL D h0 pp qq gg hq wv h4) OX_B (OX_at hP hK hT (fun _ _ => rfl)) (va_recv hK hP (ci := 0) (q0 := 0) rfl rfl) g_X_67 rfl rfl pd_X_requireExponent ⟨Nat.le_of_ble_eq_true rfl, Nat.le_of_ble_eq_true rfl⟩ hl.1 rfl (Nat.le_of_ble_eq_true rfl) d_X_secret_18 ⟨Nat.le_of_ble_eq_true rfl, Nat.le_of_ble_eq_true rfl⟩)
      · refine lv_aload_n hx hb d_X_secret_10 rfl (lv_at hl 0 rfl) ?_
        refine lv_iload_n hx hb d_X_secret_11 rfl (lv_at hl 3 rfl) ?_
        exact zXo ht hlocks (zXr (b := h0) (As := [.int (dv)]) (rest := []) ⟨hx, hb, hml, hown, hw⟩ (c_X_requireExponent_bad l hL D h0 pp qq gg hq dv h3) OX_B (OX_at hP hK hT (fun _ _ => rfl)) (va_recv hK hP (ci := 0) (q0 := 0) rfl rfl) g_X_67 rfl rfl pd_X_requireExponent ⟨Nat.le_of_ble_eq_true rfl, Nat.le_of_ble_eq_true rfl⟩ hl.1 rfl (Nat.le_of_ble_eq_true rfl) d_X_secret_12 ⟨Nat.le_of_ble_eq_true rfl, Nat.le_of_ble_eq_true rfl⟩)
    · refine lv_aload_n hx hb d_X_secret_5 rfl (lv_at hl 0 rfl) ?_
      refine lv_iload_n hx hb d_X_secret_6 rfl (lv_at hl 2 rfl) ?_
      exact zXo ht hlocks (zXr (b := h0) (As := [.int (zv)]) (rest := []) ⟨hx, hb, hml, hown, hw⟩ (c_X_requireExponent_bad l hL D h0 pp qq gg hq zv h2) OX_B (OX_at hP hK hT (fun _ _ => rfl)) (va_recv hK hP (ci := 0) (q0 := 0) rfl rfl) g_X_67 rfl rfl pd_X_requireExponent ⟨Nat.le_of_ble_eq_true rfl, Nat.le_of_ble_eq_true rfl⟩ hl.1 rfl (Nat.le_of_ble_eq_true rfl) d_X_secret_7 ⟨Nat.le_of_ble_eq_true rfl, Nat.le_of_ble_eq_true rfl⟩)
  · refine lv_aload_n hx hb d_X_secret_0 rfl (lv_at hl 0 rfl) ?_
    refine lv_iload_n hx hb d_X_secret_1 rfl (lv_at hl 1 rfl) ?_
    exact zXo ht hlocks (zXr (b := h0) (As := [.int (cv)]) (rest := []) ⟨hx, hb, hml, hown, hw⟩ (c_X_requireExponent_bad l hL D h0 pp qq gg hq cv h1) OX_B (OX_at hP hK hT (fun _ _ => rfl)) (va_recv hK hP (ci := 0) (q0 := 0) rfl rfl) g_X_67 rfl rfl pd_X_requireExponent ⟨Nat.le_of_ble_eq_true rfl, Nat.le_of_ble_eq_true rfl⟩ hl.1 rfl (Nat.le_of_ble_eq_true rfl) d_X_secret_2 ⟨Nat.le_of_ble_eq_true rfl, Nat.le_of_ble_eq_true rfl⟩)
set_option maxHeartbeats 4000000 in
set_option maxRecDepth 100000 in
theorem c_X_count_0 (l : Launch) (D : va_G) (h0 pp qq gg : Nat) (G : grp pp qq gg)  : Met l y_X_count (k_X_count :: wall) { frames := 6, cells := 0, slots := 0, locals := 82 } (zP [.ref (h0), .int (nI (0))] (OX D h0 (nI (pp)) (nI (qq)) (nI (gg)))) (zR (some (.int (nI (pp))))) 0 0 (fun _ => False) := by
  refine Met.ofW (cc := b_X_count) (maxL := 2) (ret := (some .int)) (by decide) rfl ?_
  intro p e s m args below meth c s₁ B hml hv
  obtain ⟨hv, hP, hK, hT⟩ := hv
  subst hv
  have hx := B.exec
  have hb := B.bytes
  have hr := B.returns
  have hts := atoms_spec (ws := k_X_count :: wall) B.pre
  have hw : ∀ w ∈ wall, w.before _ s = true := fun w h => hts w (List.mem_cons_of_mem _ h)
  have hown : s.vm.findClass R_X = some m.cls := findClass_of_methodNamed B.named
  have hlocks := B.notSynchronized
  have hl := lv_entry ([.ref (h0), .int (nI (0))]) (n := 2) (Nat.le_of_ble_eq_true rfl)
  rw [lg_entry_eq]
  generalize (lg_sl ([.ref (h0), .int (nI (0))]) ++ List.replicate (2 - (lg_sl ([.ref (h0), .int (nI (0))])).length) Slot.unset).toArray = ls at hl ⊢
  have hl : lv_has ls 2 [(0, .ref (h0)), (1, .int (nI (0)))] := hl
  generalize ([.ref (h0), .int (nI (0))] : List Value).toArray = args at B hts hw ⊢
  refine lv_iload_n hx hb d_X_count_0 rfl (lv_at hl 1 rfl) ?_
  refine lv_tableIn (tgt := 28) hx hb d_X_count_1 (by decide) (by decide) rfl (by decide) ?_
  refine lv_aload_n hx hb d_X_count_28 rfl (lv_at hl 0 rfl) ?_
  refine va_get (D := D) (ci := 0) (v := .int (nI (pp))) (C := R_X) (T := F_X) (N := 3) hx hb hw i_X hown hK hP 0 rfl rfl 0 (by decide) (hw _ fl_X_7) (fun _ h9 => h9) rfl d_X_count_29 ?_
  exact W.iret hx hb hr (fun t ht _ => ⟨rfl, ht⟩) (fun _ h => nomatch h) d_X_count_32
set_option maxHeartbeats 4000000 in
set_option maxRecDepth 100000 in
theorem c_X_count_1 (l : Launch) (D : va_G) (h0 pp qq gg : Nat) (G : grp pp qq gg)  : Met l y_X_count (k_X_count :: wall) { frames := 6, cells := 0, slots := 0, locals := 82 } (zP [.ref (h0), .int (nI (1))] (OX D h0 (nI (pp)) (nI (qq)) (nI (gg)))) (zR (some (.int (nI (qq))))) 0 0 (fun _ => False) := by
  refine Met.ofW (cc := b_X_count) (maxL := 2) (ret := (some .int)) (by decide) rfl ?_
  intro p e s m args below meth c s₁ B hml hv
  obtain ⟨hv, hP, hK, hT⟩ := hv
  subst hv
  have hx := B.exec
  have hb := B.bytes
  have hr := B.returns
  have hts := atoms_spec (ws := k_X_count :: wall) B.pre
  have hw : ∀ w ∈ wall, w.before _ s = true := fun w h => hts w (List.mem_cons_of_mem _ h)
  have hown : s.vm.findClass R_X = some m.cls := findClass_of_methodNamed B.named
  have hlocks := B.notSynchronized
  have hl := lv_entry ([.ref (h0), .int (nI (1))]) (n := 2) (Nat.le_of_ble_eq_true rfl)
  rw [lg_entry_eq]
  generalize (lg_sl ([.ref (h0), .int (nI (1))]) ++ List.replicate (2 - (lg_sl ([.ref (h0), .int (nI (1))])).length) Slot.unset).toArray = ls at hl ⊢
  have hl : lv_has ls 2 [(0, .ref (h0)), (1, .int (nI (1)))] := hl
  generalize ([.ref (h0), .int (nI (1))] : List Value).toArray = args at B hts hw ⊢
  refine lv_iload_n hx hb d_X_count_0 rfl (lv_at hl 1 rfl) ?_
  refine lv_tableIn (tgt := 33) hx hb d_X_count_1 (by decide) (by decide) rfl (by decide) ?_
  refine lv_aload_n hx hb d_X_count_33 rfl (lv_at hl 0 rfl) ?_
  refine va_get (D := D) (ci := 0) (v := .int (nI (qq))) (C := R_X) (T := F_X) (N := 3) hx hb hw i_X hown hK hP 0 rfl rfl 1 (by decide) (hw _ fl_X_13) (fun _ h9 => h9) rfl d_X_count_34 ?_
  exact W.iret hx hb hr (fun t ht _ => ⟨rfl, ht⟩) (fun _ h => nomatch h) d_X_count_37
set_option maxHeartbeats 4000000 in
set_option maxRecDepth 100000 in
theorem c_X_count_2 (l : Launch) (D : va_G) (h0 pp qq gg : Nat) (G : grp pp qq gg)  : Met l y_X_count (k_X_count :: wall) { frames := 6, cells := 0, slots := 0, locals := 82 } (zP [.ref (h0), .int (nI (2))] (OX D h0 (nI (pp)) (nI (qq)) (nI (gg)))) (zR (some (.int (nI (gg))))) 0 0 (fun _ => False) := by
  refine Met.ofW (cc := b_X_count) (maxL := 2) (ret := (some .int)) (by decide) rfl ?_
  intro p e s m args below meth c s₁ B hml hv
  obtain ⟨hv, hP, hK, hT⟩ := hv
  subst hv
  have hx := B.exec
  have hb := B.bytes
  have hr := B.returns
  have hts := atoms_spec (ws := k_X_count :: wall) B.pre
  have hw : ∀ w ∈ wall, w.before _ s = true := fun w h => hts w (List.mem_cons_of_mem _ h)
  have hown : s.vm.findClass R_X = some m.cls := findClass_of_methodNamed B.named
  have hlocks := B.notSynchronized
  have hl := lv_entry ([.ref (h0), .int (nI (2))]) (n := 2) (Nat.le_of_ble_eq_true rfl)
  rw [lg_entry_eq]
  generalize (lg_sl ([.ref (h0), .int (nI (2))]) ++ List.replicate (2 - (lg_sl ([.ref (h0), .int (nI (2))])).length) Slot.unset).toArray = ls at hl ⊢
  have hl : lv_has ls 2 [(0, .ref (h0)), (1, .int (nI (2)))] := hl
  generalize ([.ref (h0), .int (nI (2))] : List Value).toArray = args at B hts hw ⊢
  refine lv_iload_n hx hb d_X_count_0 rfl (lv_at hl 1 rfl) ?_
  refine lv_tableIn (tgt := 38) hx hb d_X_count_1 (by decide) (by decide) rfl (by decide) ?_
  refine lv_aload_n hx hb d_X_count_38 rfl (lv_at hl 0 rfl) ?_
  refine va_get (D := D) (ci := 0) (v := .int (nI (gg))) (C := R_X) (T := F_X) (N := 3) hx hb hw i_X hown hK hP 0 rfl rfl 2 (by decide) (hw _ fl_X_16) (fun _ h9 => h9) rfl d_X_count_39 ?_
  exact W.iret hx hb hr (fun t ht _ => ⟨rfl, ht⟩) (fun _ h => nomatch h) d_X_count_42
set_option maxHeartbeats 4000000 in
set_option maxRecDepth 100000 in
theorem c_X_count_bad (l : Launch) (hL : l.stackTraces = false) (D : va_G) (h0 pp qq gg : Nat) (G : grp pp qq gg) (av : Int32) (hno : ¬ (0 ≤ av.toInt ∧ av.toInt ≤ 2)) : vx_Met l y_X_count (k_X_count :: wall) { frames := 6, cells := 1, slots := 6, locals := 82 } (zP [.ref (h0), .int (av)] (OX D h0 (nI (pp)) (nI (qq)) (nI (gg)))) (fun _ _ _ _ => False) (zT IAE) 1 6 (fun _ => False) := by
  refine vx_ofW (cc := b_X_count) (maxL := 2) (ret := (some .int)) (by decide) rfl ?_
  intro p e s m args below meth c s₁ B hml ht hv
  obtain ⟨hv, hP, hK, hT⟩ := hv
  subst hv
  have hx := B.exec
  have hb := B.bytes
  have hr := B.returns
  have hts := atoms_spec (ws := k_X_count :: wall) B.pre
  have hw : ∀ w ∈ wall, w.before _ s = true := fun w h => hts w (List.mem_cons_of_mem _ h)
  have hown : s.vm.findClass R_X = some m.cls := findClass_of_methodNamed B.named
  have hlocks := B.notSynchronized
  have hl := lv_entry ([.ref (h0), .int (av)]) (n := 2) (Nat.le_of_ble_eq_true rfl)
  rw [lg_entry_eq]
  generalize (lg_sl ([.ref (h0), .int (av)]) ++ List.replicate (2 - (lg_sl ([.ref (h0), .int (av)])).length) Slot.unset).toArray = ls at hl ⊢
  have hl : lv_has ls 2 [(0, .ref (h0)), (1, .int (av))] := hl
  generalize ([.ref (h0), .int (av)] : List Value).toArray = args at B hts hw ⊢
  refine lv_iload_n hx hb d_X_count_0 rfl (lv_at hl 1 rfl) ?_
  refine lv_tableOut (tgt := 43) hx hb d_X_count_1 (by omega) (by decide) ?_
  exact zThr (cls := IAE) (text := "what is not 0 to 2") (ik := 38) (is := 78) (ic := 42) hx hb hL hown hw hT (by decide +kernel) at_IAE an_IAE hT.1 ao_IAE cl_X_38 in_IllegalArgumentException (by decide +kernel) hml hl.1 ht hlocks d_X_count_43 d_X_count_46 d_X_count_47 d_X_count_49 d_X_count_52 (Nat.le_of_ble_eq_true rfl) (Nat.le_of_ble_eq_true rfl) (Nat.le_of_ble_eq_true rfl) (Nat.le_of_ble_eq_true rfl)
