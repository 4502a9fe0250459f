/-! the class: its static methods -/
set_option maxHeartbeats 4000000 in
set_option maxRecDepth 100000 in
/-- a b mod m -/
theorem c_X_times (l : Launch) (aa bb md : Nat) (h1 : aa < 2 ^ 31) (h2 : bb < 2 ^ 31) (h3 : 0 < md) (h4 : md < 2 ^ 31) : Met l y_X_times (k_X_times :: wall) { frames := 0, cells := 0, slots := 0, locals := 0 } (fun v _ => v = ([.int (nI (aa)), .int (nI (bb)), .int (nI (md))] : List Value).toArray) (zR (some (.int (nI (aa * bb % md))))) 0 0 (fun _ => False) := by
  refine Met.ofW (cc := b_X_times) (maxL := 3) (ret := (some .int)) (by decide) rfl ?_
  intro p e s m args below meth c s₁ B hml hv
  subst hv
  have hx := B.exec
  have hb := B.bytes
  have hr := B.returns
  have hts := atoms_spec (ws := k_X_times :: wall) B.pre
  have hw : ∀ w ∈ wall, w.before _ s = true := fun w h => hts w (List.mem_cons_of_mem _ h)
  have hown : s.vm.findClass R_X = some m.cls := findClass_of_methodNamed B.named
  have hlocks := B.notSynchronized
  have hl := lv_entry ([.int (nI (aa)), .int (nI (bb)), .int (nI (md))]) (n := 3) (Nat.le_of_ble_eq_true rfl)
  rw [lg_entry_eq]
  generalize (lg_sl ([.int (nI (aa)), .int (nI (bb)), .int (nI (md))]) ++ List.replicate (3 - (lg_sl ([.int (nI (aa)), .int (nI (bb)), .int (nI (md))])).length) Slot.unset).toArray = ls at hl ⊢
  have hl : lv_has ls 3 [(0, .int (nI (aa))), (1, .int (nI (bb))), (2, .int (nI (md)))] := hl
  generalize ([.int (nI (aa)), .int (nI (bb)), .int (nI (md))] : List Value).toArray = args at B hts hw ⊢
  have hab := mulb h1 h2
  have hmd : aa * bb % md < md := Nat.mod_lt _ h3
  refine lv_iload_n hx hb d_X_times_0 rfl (lv_at hl 0 rfl) ?_
  refine lv_i2l (v := lN (aa)) hx hb d_X_times_1 (nI_l (by omega)) ?_
  refine lv_iload_n hx hb d_X_times_2 rfl (lv_at hl 1 rfl) ?_
  refine lv_i2l (v := lN (bb)) hx hb d_X_times_3 (nI_l (by omega)) ?_
  refine lv_lmul hx hb d_X_times_4 ?_
  refine tL (lN (aa * bb)) (lN_mul _ _) ?_
  refine lv_iload_n hx hb d_X_times_5 rfl (lv_at hl 2 rfl) ?_
  refine lv_i2l (v := lN (md)) hx hb d_X_times_6 (nI_l (by omega)) ?_
  refine lv_lrem hx hb d_X_times_7 (by first | decide | exact nI_ne0 (by omega) (by omega) | exact lN_ne0 (by omega) (by omega)) ?_
  refine tL (lN ((aa * bb) % md)) (pk_lRem (by omega) (by omega) (by omega)) ?_
  refine lv_l2i (v := nI ((aa * bb) % md)) hx hb d_X_times_8 (lN_i _) ?_
  exact W.iret hx hb hr (fun t ht _ => ⟨rfl, ht⟩) (fun _ h => nomatch h) d_X_times_9
set_option maxHeartbeats 4000000 in
set_option maxRecDepth 100000 in
theorem c_X_sum (l : Launch) (aa bb md : Nat) (h1 : aa < 2 ^ 31) (h2 : bb < 2 ^ 31) (h3 : 0 < md) (h4 : md < 2 ^ 31) : Met l y_X_sum (k_X_sum :: wall) { frames := 0, cells := 0, slots := 0, locals := 0 } (fun v _ => v = ([.int (nI (aa)), .int (nI (bb)), .int (nI (md))] : List Value).toArray) (zR (some (.int (nI ((aa + bb) % md))))) 0 0 (fun _ => False) := by
  refine Met.ofW (cc := b_X_sum) (maxL := 3) (ret := (some .int)) (by decide) rfl ?_
  intro p e s m args below meth c s₁ B hml hv
  subst hv
  have hx := B.exec
  have hb := B.bytes
  have hr := B.returns
  have hts := atoms_spec (ws := k_X_sum :: wall) B.pre
  have hw : ∀ w ∈ wall, w.before _ s = true := fun w h => hts w (List.mem_cons_of_mem _ h)
  have hown : s.vm.findClass R_X = some m.cls := findClass_of_methodNamed B.named
  have hlocks := B.notSynchronized
  have hl := lv_entry ([.int (nI (aa)), .int (nI (bb)), .int (nI (md))]) (n := 3) (Nat.le_of_ble_eq_true rfl)
  rw [lg_entry_eq]
  generalize (lg_sl ([.int (nI (aa)), .int (nI (bb)), .int (nI (md))]) ++ List.replicate (3 - (lg_sl ([.int (nI (aa)), .int (nI (bb)), .int (nI (md))])).length) Slot.unset).toArray = ls at hl ⊢
  have hl : lv_has ls 3 [(0, .int (nI (aa))), (1, .int (nI (bb))), (2, .int (nI (md)))] := hl
  generalize ([.int (nI (aa)), .int (nI (bb)), .int (nI (md))] : List Value).toArray = args at B hts hw ⊢
  refine lv_iload_n hx hb d_X_sum_0 rfl (lv_at hl 0 rfl) ?_
  refine lv_i2l (v := lN (aa)) hx hb d_X_sum_1 (nI_l (by omega)) ?_
  refine lv_iload_n hx hb d_X_sum_2 rfl (lv_at hl 1 rfl) ?_
  refine lv_i2l (v := lN (bb)) hx hb d_X_sum_3 (nI_l (by omega)) ?_
  refine lv_ladd hx hb d_X_sum_4 ?_
  refine tL (lN (aa + bb)) (lN_add _ _) ?_
  refine lv_iload_n hx hb d_X_sum_5 rfl (lv_at hl 2 rfl) ?_
  refine lv_i2l (v := lN (md)) hx hb d_X_sum_6 (nI_l (by omega)) ?_
  refine lv_lrem hx hb d_X_sum_7 (by first | decide | exact nI_ne0 (by omega) (by omega) | exact lN_ne0 (by omega) (by omega)) ?_
  refine tL (lN ((aa + bb) % md)) (pk_lRem (by omega) (by omega) (by omega)) ?_
  refine lv_l2i (v := nI ((aa + bb) % md)) hx hb d_X_sum_8 (lN_i _) ?_
  exact W.iret hx hb hr (fun t ht _ => ⟨rfl, ht⟩) (fun _ h => nomatch h) d_X_sum_9
set_option maxHeartbeats 4000000 in
set_option maxRecDepth 100000 in
theorem c_X_halfOf (l : Launch) (nn : Nat) (h1 : 1 ≤ nn) (h2 : nn < 2 ^ 31) : Met l y_X_halfOf (k_X_halfOf :: wall) { frames := 0, cells := 0, slots := 0, locals := 0 } (fun v _ => v = ([.int (nI (nn))] : List Value).toArray) (zR (some (.int (nI ((nn - 1) / 2))))) 0 0 (fun _ => False) := by
  refine Met.ofW (cc := b_X_halfOf) (maxL := 1) (ret := (some .int)) (by decide) rfl ?_
  intro p e s m args below meth c s₁ B hml hv
  subst hv
  have hx := B.exec
  have hb := B.bytes
  have hr := B.returns
  have hts := atoms_spec (ws := k_X_halfOf :: wall) B.pre
  have hw : ∀ w ∈ wall, w.before _ s = true := fun w h => hts w (List.mem_cons_of_mem _ h)
  have hown : s.vm.findClass R_X = some m.cls := findClass_of_methodNamed B.named
  have hlocks := B.notSynchronized
  have hl := lv_entry ([.int (nI (nn))]) (n := 1) (Nat.le_of_ble_eq_true rfl)
  rw [lg_entry_eq]
  generalize (lg_sl ([.int (nI (nn))]) ++ List.replicate (1 - (lg_sl ([.int (nI (nn))])).length) Slot.unset).toArray = ls at hl ⊢
  have hl : lv_has ls 1 [(0, .int (nI (nn)))] := hl
  generalize ([.int (nI (nn))] : List Value).toArray = args at B hts hw ⊢
  refine lv_iload_n hx hb d_X_halfOf_0 rfl (lv_at hl 0 rfl) ?_
  refine lv_iconst (v := nI (1)) hx hb d_X_halfOf_1 (by decide) ?_
  refine lv_isub hx hb d_X_halfOf_2 ?_
  refine tI (nI (nn - 1)) (pk_sub (by omega)) ?_
  refine lv_iconst (v := nI (2)) hx hb d_X_halfOf_3 (by decide) ?_
  refine lv_idiv hx hb d_X_halfOf_4 (by first | decide | exact nI_ne0 (by omega) (by omega) | exact lN_ne0 (by omega) (by omega)) ?_
  refine tI (nI ((nn - 1) / 2)) (pk_div (by omega) (by omega) (by omega)) ?_
  exact W.iret hx hb hr (fun t ht _ => ⟨rfl, ht⟩) (fun _ h => nomatch h) d_X_halfOf_5
set_option maxHeartbeats 4000000 in
set_option maxRecDepth 100000 in
theorem c_X_difference (l : Launch) (aa bb md : Nat) (h1 : aa < md) (h2 : bb < md) (h4 : md < 2 ^ 31) : Met l y_X_difference (k_X_difference :: wall) { frames := 0, cells := 0, slots := 0, locals := 0 } (fun v _ => v = ([.int (nI (aa)), .int (nI (bb)), .int (nI (md))] : List Value).toArray) (zR (some (.int (nI ((aa + md - bb) % md))))) 0 0 (fun _ => False) := by
  refine Met.ofW (cc := b_X_difference) (maxL := 3) (ret := (some .int)) (by decide) rfl ?_
  intro p e s m args below meth c s₁ B hml hv
  subst hv
  have hx := B.exec
  have hb := B.bytes
  have hr := B.returns
  have hts := atoms_spec (ws := k_X_difference :: wall) B.pre
  have hw : ∀ w ∈ wall, w.before _ s = true := fun w h => hts w (List.mem_cons_of_mem _ h)
  have hown : s.vm.findClass R_X = some m.cls := findClass_of_methodNamed B.named
  have hlocks := B.notSynchronized
  have hl := lv_entry ([.int (nI (aa)), .int (nI (bb)), .int (nI (md))]) (n := 3) (Nat.le_of_ble_eq_true rfl)
  rw [lg_entry_eq]
  generalize (lg_sl ([.int (nI (aa)), .int (nI (bb)), .int (nI (md))]) ++ List.replicate (3 - (lg_sl ([.int (nI (aa)), .int (nI (bb)), .int (nI (md))])).length) Slot.unset).toArray = ls at hl ⊢
  have hl : lv_has ls 3 [(0, .int (nI (aa))), (1, .int (nI (bb))), (2, .int (nI (md)))] := hl
  generalize ([.int (nI (aa)), .int (nI (bb)), .int (nI (md))] : List Value).toArray = args at B hts hw ⊢
  rw [diff_val h1 h2]
  refine lv_iload_n hx hb d_X_difference_0 rfl (lv_at hl 0 rfl) ?_
  refine lv_iload_n hx hb d_X_difference_1 rfl (lv_at hl 1 rfl) ?_
  refine lv_icmp_lt (tgt := 11) hx hb d_X_difference_2 (by decide) (fun cc => ?_) (fun cc => ?_)
  · have cc := (nI_ltI (by omega) (by omega)).mp cc
    rw [if_pos cc]
    refine lv_iload_n hx hb d_X_difference_11 rfl (lv_at hl 0 rfl) ?_
    refine lv_iload_n hx hb d_X_difference_12 rfl (lv_at hl 1 rfl) ?_
    refine lv_isub hx hb d_X_difference_13 ?_
    refine tI (nI (aa) - nI (bb)) (rfl) ?_
    refine lv_iload_n hx hb d_X_difference_14 rfl (lv_at hl 2 rfl) ?_
    refine lv_iadd hx hb d_X_difference_15 ?_
    refine tI (nI (aa + md - bb)) (sub_add_n (by omega)) ?_
    exact W.iret hx hb hr (fun t ht _ => ⟨rfl, ht⟩) (fun _ h => nomatch h) d_X_difference_16
  · have cc : ¬ aa < bb := fun z => cc (nI_lt z (by omega))
    rw [if_neg cc]
    refine lv_iload_n hx hb d_X_difference_5 rfl (lv_at hl 0 rfl) ?_
    refine lv_iload_n hx hb d_X_difference_6 rfl (lv_at hl 1 rfl) ?_
    refine lv_isub hx hb d_X_difference_7 ?_
    refine tI (nI (aa - bb)) (pk_sub (by omega)) ?_
    refine lv_goto (tgt := 16) hx hb d_X_difference_8 (by decide) ?_
    exact W.iret hx hb hr (fun t ht _ => ⟨rfl, ht⟩) (fun _ h => nomatch h) d_X_difference_16
set_option maxHeartbeats 4000000 in
set_option maxRecDepth 100000 in
/-- the power by squares -/
theorem c_X_raised (l : Launch) (bs ex md : Nat) (h1 : bs < md) (h2 : ex < 2 ^ 63) (h3 : 2 ≤ md) (h4 : md < 2 ^ 31) : Met l y_X_raised (k_X_raised :: wall) { frames := 1, cells := 0, slots := 0, locals := 22 } (fun v _ => v = ([.int (nI (bs)), .long (lN (ex)), .int (nI (md))] : List Value).toArray) (zR (some (.int (nI (bs ^ ex % md))))) 0 0 (fun _ => False) := by
  refine Met.ofW (cc := b_X_raised) (maxL := 8) (ret := (some .int)) (by decide) rfl ?_
  intro p e s m args below meth c s₁ B hml hv
  subst hv
  have hx := B.exec
  have hb := B.bytes
  have hr := B.returns
  have hts := atoms_spec (ws := k_X_raised :: wall) B.pre
  have hw : ∀ w ∈ wall, w.before _ s = true := fun w h => hts w (List.mem_cons_of_mem _ h)
  have hown : s.vm.findClass R_X = some m.cls := findClass_of_methodNamed B.named
  have hlocks := B.notSynchronized
  have hl := lv_entry ([.int (nI (bs)), .long (lN (ex)), .int (nI (md))]) (n := 8) (Nat.le_of_ble_eq_true rfl)
  rw [lg_entry_eq]
  generalize (lg_sl ([.int (nI (bs)), .long (lN (ex)), .int (nI (md))]) ++ List.replicate (8 - (lg_sl ([.int (nI (bs)), .long (lN (ex)), .int (nI (md))])).length) Slot.unset).toArray = ls at hl ⊢
  have hl : lv_has ls 8 [(0, .int (nI (bs))), (1, .long (lN (ex))), (3, .int (nI (md)))] := hl
  generalize ([.int (nI (bs)), .long (lN (ex)), .int (nI (md))] : List Value).toArray = args at B hts hw ⊢
  have loop : ∀ (n rr sq xx : Nat), xx ≤ n → xx < 2 ^ 63 → rr < md → sq < md → rr * sq ^ xx % md = bs ^ ex % md → ∀ ls : Array Slot, lv_has ls 8 [(0, .int (nI (bs))), (1, .long (lN (ex))), (3, .int (nI (md))), (4, .int (nI (rr))), (5, .int (nI (sq))), (6, .long (lN (xx)))] →
      W p l e (headSpec (k_X_raised :: wall) { frames := 1, cells := 0, slots := 0, locals := 22 }).room s m args below meth c s.heap [] 0 0 (MQ below (zR (some (.int (nI (bs ^ ex % md))))) args s 0 0 (fun _ => False)) (F0 m 9 ls []) := by
    intro n
    induction n with
    | zero =>
      intro rr sq xx q1 q2 q3 q4 q5 ls hl
      obtain rfl : xx = 0 := by omega
      refine lv_lload hx hb d_X_raised_9 (lv_at hl 5 rfl) ?_
      refine lv_lconst (v := lN (0)) hx hb d_X_raised_11 (by decide) ?_
      refine W.lcmp hx hb d_X_raised_12 ?_
      refine lv_if_le (tgt := 54) hx hb d_X_raised_13 (by decide) (fun _ => ?_) (fun z => absurd ((lg_cmp_le _ _).mpr ((pk_lLE (by decide) (by decide)).mpr (by omega))) z)
      refine lv_iload hx hb d_X_raised_54 (lv_at hl 3 rfl) ?_
      rw [Nat.pow_zero, Nat.mul_one, Nat.mod_eq_of_lt q3] at q5
      exact W.iret hx hb hr (fun t ht _ => ⟨by rw [q5], ht⟩) (fun _ h => nomatch h) d_X_raised_56
    | succ n ih =>
      intro rr sq xx q1 q2 q3 q4 q5 ls hl
      refine lv_lload hx hb d_X_raised_9 (lv_at hl 5 rfl) ?_
      refine lv_lconst (v := lN (0)) hx hb d_X_raised_11 (by decide) ?_
      refine W.lcmp hx hb d_X_raised_12 ?_
      refine lv_if_le (tgt := 54) hx hb d_X_raised_13 (by decide) (fun cc => ?_) (fun cc => ?_)
      · have cc := (lg_cmp_le _ _).mp (by first | exact cc | exact Classical.not_not.mp cc)
        have cc := (pk_lLE q2 (by decide)).mp cc
        obtain rfl : xx = 0 := by omega
        refine lv_iload hx hb d_X_raised_54 (lv_at hl 3 rfl) ?_
        rw [Nat.pow_zero, Nat.mul_one, Nat.mod_eq_of_lt q3] at q5
        exact W.iret hx hb hr (fun t ht _ => ⟨by rw [q5], ht⟩) (fun _ h => nomatch h) d_X_raised_56
      · have cc := fun z9 => cc ((lg_cmp_le _ _).mpr z9)
        have c0 : ¬ xx ≤ 0 := fun z => cc ((pk_lLE q2 (by decide)).mpr z)
        rw [pw_step] at q5
        have hsq : sq * sq % md < md := Nat.mod_lt _ (by omega)
        have hrs : rr * sq % md < md := Nat.mod_lt _ (by omega)
        refine lv_lload hx hb d_X_raised_16 (lv_at hl 5 rfl) ?_
        refine lv_lconst (v := lN (1)) hx hb d_X_raised_18 (by decide) ?_
        refine lv_land hx hb d_X_raised_19 ?_
        refine tL (lN (xx % 2)) (zs_and q2) ?_
        refine lv_lconst (v := lN (1)) hx hb d_X_raised_20 (by decide) ?_
        refine W.lcmp hx hb d_X_raised_21 ?_
        refine lv_if_ne (tgt := 35) hx hb d_X_raised_22 (by decide) (fun cc => ?_) (fun cc => ?_)
        · have cc := fun z9 => cc ((lg_cmp_eq _ _).mpr z9)
          have hev : xx % 2 = 0 := by
            rcases Nat.mod_two_eq_zero_or_one xx with h | h
            · exact h
            · exact absurd (by rw [h]) cc
          rw [if_neg (by omega)] at q5
          refine lv_iload hx hb d_X_raised_35 (lv_at hl 4 rfl) ?_
          refine lv_iload hx hb d_X_raised_37 (lv_at hl 4 rfl) ?_
          refine lv_iload_n hx hb d_X_raised_39 rfl (lv_at hl 2 rfl) ?_
          refine zS (As := [.int (nI (sq)), .int (nI (sq)), .int (nI (md))]) (rest := []) ⟨hx, hb, hml, hown, hw⟩ (c_X_times l sq sq md (by omega) (by omega) (by omega) h4) g_X_34 rfl rfl pd_X_times ⟨Nat.le_of_ble_eq_true rfl, Nat.le_of_ble_eq_true rfl⟩ hl.1 rfl (Nat.le_of_ble_eq_true rfl) d_X_raised_40 ⟨Nat.zero_le _, Nat.zero_le _⟩ ?_
          refine W.eq (g2 := F0 m 43 ls [.int (nI (sq * sq % md))]) rfl ?_
          refine lv_istore (lv' := [(5, .int (nI (sq * sq % md))), (0, .int (nI (bs))), (1, .long (lN (ex))), (3, .int (nI (md))), (4, .int (nI (rr))), (6, .long (lN (xx)))]) hx hb d_X_raised_43 hl (by decide) rfl (fun ls hl => ?_)
          refine lv_lload hx hb d_X_raised_45 (lv_at hl 5 rfl) ?_
          refine lv_iconst (v := nI (1)) hx hb d_X_raised_47 (by decide) ?_
          refine lv_lshr (v := lN (xx / 2)) hx hb d_X_raised_48 (zs_shr (k := 1) (by decide) q2) ?_
          refine lv_lstore (lv' := [(6, .long (lN (xx / 2))), (5, .int (nI (sq * sq % md))), (0, .int (nI (bs))), (1, .long (lN (ex))), (3, .int (nI (md))), (4, .int (nI (rr)))]) hx hb d_X_raised_49 hl (by decide) rfl (fun ls hl => ?_)
          refine lv_goto (tgt := 9) hx hb d_X_raised_51 (by decide) ?_
          exact ih rr (sq * sq % md) (xx / 2) (by omega) (by omega) q3 hsq q5 ls (lv_sub hl [2, 3, 4, 5, 1, 0] rfl)
        · have cc := (lg_cmp_eq _ _).mp (by first | exact cc | exact Classical.not_not.mp cc)
          have hod : xx % 2 = 1 := (pk_lEQ (by omega) (by decide)).mp cc
          rw [if_pos hod] at q5
          refine lv_iload hx hb d_X_raised_25 (lv_at hl 3 rfl) ?_
          refine lv_iload hx hb d_X_raised_27 (lv_at hl 4 rfl) ?_
          refine lv_iload_n hx hb d_X_raised_29 rfl (lv_at hl 2 rfl) ?_
          refine zS (As := [.int (nI (rr)), .int (nI (sq)), .int (nI (md))]) (rest := []) ⟨hx, hb, hml, hown, hw⟩ (c_X_times l rr sq md (by omega) (by omega) (by omega) h4) g_X_34 rfl rfl pd_X_times ⟨Nat.le_of_ble_eq_true rfl, Nat.le_of_ble_eq_true rfl⟩ hl.1 rfl (Nat.le_of_ble_eq_true rfl) d_X_raised_30 ⟨Nat.zero_le _, Nat.zero_le _⟩ ?_
          refine W.eq (g2 := F0 m 33 ls [.int (nI (rr * sq % md))]) rfl ?_
          refine lv_istore (lv' := [(4, .int (nI (rr * sq % md))), (0, .int (nI (bs))), (1, .long (lN (ex))), (3, .int (nI (md))), (5, .int (nI (sq))), (6, .long (lN (xx)))]) hx hb d_X_raised_33 hl (by decide) rfl (fun ls hl => ?_)
          refine lv_iload hx hb d_X_raised_35 (lv_at hl 4 rfl) ?_
          refine lv_iload hx hb d_X_raised_37 (lv_at hl 4 rfl) ?_
          refine lv_iload_n hx hb d_X_raised_39 rfl (lv_at hl 3 rfl) ?_
          refine zS (As := [.int (nI (sq)), .int (nI (sq)), .int (nI (md))]) (rest := []) ⟨hx, hb, hml, hown, hw⟩ (c_X_times l sq sq md (by omega) (by omega) (by omega) h4) g_X_34 rfl rfl pd_X_times ⟨Nat.le_of_ble_eq_true rfl, Nat.le_of_ble_eq_true rfl⟩ hl.1 rfl (Nat.le_of_ble_eq_true rfl) d_X_raised_40 ⟨Nat.zero_le _, Nat.zero_le _⟩ ?_
          refine W.eq (g2 := F0 m 43 ls [.int (nI (sq * sq % md))]) rfl ?_
          refine lv_istore (lv' := [(5, .int (nI (sq * sq % md))), (4, .int (nI (rr * sq % md))), (0, .int (nI (bs))), (1, .long (lN (ex))), (3, .int (nI (md))), (6, .long (lN (xx)))]) hx hb d_X_raised_43 hl (by decide) rfl (fun ls hl => ?_)
          refine lv_lload hx hb d_X_raised_45 (lv_at hl 5 rfl) ?_
          refine lv_iconst (v := nI (1)) hx hb d_X_raised_47 (by decide) ?_
          refine lv_lshr (v := lN (xx / 2)) hx hb d_X_raised_48 (zs_shr (k := 1) (by decide) q2) ?_
          refine lv_lstore (lv' := [(6, .long (lN (xx / 2))), (5, .int (nI (sq * sq % md))), (4, .int (nI (rr * sq % md))), (0, .int (nI (bs))), (1, .long (lN (ex))), (3, .int (nI (md)))]) hx hb d_X_raised_49 hl (by decide) rfl (fun ls hl => ?_)
          refine lv_goto (tgt := 9) hx hb d_X_raised_51 (by decide) ?_
          exact ih (rr * sq % md) (sq * sq % md) (xx / 2) (by omega) (by omega) hrs hsq q5 ls (lv_sub hl [3, 4, 5, 2, 1, 0] rfl)
  refine lv_iconst (v := nI (1)) hx hb d_X_raised_0 (by decide) ?_
  refine lv_istore (lv' := [(4, .int (nI (1))), (0, .int (nI (bs))), (1, .long (lN (ex))), (3, .int (nI (md)))]) hx hb d_X_raised_1 hl (by decide) rfl (fun ls hl => ?_)
  refine lv_iload_n hx hb d_X_raised_3 rfl (lv_at hl 1 rfl) ?_
  refine lv_istore (lv' := [(5, .int (nI (bs))), (4, .int (nI (1))), (0, .int (nI (bs))), (1, .long (lN (ex))), (3, .int (nI (md)))]) hx hb d_X_raised_4 hl (by decide) rfl (fun ls hl => ?_)
  refine lv_lload_n hx hb d_X_raised_6 rfl (lv_at hl 3 rfl) ?_
  refine lv_lstore (lv' := [(6, .long (lN (ex))), (5, .int (nI (bs))), (4, .int (nI (1))), (0, .int (nI (bs))), (1, .long (lN (ex))), (3, .int (nI (md)))]) hx hb d_X_raised_7 hl (by decide) rfl (fun ls hl => ?_)
  exact loop ex 1 bs ex (Nat.le_refl _) h2 (by omega) h1 (by rw [Nat.one_mul]) ls (lv_sub hl [3, 4, 5, 2, 1, 0] rfl)
set_option maxHeartbeats 4000000 in
set_option maxRecDepth 100000 in
theorem c_X_inverted (l : Launch) (aa md : Nat) (h1 : aa < md) (h3 : 2 ≤ md) (h4 : md < 2 ^ 31) : Met l y_X_inverted (k_X_inverted :: wall) { frames := 2, cells := 0, slots := 0, locals := 49 } (fun v _ => v = ([.int (nI (aa)), .int (nI (md))] : List Value).toArray) (zR (some (.int (nI (aa ^ (md - 2) % md))))) 0 0 (fun _ => False) := by
  refine Met.ofW (cc := b_X_inverted) (maxL := 2) (ret := (some .int)) (by decide) rfl ?_
  intro p e s m args below meth c s₁ B hml hv
  subst hv
  have hx := B.exec
  have hb := B.bytes
  have hr := B.returns
  have hts := atoms_spec (ws := k_X_inverted :: wall) B.pre
  have hw : ∀ w ∈ wall, w.before _ s = true := fun w h => hts w (List.mem_cons_of_mem _ h)
  have hown : s.vm.findClass R_X = some m.cls := findClass_of_methodNamed B.named
  have hlocks := B.notSynchronized
  have hl := lv_entry ([.int (nI (aa)), .int (nI (md))]) (n := 2) (Nat.le_of_ble_eq_true rfl)
  rw [lg_entry_eq]
  generalize (lg_sl ([.int (nI (aa)), .int (nI (md))]) ++ List.replicate (2 - (lg_sl ([.int (nI (aa)), .int (nI (md))])).length) Slot.unset).toArray = ls at hl ⊢
  have hl : lv_has ls 2 [(0, .int (nI (aa))), (1, .int (nI (md)))] := hl
  generalize ([.int (nI (aa)), .int (nI (md))] : List Value).toArray = args at B hts hw ⊢
  refine lv_iload_n hx hb d_X_inverted_0 rfl (lv_at hl 0 rfl) ?_
  refine lv_iload_n hx hb d_X_inverted_1 rfl (lv_at hl 1 rfl) ?_
  refine lv_iconst (v := nI (2)) hx hb d_X_inverted_2 (by decide) ?_
  refine lv_isub hx hb d_X_inverted_3 ?_
  refine tI (nI (md - 2)) (pk_sub (by omega)) ?_
  refine lv_i2l (v := lN (md - 2)) hx hb d_X_inverted_4 (nI_l (by omega)) ?_
  refine lv_iload_n hx hb d_X_inverted_5 rfl (lv_at hl 1 rfl) ?_
  refine zS (As := [.int (nI (aa)), .long (lN (md - 2)), .int (nI (md))]) (rest := []) ⟨hx, hb, hml, hown, hw⟩ (c_X_raised l aa (md - 2) md h1 (by omega) h3 h4) g_X_45 rfl rfl pd_X_raised ⟨Nat.le_of_ble_eq_true rfl, Nat.le_of_ble_eq_true rfl⟩ hl.1 rfl (Nat.le_of_ble_eq_true rfl) d_X_inverted_6 ⟨Nat.zero_le _, Nat.zero_le _⟩ ?_
  refine W.eq (g2 := F0 m 9 ls [.int (nI (aa ^ (md - 2) % md))]) rfl ?_
  exact W.iret hx hb hr (fun t ht _ => ⟨rfl, ht⟩) (fun _ h => nomatch h) d_X_inverted_9
set_option maxHeartbeats 4000000 in
set_option maxRecDepth 100000 in
theorem c_X_isMember (l : Launch) (yy : Int32) (pp : Nat) (h1 : 2 ≤ pp) (h2 : pp < 2 ^ 31) : Met l y_X_isMember (k_X_isMember :: wall) { frames := 2, cells := 0, slots := 0, locals := 49 } (fun v _ => v = ([.int (yy), .int (nI (pp))] : List Value).toArray) (zR (some (.int (bI (mem yy.toInt pp ((pp - 1) / 2)))))) 0 0 (fun _ => False) := by
  refine Met.ofW (cc := b_X_isMember) (maxL := 2) (ret := (some .boolean)) (by decide) rfl ?_
  intro p e s m args below meth c s₁ B hml hv
  subst hv
  have hx := B.exec
  have hb := B.bytes
  have hr := B.returns
  have hts := atoms_spec (ws := k_X_isMember :: wall) B.pre
  have hw : ∀ w ∈ wall, w.before _ s = true := fun w h => hts w (List.mem_cons_of_mem _ h)
  have hown : s.vm.findClass R_X = some m.cls := findClass_of_methodNamed B.named
  have hlocks := B.notSynchronized
  have hl := lv_entry ([.int (yy), .int (nI (pp))]) (n := 2) (Nat.le_of_ble_eq_true rfl)
  rw [lg_entry_eq]
  generalize (lg_sl ([.int (yy), .int (nI (pp))]) ++ List.replicate (2 - (lg_sl ([.int (yy), .int (nI (pp))])).length) Slot.unset).toArray = ls at hl ⊢
  have hl : lv_has ls 2 [(0, .int (yy)), (1, .int (nI (pp)))] := hl
  generalize ([.int (yy), .int (nI (pp))] : List Value).toArray = args at B hts hw ⊢
  refine lv_iload_n hx hb d_X_isMember_0 rfl (lv_at hl 0 rfl) ?_
  refine lv_iconst (v := nI (1)) hx hb d_X_isMember_1 (by decide) ?_
  refine lv_icmp_lt (tgt := 28) hx hb d_X_isMember_2 (by decide) (fun cc => ?_) (fun cc => ?_)
  · have cc := ilt.mp cc
    rw [nI_toInt (by decide)] at cc
    have hno : ¬ mem yy.toInt pp ((pp - 1) / 2) := fun z => by
      obtain ⟨z1, z2, z3⟩ := z
      omega
    rw [bI_f hno]
    refine lv_iconst (v := nI (0)) hx hb d_X_isMember_28 (by decide) ?_
    exact W.zret (ty := .boolean) hx hb hr (by decide) (fun t ht _ => ⟨rfl, ht⟩) (fun _ h => nomatch h) d_X_isMember_29
  · have c1 : ¬ yy.toInt < 1 := fun z => cc (ilt.mpr (by rw [nI_toInt (by decide)]; exact z))
    refine lv_iload_n hx hb d_X_isMember_5 rfl (lv_at hl 0 rfl) ?_
    refine lv_iload_n hx hb d_X_isMember_6 rfl (lv_at hl 1 rfl) ?_
    refine lv_icmp_ge (tgt := 28) hx hb d_X_isMember_7 (by decide) (fun cc => ?_) (fun cc => ?_)
    · have cc := ile.mp cc
      rw [nI_toInt h2] at cc
      have hno : ¬ mem yy.toInt pp ((pp - 1) / 2) := fun z => by
        obtain ⟨z1, z2, z3⟩ := z
        omega
      rw [bI_f hno]
      refine lv_iconst (v := nI (0)) hx hb d_X_isMember_28 (by decide) ?_
      exact W.zret (ty := .boolean) hx hb hr (by decide) (fun t ht _ => ⟨rfl, ht⟩) (fun _ h => nomatch h) d_X_isMember_29
    · have c2 : ¬ (pp : Int) ≤ yy.toInt := fun z => cc (ile.mpr (by rw [nI_toInt h2]; exact z))
      obtain ⟨jj, j1, rfl, j3⟩ := ofnn (x := yy) (by omega)
      rw [j3] at c1 c2 ⊢
      have hj : jj < pp := by omega
      have hpw : jj ^ ((pp - 1) / 2) % pp < pp := Nat.mod_lt _ (by omega)
      refine lv_iload_n hx hb d_X_isMember_10 rfl (lv_at hl 0 rfl) ?_
      refine lv_iload_n hx hb d_X_isMember_11 rfl (lv_at hl 1 rfl) ?_
      refine zS (As := [.int (nI (pp))]) (rest := [.int (nI (jj))]) ⟨hx, hb, hml, hown, hw⟩ (c_X_halfOf l pp (by omega) h2) g_X_23 rfl rfl pd_X_halfOf ⟨Nat.le_of_ble_eq_true rfl, Nat.le_of_ble_eq_true rfl⟩ hl.1 rfl (Nat.le_of_ble_eq_true rfl) d_X_isMember_12 ⟨Nat.zero_le _, Nat.zero_le _⟩ ?_
      refine W.eq (g2 := F0 m 15 ls [.int (nI ((pp - 1) / 2)), .int (nI (jj))]) rfl ?_
      refine lv_i2l (v := lN ((pp - 1) / 2)) hx hb d_X_isMember_15 (nI_l (by omega)) ?_
      refine lv_iload_n hx hb d_X_isMember_16 rfl (lv_at hl 1 rfl) ?_
      refine zS (As := [.int (nI (jj)), .long (lN ((pp - 1) / 2)), .int (nI (pp))]) (rest := []) ⟨hx, hb, hml, hown, hw⟩ (c_X_raised l jj ((pp - 1) / 2) pp hj (by omega) h1 h2) g_X_45 rfl rfl pd_X_raised ⟨Nat.le_of_ble_eq_true rfl, Nat.le_of_ble_eq_true rfl⟩ hl.1 rfl (Nat.le_of_ble_eq_true rfl) d_X_isMember_17 ⟨Nat.zero_le _, Nat.zero_le _⟩ ?_
      refine W.eq (g2 := F0 m 20 ls [.int (nI (jj ^ ((pp - 1) / 2) % pp))]) rfl ?_
      refine lv_iconst (v := nI (1)) hx hb d_X_isMember_20 (by decide) ?_
      refine lv_icmp_ne (tgt := 28) hx hb d_X_isMember_21 (by decide) (fun cc => ?_) (fun cc => ?_)
      · have hno : ¬ mem (jj : Int) pp ((pp - 1) / 2) := fun z => cc (congrArg nI z.2.2)
        rw [bI_f hno]
        refine lv_iconst (v := nI (0)) hx hb d_X_isMember_28 (by decide) ?_
        exact W.zret (ty := .boolean) hx hb hr (by decide) (fun t ht _ => ⟨rfl, ht⟩) (fun _ h => nomatch h) d_X_isMember_29
      · have cc := (nI_eq (by omega) (by decide)).mp cc
        rw [bI_t (show mem (jj : Int) pp ((pp - 1) / 2) from ⟨by omega, by omega, cc⟩)]
        refine lv_iconst (v := nI (1)) hx hb d_X_isMember_24 (by decide) ?_
        refine lv_goto (tgt := 29) hx hb d_X_isMember_25 (by decide) ?_
        exact W.zret (ty := .boolean) hx hb hr (by decide) (fun t ht _ => ⟨rfl, ht⟩) (fun _ h => nomatch h) d_X_isMember_29
set_option maxHeartbeats 4000000 in
set_option maxRecDepth 100000 in
theorem c_X_isPrime (l : Launch) (nn : Nat) (h2 : nn < 2 ^ 31) : Met l y_X_isPrime (k_X_isPrime :: wall) { frames := 0, cells := 0, slots := 0, locals := 0 } (fun v _ => v = ([.int (nI (nn))] : List Value).toArray) (zR (some (.int (bI (zp nn))))) 0 0 (fun _ => False) := by
  refine Met.ofW (cc := b_X_isPrime) (maxL := 2) (ret := (some .boolean)) (by decide) rfl ?_
  intro p e s m args below meth c s₁ B hml hv
  subst hv
  have hx := B.exec
  have hb := B.bytes
  have hr := B.returns
  have hts := atoms_spec (ws := k_X_isPrime :: wall) B.pre
  have hw : ∀ w ∈ wall, w.before _ s = true := fun w h => hts w (List.mem_cons_of_mem _ h)
  have hown : s.vm.findClass R_X = some m.cls := findClass_of_methodNamed B.named
  have hlocks := B.notSynchronized
  have hl := lv_entry ([.int (nI (nn))]) (n := 2) (Nat.le_of_ble_eq_true rfl)
  rw [lg_entry_eq]
  generalize (lg_sl ([.int (nI (nn))]) ++ List.replicate (2 - (lg_sl ([.int (nI (nn))])).length) Slot.unset).toArray = ls at hl ⊢
  have hl : lv_has ls 2 [(0, .int (nI (nn)))] := hl
  generalize ([.int (nI (nn))] : List Value).toArray = args at B hts hw ⊢
  refine lv_iload_n hx hb d_X_isPrime_0 rfl (lv_at hl 0 rfl) ?_
  refine lv_iconst (v := nI (4)) hx hb d_X_isPrime_1 (by decide) ?_
  refine lv_icmp_ge (tgt := 16) hx hb d_X_isPrime_2 (by decide) (fun cc => ?_) (fun cc => ?_)
  · have c4 : 4 ≤ nn := (nI_leI (by decide) h2).mp cc
    refine lv_iload_n hx hb d_X_isPrime_16 rfl (lv_at hl 0 rfl) ?_
    refine lv_iconst (v := nI (2)) hx hb d_X_isPrime_17 (by decide) ?_
    refine lv_irem hx hb d_X_isPrime_18 (by first | decide | exact nI_ne0 (by omega) (by omega) | exact lN_ne0 (by omega) (by omega)) ?_
    refine tI (nI (nn % 2)) (pk_rem (by omega) (by omega) (by omega)) ?_
    refine lv_if_eq (tgt := 28) hx hb d_X_isPrime_19 (by decide) (fun cc => ?_) (fun cc => ?_)
    · have cc : nn % 2 = 0 := (nI_eq (by omega) (by decide)).mp (cc.trans nI_0.symm)
      rw [bI_f (fun z : zp nn => z.2 2 (by omega) (by omega) cc)]
      refine lv_iconst (v := nI (0)) hx hb d_X_isPrime_28 (by decide) ?_
      exact W.zret (ty := .boolean) hx hb hr (by decide) (fun t ht _ => ⟨rfl, ht⟩) (fun _ h => nomatch h) d_X_isPrime_29
    · have n2 : nn % 2 ≠ 0 := fun z => cc (by rw [z]; rfl)
      refine lv_iload_n hx hb d_X_isPrime_22 rfl (lv_at hl 0 rfl) ?_
      refine lv_iconst (v := nI (3)) hx hb d_X_isPrime_23 (by decide) ?_
      refine lv_irem hx hb d_X_isPrime_24 (by first | decide | exact nI_ne0 (by omega) (by omega) | exact lN_ne0 (by omega) (by omega)) ?_
      refine tI (nI (nn % 3)) (pk_rem (by omega) (by omega) (by omega)) ?_
      refine lv_if_ne (tgt := 30) hx hb d_X_isPrime_25 (by decide) (fun cc => ?_) (fun cc => ?_)
      · have n3 : nn % 3 ≠ 0 := fun z => cc (by rw [z]; rfl)
        have loop : ∀ (n dd : Nat), nn < dd + 6 * n + 6 → 5 ≤ dd → dd % 6 = 5 → dd < 65536 → (∀ k, 2 ≤ k → k < dd → nn % k ≠ 0) → ∀ ls : Array Slot, lv_has ls 2 [(0, .int (nI (nn))), (1, .int (nI (dd)))] →
            W p l e (headSpec (k_X_isPrime :: wall) { frames := 0, cells := 0, slots := 0, locals := 0 }).room s m args below meth c s.heap [] 0 0 (MQ below (zR (some (.int (bI (zp nn))))) args s 0 0 (fun _ => False)) (F0 m 32 ls []) := by
          intro n
          induction n with
          | zero =>
            intro dd q1 q2 q3 q4 q5 ls hl
            have hdd : 5 * dd ≤ dd * dd := Nat.mul_le_mul_right dd q2
            have hdb : dd * dd < 2 ^ 62 := mulb (by omega) (by omega)
            refine lv_iload_n hx hb d_X_isPrime_32 rfl (lv_at hl 1 rfl) ?_
            refine lv_i2l (v := lN (dd)) hx hb d_X_isPrime_33 (nI_l (by omega)) ?_
            refine lv_iload_n hx hb d_X_isPrime_34 rfl (lv_at hl 1 rfl) ?_
            refine lv_i2l (v := lN (dd)) hx hb d_X_isPrime_35 (nI_l (by omega)) ?_
            refine lv_lmul hx hb d_X_isPrime_36 ?_
            refine tL (lN (dd * dd)) (lN_mul _ _) ?_
            refine lv_iload_n hx hb d_X_isPrime_37 rfl (lv_at hl 0 rfl) ?_
            refine lv_i2l (v := lN (nn)) hx hb d_X_isPrime_38 (nI_l (by omega)) ?_
            refine W.lcmp hx hb d_X_isPrime_39 ?_
            refine lv_if_gt (tgt := 65) hx hb d_X_isPrime_40 (by decide) (fun _ => ?_) (fun z => absurd ((lg_cmp_gt _ _).mpr ((pk_lLT (by omega) (by omega)).mpr (by omega))) z)
            rw [bI_t (zp_of_lt (d := dd) (by omega) (by omega) q5)]
            refine lv_iconst (v := nI (1)) hx hb d_X_isPrime_65 (by decide) ?_
            exact W.zret (ty := .boolean) hx hb hr (by decide) (fun t ht _ => ⟨rfl, ht⟩) (fun _ h => nomatch h) d_X_isPrime_66
          | succ n ih =>
            intro dd q1 q2 q3 q4 q5 ls hl
            have hdd : 5 * dd ≤ dd * dd := Nat.mul_le_mul_right dd q2
            have hdb : dd * dd < 2 ^ 62 := mulb (by omega) (by omega)
            refine lv_iload_n hx hb d_X_isPrime_32 rfl (lv_at hl 1 rfl) ?_
            refine lv_i2l (v := lN (dd)) hx hb d_X_isPrime_33 (nI_l (by omega)) ?_
            refine lv_iload_n hx hb d_X_isPrime_34 rfl (lv_at hl 1 rfl) ?_
            refine lv_i2l (v := lN (dd)) hx hb d_X_isPrime_35 (nI_l (by omega)) ?_
            refine lv_lmul hx hb d_X_isPrime_36 ?_
            refine tL (lN (dd * dd)) (lN_mul _ _) ?_
            refine lv_iload_n hx hb d_X_isPrime_37 rfl (lv_at hl 0 rfl) ?_
            refine lv_i2l (v := lN (nn)) hx hb d_X_isPrime_38 (nI_l (by omega)) ?_
            refine W.lcmp hx hb d_X_isPrime_39 ?_
            refine lv_if_gt (tgt := 65) hx hb d_X_isPrime_40 (by decide) (fun cc => ?_) (fun cc => ?_)
            · have cc := (lg_cmp_gt _ _).mp (by first | exact cc | exact Classical.not_not.mp cc)
              have cc := (pk_lLT (by omega) (by omega)).mp cc
              rw [bI_t (zp_of_lt (d := dd) (by omega) cc q5)]
              refine lv_iconst (v := nI (1)) hx hb d_X_isPrime_65 (by decide) ?_
              exact W.zret (ty := .boolean) hx hb hr (by decide) (fun t ht _ => ⟨rfl, ht⟩) (fun _ h => nomatch h) d_X_isPrime_66
            · have cc := fun z9 => cc ((lg_cmp_gt _ _).mpr z9)
              have cle : dd * dd ≤ nn := Nat.not_lt.mp fun z => cc ((pk_lLT (by omega) (by omega)).mpr z)
              have hd2 : dd < 46341 := by
                refine Nat.lt_of_not_le fun z => ?_
                have := Nat.mul_le_mul z z
                omega
              refine lv_iload_n hx hb d_X_isPrime_43 rfl (lv_at hl 0 rfl) ?_
              refine lv_iload_n hx hb d_X_isPrime_44 rfl (lv_at hl 1 rfl) ?_
              refine lv_irem hx hb d_X_isPrime_45 (by first | decide | exact nI_ne0 (by omega) (by omega) | exact lN_ne0 (by omega) (by omega)) ?_
              refine tI (nI (nn % dd)) (pk_rem (by omega) (by omega) (by omega)) ?_
              refine lv_if_eq (tgt := 57) hx hb d_X_isPrime_46 (by decide) (fun cc => ?_) (fun cc => ?_)
              · have cc : nn % dd = 0 := (nI_eq (Nat.lt_trans (Nat.mod_lt _ (by omega)) (by omega)) (by decide)).mp (cc.trans nI_0.symm)
                rw [bI_f (fun z : zp nn => z.2 dd (by omega) cle cc)]
                refine lv_iconst (v := nI (0)) hx hb d_X_isPrime_57 (by decide) ?_
                exact W.zret (ty := .boolean) hx hb hr (by decide) (fun t ht _ => ⟨rfl, ht⟩) (fun _ h => nomatch h) d_X_isPrime_58
              · have na : nn % dd ≠ 0 := fun z => cc (by rw [z]; rfl)
                refine lv_iload_n hx hb d_X_isPrime_49 rfl (lv_at hl 0 rfl) ?_
                refine lv_iload_n hx hb d_X_isPrime_50 rfl (lv_at hl 1 rfl) ?_
                refine lv_iconst (v := nI (2)) hx hb d_X_isPrime_51 (by decide) ?_
                refine lv_iadd hx hb d_X_isPrime_52 ?_
                refine tI (nI (dd + 2)) (nI_add _ _) ?_
                refine lv_irem hx hb d_X_isPrime_53 (by first | decide | exact nI_ne0 (by omega) (by omega) | exact lN_ne0 (by omega) (by omega)) ?_
                refine tI (nI (nn % (dd + 2))) (pk_rem (by omega) (by omega) (by omega)) ?_
                refine lv_if_ne (tgt := 59) hx hb d_X_isPrime_54 (by decide) (fun cc => ?_) (fun cc => ?_)
                · have nb : nn % (dd + 2) ≠ 0 := fun z => cc (by rw [z]; rfl)
                  refine lv_iinc (v := nI (dd + 6)) (lv' := [(1, .int (nI (dd + 6))), (0, .int (nI (nn)))]) hx hb d_X_isPrime_59 hl (k := 1) rfl (nI_add _ 6) (by decide) rfl (fun ls hl => ?_)
                  refine lv_goto (tgt := 32) hx hb d_X_isPrime_62 (by decide) ?_
                  exact ih (dd + 6) (by omega) (by omega) (by omega) (by omega) (six_step n2 n3 q3 q5 na nb) ls (lv_sub hl [1, 0] rfl)
                · have cc : nn % (dd + 2) = 0 := (nI_eq (Nat.lt_trans (Nat.mod_lt _ (by omega)) (by omega)) (by decide)).mp (cc.trans nI_0.symm)
                  rw [bI_f (six_no2 q2 cle cc)]
                  refine lv_iconst (v := nI (0)) hx hb d_X_isPrime_57 (by decide) ?_
                  exact W.zret (ty := .boolean) hx hb hr (by decide) (fun t ht _ => ⟨rfl, ht⟩) (fun _ h => nomatch h) d_X_isPrime_58
        refine lv_iconst (v := nI (5)) hx hb d_X_isPrime_30 (by decide) ?_
        refine lv_istore_n (lv' := [(1, .int (nI (5))), (0, .int (nI (nn)))]) hx hb d_X_isPrime_31 rfl hl (by decide) rfl (fun ls hl => ?_)
        exact loop nn 5 (by omega) (by omega) (by omega) (by omega) (fun k k1 k2 z => by
          have : k = 2 ∨ k = 3 ∨ k = 4 := by omega
          rcases this with rfl | rfl | rfl
          · exact n2 z
          · exact n3 z
          · omega) ls (lv_sub hl [1, 0] rfl)
      · have cc : nn % 3 = 0 := (nI_eq (by omega) (by decide)).mp (cc.trans nI_0.symm)
        have h3d : ¬ zp nn := fun z => by
          rcases zp_dvd z (Nat.dvd_of_mod_eq_zero cc) with h | h
          · omega
          · omega
        rw [bI_f h3d]
        refine lv_iconst (v := nI (0)) hx hb d_X_isPrime_28 (by decide) ?_
        exact W.zret (ty := .boolean) hx hb hr (by decide) (fun t ht _ => ⟨rfl, ht⟩) (fun _ h => nomatch h) d_X_isPrime_29
  · have c4 : nn < 4 := Nat.lt_of_not_le fun z => cc (nI_le z h2)
    refine lv_iload_n hx hb d_X_isPrime_5 rfl (lv_at hl 0 rfl) ?_
    refine lv_iconst (v := nI (2)) hx hb d_X_isPrime_6 (by decide) ?_
    refine lv_icmp_lt (tgt := 14) hx hb d_X_isPrime_7 (by decide) (fun cc => ?_) (fun cc => ?_)
    · have cc := (nI_ltI h2 (by decide)).mp cc
      rw [bI_f (fun z : zp nn => absurd z.1 (by omega))]
      refine lv_iconst (v := nI (0)) hx hb d_X_isPrime_14 (by decide) ?_
      exact W.zret (ty := .boolean) hx hb hr (by decide) (fun t ht _ => ⟨rfl, ht⟩) (fun _ h => nomatch h) d_X_isPrime_15
    · have c2 : ¬ nn < 2 := fun z => cc (nI_lt z (by decide))
      have hz : zp nn := ⟨by omega, fun d hd hdd => by
        have := Nat.mul_le_mul hd hd
        omega⟩
      rw [bI_t hz]
      refine lv_iconst (v := nI (1)) hx hb d_X_isPrime_10 (by decide) ?_
      refine lv_goto (tgt := 15) hx hb d_X_isPrime_11 (by decide) ?_
      exact W.zret (ty := .boolean) hx hb hr (by decide) (fun t ht _ => ⟨rfl, ht⟩) (fun _ h => nomatch h) d_X_isPrime_15
set_option maxHeartbeats 4000000 in
set_option maxRecDepth 100000 in
theorem c_X_isGroup (l : Launch) (P G : Int32) : Met l y_X_isGroup (k_X_isGroup :: wall) { frames := 3, cells := 0, slots := 0, locals := 70 } (fun v _ => v = ([.int (P), .int (G)] : List Value).toArray) (zR (some (.int (bI (okg P.toInt G.toInt))))) 0 0 (fun _ => False) := by
  refine Met.ofW (cc := b_X_isGroup) (maxL := 2) (ret := (some .boolean)) (by decide) rfl ?_
  intro p e s m args below meth c s₁ B hml hv
  subst hv
  have hx := B.exec
  have hb := B.bytes
  have hr := B.returns
  have hts := atoms_spec (ws := k_X_isGroup :: wall) B.pre
  have hw : ∀ w ∈ wall, w.before _ s = true := fun w h => hts w (List.mem_cons_of_mem _ h)
  have hown : s.vm.findClass R_X = some m.cls := findClass_of_methodNamed B.named
  have hlocks := B.notSynchronized
  have hl := lv_entry ([.int (P), .int (G)]) (n := 2) (Nat.le_of_ble_eq_true rfl)
  rw [lg_entry_eq]
  generalize (lg_sl ([.int (P), .int (G)]) ++ List.replicate (2 - (lg_sl ([.int (P), .int (G)])).length) Slot.unset).toArray = ls at hl ⊢
  have hl : lv_has ls 2 [(0, .int (P)), (1, .int (G))] := hl
  generalize ([.int (P), .int (G)] : List Value).toArray = args at B hts hw ⊢
  refine lv_iload_n hx hb d_X_isGroup_0 rfl (lv_at hl 0 rfl) ?_
  refine lv_iconst (v := nI (5)) hx hb d_X_isGroup_1 (by decide) ?_
  refine lv_icmp_lt (tgt := 39) hx hb d_X_isGroup_2 (by decide) (fun cc => ?_) (fun cc => ?_)
  · have cc := ilt.mp cc
    rw [nI_toInt (by decide)] at cc
    rw [bI_f (fun z : okg P.toInt G.toInt => absurd z.1 (by omega))]
    refine lv_iconst (v := nI (0)) hx hb d_X_isGroup_39 (by decide) ?_
    exact W.zret (ty := .boolean) hx hb hr (by decide) (fun t ht _ => ⟨rfl, ht⟩) (fun _ h => nomatch h) d_X_isGroup_40
  · have c1 : ¬ P.toInt < 5 := fun z => cc (ilt.mpr (by rw [nI_toInt (by decide)]; exact z))
    refine lv_iload_n hx hb d_X_isGroup_5 rfl (lv_at hl 1 rfl) ?_
    refine lv_iconst (v := nI (1)) hx hb d_X_isGroup_6 (by decide) ?_
    refine lv_icmp_eq (tgt := 39) hx hb d_X_isGroup_7 (by decide) (fun cc => ?_) (fun cc => ?_)
    · have cc := ieq.mp cc
      rw [nI_toInt (by decide)] at cc
      rw [bI_f (fun z : okg P.toInt G.toInt => z.2.1 cc)]
      refine lv_iconst (v := nI (0)) hx hb d_X_isGroup_39 (by decide) ?_
      exact W.zret (ty := .boolean) hx hb hr (by decide) (fun t ht _ => ⟨rfl, ht⟩) (fun _ h => nomatch h) d_X_isGroup_40
    · have c2 : G.toInt ≠ 1 := fun z => cc (ieq.mpr (by rw [nI_toInt (by decide)]; exact z))
      obtain ⟨pp, j1, rfl, j3⟩ := ofnn (x := P) (by omega)
      rw [j3] at c1 ⊢
      have hp5 : 5 ≤ pp := by omega
      refine lv_iload_n hx hb d_X_isGroup_10 rfl (lv_at hl 1 rfl) ?_
      refine lv_iload_n hx hb d_X_isGroup_11 rfl (lv_at hl 0 rfl) ?_
      refine zS (As := [.int (G), .int (nI (pp))]) (rest := []) ⟨hx, hb, hml, hown, hw⟩ (c_X_isMember l G pp (by omega) j1) g_X_27 rfl rfl pd_X_isMember ⟨Nat.le_of_ble_eq_true rfl, Nat.le_of_ble_eq_true rfl⟩ hl.1 rfl (Nat.le_of_ble_eq_true rfl) d_X_isGroup_12 ⟨Nat.zero_le _, Nat.zero_le _⟩ ?_
      refine W.eq (g2 := F0 m 15 ls [.int (bI (mem G.toInt pp ((pp - 1) / 2)))]) rfl ?_
      by_cases hm : mem G.toInt pp ((pp - 1) / 2)
      · refine tI (1) (bI_t hm) ?_
        refine lv_if_eq (tgt := 39) hx hb d_X_isGroup_15 (by decide) (fun z => absurd z (by decide)) (fun _ => ?_)
        refine lv_iload_n hx hb d_X_isGroup_18 rfl (lv_at hl 0 rfl) ?_
        refine zS (As := [.int (nI (pp))]) (rest := []) ⟨hx, hb, hml, hown, hw⟩ (c_X_halfOf l pp (by omega) j1) g_X_23 rfl rfl pd_X_halfOf ⟨Nat.le_of_ble_eq_true rfl, Nat.le_of_ble_eq_true rfl⟩ hl.1 rfl (Nat.le_of_ble_eq_true rfl) d_X_isGroup_19 ⟨Nat.zero_le _, Nat.zero_le _⟩ ?_
        refine W.eq (g2 := F0 m 22 ls [.int (nI ((pp - 1) / 2))]) rfl ?_
        refine zS (As := [.int (nI ((pp - 1) / 2))]) (rest := []) ⟨hx, hb, hml, hown, hw⟩ (c_X_isPrime l ((pp - 1) / 2) (by omega)) g_X_86 rfl rfl pd_X_isPrime ⟨Nat.le_of_ble_eq_true rfl, Nat.le_of_ble_eq_true rfl⟩ hl.1 rfl (Nat.le_of_ble_eq_true rfl) d_X_isGroup_22 ⟨Nat.zero_le _, Nat.zero_le _⟩ ?_
        refine W.eq (g2 := F0 m 25 ls [.int (bI (zp ((pp - 1) / 2)))]) rfl ?_
        by_cases hq : zp ((pp - 1) / 2)
        · refine tI (1) (bI_t hq) ?_
          refine lv_if_eq (tgt := 39) hx hb d_X_isGroup_25 (by decide) (fun z => absurd z (by decide)) (fun _ => ?_)
          refine lv_iload_n hx hb d_X_isGroup_28 rfl (lv_at hl 0 rfl) ?_
          refine zS (As := [.int (nI (pp))]) (rest := []) ⟨hx, hb, hml, hown, hw⟩ (c_X_isPrime l pp j1) g_X_86 rfl rfl pd_X_isPrime ⟨Nat.le_of_ble_eq_true rfl, Nat.le_of_ble_eq_true rfl⟩ hl.1 rfl (Nat.le_of_ble_eq_true rfl) d_X_isGroup_29 ⟨Nat.zero_le _, Nat.zero_le _⟩ ?_
          refine W.eq (g2 := F0 m 32 ls [.int (bI (zp pp))]) rfl ?_
          by_cases hp : zp pp
          · refine tI (1) (bI_t hp) ?_
            refine lv_if_eq (tgt := 39) hx hb d_X_isGroup_32 (by decide) (fun z => absurd z (by decide)) (fun _ => ?_)
            rw [bI_t (show okg (pp : Int) G.toInt from ⟨by omega, c2, hm, hq, hp⟩)]
            refine lv_iconst (v := nI (1)) hx hb d_X_isGroup_35 (by decide) ?_
            refine lv_goto (tgt := 40) hx hb d_X_isGroup_36 (by decide) ?_
            exact W.zret (ty := .boolean) hx hb hr (by decide) (fun t ht _ => ⟨rfl, ht⟩) (fun _ h => nomatch h) d_X_isGroup_40
          · refine tI (0) (bI_f hp) ?_
            refine lv_if_eq (tgt := 39) hx hb d_X_isGroup_32 (by decide) (fun _ => ?_) (fun z => absurd (rfl) z)
            rw [bI_f (fun z : okg (pp : Int) G.toInt => hp z.2.2.2.2)]
            refine lv_iconst (v := nI (0)) hx hb d_X_isGroup_39 (by decide) ?_
            exact W.zret (ty := .boolean) hx hb hr (by decide) (fun t ht _ => ⟨rfl, ht⟩) (fun _ h => nomatch h) d_X_isGroup_40
        · refine tI (0) (bI_f hq) ?_
          refine lv_if_eq (tgt := 39) hx hb d_X_isGroup_25 (by decide) (fun _ => ?_) (fun z => absurd (rfl) z)
          rw [bI_f (fun z : okg (pp : Int) G.toInt => hq z.2.2.2.1)]
          refine lv_iconst (v := nI (0)) hx hb d_X_isGroup_39 (by decide) ?_
          exact W.zret (ty := .boolean) hx hb hr (by decide) (fun t ht _ => ⟨rfl, ht⟩) (fun _ h => nomatch h) d_X_isGroup_40
      · refine tI (0) (bI_f hm) ?_
        refine lv_if_eq (tgt := 39) hx hb d_X_isGroup_15 (by decide) (fun _ => ?_) (fun z => absurd (rfl) z)
        rw [bI_f (fun z : okg (pp : Int) G.toInt => hm z.2.2.1)]
        refine lv_iconst (v := nI (0)) hx hb d_X_isGroup_39 (by decide) ?_
        exact W.zret (ty := .boolean) hx hb hr (by decide) (fun t ht _ => ⟨rfl, ht⟩) (fun _ h => nomatch h) d_X_isGroup_40
