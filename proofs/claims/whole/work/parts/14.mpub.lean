set_option maxHeartbeats 4000000 in
set_option maxRecDepth 100000 in
theorem c_M_log_ok (l : Launch) (D : va_G) (h0 : Nat) (er : Int32) (pp qq gg : Nat) (G : grp pp qq gg) (yy x0 : Nat) (h1 : yy < pp) (hm : mem (nI (yy)).toInt pp qq) (h2 : pp ≤ 20000) (h3 : x0 < qq) (h4 : gg ^ x0 % pp = yy) : Met l y_M_log (k_M_log :: wall) { frames := 2, cells := 0, slots := 0, locals := 53 } (zP [.ref (h0), .int (nI (yy))] (OM D h0 er (lN (pp)) (lN (qq)) (lN (gg)))) (zW (some (.int (nI (x0)))) D [(h0, .inr (1, [.int (nI (0)), .long (lN (pp)), .long (lN (qq)), .long (lN (gg))]))] h0) 0 0 (fun q => q = h0) := by
  refine Met.ofW (cc := b_M_log) (maxL := 5) (ret := (some .int)) (by decide) rfl ?_
  intro p e s m args below meth c s₁ B hml hv
  obtain ⟨hv, hP, hK⟩ := hv
  subst hv
  have hx := B.exec
  have hb := B.bytes
  have hr := B.returns
  have hts := atoms_spec (ws := k_M_log :: wall) B.pre
  have hw : ∀ w ∈ wall, w.before _ s = true := fun w h => hts w (List.mem_cons_of_mem _ h)
  have hown : s.vm.findClass R_M = some m.cls := findClass_of_methodNamed B.named
  have hlocks := B.notSynchronized
  have hl := lv_entry ([.ref (h0), .int (nI (yy))]) (n := 5) (Nat.le_of_ble_eq_true rfl)
  rw [lg_entry_eq]
  generalize (lg_sl ([.ref (h0), .int (nI (yy))]) ++ List.replicate (5 - (lg_sl ([.ref (h0), .int (nI (yy))])).length) Slot.unset).toArray = ls at hl ⊢
  have hl : lv_has ls 5 [(0, .ref (h0)), (1, .int (nI (yy)))] := hl
  generalize ([.ref (h0), .int (nI (yy))] : List Value).toArray = args at B hts hw ⊢
  have hD : va_D (fun q => q = h0) [(h0, .inr (1, [.int (er), .long (lN (pp)), .long (lN (qq)), .long (lN (gg))]))] := one_D
  obtain ⟨A, hAe⟩ : ∃ A : Nat → Prop, A = fun q => q = h0 := ⟨_, rfl⟩
  rw [← hAe] at hD
  have hA0 : A h0 := by rw [hAe]
  have hS : va_S A s.heap s.heap [] := va_S.rf
  have hp5 : 5 ≤ pp := by have := G.1; have := G.2.2.1.1; omega
  have hp := G.2.2.2.2.2.2
  have hq2 : 2 ≤ qq := G.2.2.1.1
  have hq : qq < 2 ^ 31 := by have := G.1; omega
  have hgp : gg < pp := G.2.2.2.2.1
  refine lv_aload_n hx hb d_M_log_0 rfl (lv_at hl 0 rfl) ?_
  refine lv_iconst (v := nI (0)) hx hb d_M_log_1 (by decide) ?_
  refine va_put (D := D) (ci := 1) (v := .int (nI (0))) (ty := .int) (C := R_M) (T := F_M) (N := 4) hx hb hw i_M t_M t_M_ok n_M hown hK hP hD hS 0 rfl rfl 0 (by decide) (hw _ fl_M_25) (fun _ h9 => h9) rfl (by decide +kernel) rfl rfl (Nat.le_of_ble_eq_true rfl) d_M_log_2 (fun H locs hP hD hS => ?_)
  have hP : va_P D classes [(h0, .inr (1, [.int (nI (0)), .long (lN (pp)), .long (lN (qq)), .long (lN (gg))]))] H := hP
  have hD : va_D A [(h0, .inr (1, [.int (nI (0)), .long (lN (pp)), .long (lN (qq)), .long (lN (gg))]))] := hD
  refine lv_aload_n hx hb d_M_log_5 rfl (lv_at hl 0 rfl) ?_
  refine lv_iload_n hx hb d_M_log_6 rfl (lv_at hl 1 rfl) ?_
  refine lv_i2l (v := lN (yy)) hx hb d_M_log_7 (nI_l (by omega)) ?_
  refine lv_aload_n hx hb d_M_log_8 rfl (lv_at hl 0 rfl) ?_
  refine va_get (D := D) (ci := 1) (v := .long (lN (pp))) (C := R_M) (T := F_M) (N := 4) hx hb hw i_M hown hK hP 0 rfl rfl 1 (by decide) (hw _ fl_M_9) (fun _ h9 => h9) rfl d_M_log_9 ?_
  refine lv_aload_n hx hb d_M_log_12 rfl (lv_at hl 0 rfl) ?_
  refine va_get (D := D) (ci := 1) (v := .long (lN (qq))) (C := R_M) (T := F_M) (N := 4) hx hb hw i_M hown hK hP 0 rfl rfl 2 (by decide) (hw _ fl_M_17) (fun _ h9 => h9) rfl d_M_log_13 ?_
  refine zS (As := [.long (lN (yy)), .long (lN (pp)), .long (lN (qq))]) (rest := [.ref (h0)]) ⟨hx, hb, hml, hown, hw⟩ (c_M_isMember l (lN (yy)) pp qq (by omega) hp (by omega)) g_M_41 rfl rfl pd_M_isMember ⟨Nat.le_of_ble_eq_true rfl, Nat.le_of_ble_eq_true rfl⟩ hl.1 rfl (Nat.le_of_ble_eq_true rfl) d_M_log_16 ⟨Nat.zero_le _, Nat.zero_le _⟩ ?_
  refine W.eq (g2 := F0 m 19 ls [.int (bI (mem (lN (yy)).toInt pp qq)), .ref (h0)]) rfl ?_
  refine tI (1) (bI_t (memI (by omega) hm)) ?_
  refine lv_if_ne (tgt := 26) hx hb d_M_log_19 (by decide) (fun _ => ?_) (fun z => absurd z (by decide))
  refine lv_iconst (v := nI (0)) hx hb d_M_log_26 (by decide) ?_
  refine lv_iconst (v := nI (1)) hx hb d_M_log_27 (by decide) ?_
  refine W.eq (g2 := F0 m 28 ls [.int (nI (1)), .int (0), .ref (h0)]) (by rw [nI_0]) ?_
  refine zV (b := h0) (As := [.int (0), .int (nI (1))]) (rest := []) ⟨hx, hb, hml, hown, hw⟩ (c_M_fails_no l D h0 (nI (0)) pp qq gg nI_0 (nI (1))) OM_B (OM_at hP hK) (va_recv hK hP (ci := 1) (q0 := 0) rfl rfl) g_M_44 rfl rfl pd_M_fails ⟨Nat.le_of_ble_eq_true rfl, Nat.le_of_ble_eq_true rfl⟩ hl.1 rfl (Nat.le_of_ble_eq_true rfl) d_M_log_28 ⟨Nat.zero_le _, Nat.zero_le _⟩ ?_
  refine W.eq (g2 := F0 m 31 ls [.int (nI (0))]) rfl ?_
  refine lv_if_ne (tgt := 58) hx hb d_M_log_31 (by decide) (fun z => absurd (rfl) z) (fun _ => ?_)
  refine lv_aload_n hx hb d_M_log_34 rfl (lv_at hl 0 rfl) ?_
  refine lv_aload_n hx hb d_M_log_35 rfl (lv_at hl 0 rfl) ?_
  refine va_get (D := D) (ci := 1) (v := .long (lN (pp))) (C := R_M) (T := F_M) (N := 4) hx hb hw i_M hown hK hP 0 rfl rfl 1 (by decide) (hw _ fl_M_9) (fun _ h9 => h9) rfl d_M_log_36 ?_
  refine lv_ldc2 hx hb hown (hw _ kl_M_52) d_M_log_39 ?_
  refine tL (lN (20000)) (by decide +kernel) ?_
  refine W.lcmp hx hb d_M_log_42 ?_
  refine lv_if_le (tgt := 50) hx hb d_M_log_43 (by decide) (fun _ => ?_) (fun z => absurd ((lg_cmp_le _ _).mpr ((pk_lLE (by omega) (by decide)).mpr h2)) z)
  refine lv_iconst (v := nI (0)) hx hb d_M_log_50 (by decide) ?_
  refine lv_iconst (v := nI (2)) hx hb d_M_log_51 (by decide) ?_
  refine W.eq (g2 := F0 m 52 ls [.int (nI (2)), .int (0), .ref (h0)]) (by rw [nI_0]) ?_
  refine zV (b := h0) (As := [.int (0), .int (nI (2))]) (rest := []) ⟨hx, hb, hml, hown, hw⟩ (c_M_fails_no l D h0 (nI (0)) pp qq gg nI_0 (nI (2))) OM_B (OM_at hP hK) (va_recv hK hP (ci := 1) (q0 := 0) rfl rfl) g_M_44 rfl rfl pd_M_fails ⟨Nat.le_of_ble_eq_true rfl, Nat.le_of_ble_eq_true rfl⟩ hl.1 rfl (Nat.le_of_ble_eq_true rfl) d_M_log_52 ⟨Nat.zero_le _, Nat.zero_le _⟩ ?_
  refine W.eq (g2 := F0 m 55 ls [.int (nI (0))]) rfl ?_
  refine lv_if_eq (tgt := 60) hx hb d_M_log_55 (by decide) (fun _ => ?_) (fun z => absurd (rfl) z)
  refine lv_iconst (v := nI (0)) hx hb d_M_log_60 (by decide) ?_
  refine lv_istore_n (lv' := [(2, .int (nI (0))), (0, .ref (h0)), (1, .int (nI (yy)))]) hx hb d_M_log_61 rfl hl (by decide) rfl (fun ls hl => ?_)
  refine lv_lconst (v := lN (1)) hx hb d_M_log_62 (by decide) ?_
  refine lv_lstore_n (lv' := [(3, .long (lN (1))), (2, .int (nI (0))), (0, .ref (h0)), (1, .int (nI (yy)))]) hx hb d_M_log_63 rfl hl (by decide) rfl (fun ls hl => ?_)
  have loop : ∀ (n xx : Nat), x0 ≤ xx + n → xx ≤ x0 → ∀ ls : Array Slot, lv_has ls 5 [(0, .ref (h0)), (1, .int (nI (yy))), (2, .int (nI (xx))), (3, .long (lN (gg ^ xx % pp)))] →
      W p l e (headSpec (k_M_log :: wall) { frames := 2, cells := 0, slots := 0, locals := 53 }).room s m args below meth c H locs 0 0 (MQ below (zW (some (.int (nI (x0)))) D [(h0, .inr (1, [.int (nI (0)), .long (lN (pp)), .long (lN (qq)), .long (lN (gg))]))] h0) args s 0 0 (fun q => q = h0)) (F0 m 64 ls []) := by
    intro n
    induction n with
    | zero =>
      intro xx q1 q2 ls hl
      obtain rfl : xx = x0 := by omega
      refine lv_lload_n hx hb d_M_log_64 rfl (lv_at hl 3 rfl) ?_
      refine lv_iload_n hx hb d_M_log_65 rfl (lv_at hl 1 rfl) ?_
      refine lv_i2l (v := lN (yy)) hx hb d_M_log_66 (nI_l (by omega)) ?_
      refine W.lcmp hx hb d_M_log_67 ?_
      refine lv_if_eq (tgt := 89) hx hb d_M_log_68 (by decide) (fun _ => ?_) (fun z => absurd ((lg_cmp_eq _ _).mpr (by rw [h4])) z)
      refine lv_iload_n hx hb d_M_log_89 rfl (lv_at hl 2 rfl) ?_
      rw [hAe] at hS
      exact W.iret hx hb hr (fun t ht _ => ⟨rfl, by rw [ht]; exact hP, hS.F ht⟩) hS.2.2 d_M_log_90
    | succ n ih =>
      intro xx q1 q2 ls hl
      have hlt : gg ^ xx % pp < pp := Nat.mod_lt _ (by omega)
      have hmg : gg ^ xx % pp * gg < 2 ^ 62 := mulb (by omega) (by omega)
      refine lv_lload_n hx hb d_M_log_64 rfl (lv_at hl 3 rfl) ?_
      refine lv_iload_n hx hb d_M_log_65 rfl (lv_at hl 1 rfl) ?_
      refine lv_i2l (v := lN (yy)) hx hb d_M_log_66 (nI_l (by omega)) ?_
      refine W.lcmp hx hb d_M_log_67 ?_
      refine lv_if_eq (tgt := 89) hx hb d_M_log_68 (by decide) (fun cc => ?_) (fun cc => ?_)
      · have cc := (lg_cmp_eq _ _).mp (by first | exact cc | exact Classical.not_not.mp cc)
        have cc := (pk_lEQ (by omega) (by omega)).mp cc
        have hxx : xx = x0 := by
          rcases Nat.lt_or_ge xx x0 with h | h
          · exact (grp_inj G h h3 (by rw [h4]; exact cc)).elim
          · omega
        subst hxx
        refine lv_iload_n hx hb d_M_log_89 rfl (lv_at hl 2 rfl) ?_
        rw [hAe] at hS
        exact W.iret hx hb hr (fun t ht _ => ⟨rfl, by rw [ht]; exact hP, hS.F ht⟩) hS.2.2 d_M_log_90
      · have cc := fun z9 => cc ((lg_cmp_eq _ _).mpr z9)
        have hne : xx ≠ x0 := fun z => cc (by rw [z, h4])
        refine lv_iinc (v := nI (xx + 1)) (lv' := [(2, .int (nI (xx + 1))), (0, .ref (h0)), (1, .int (nI (yy))), (3, .long (lN (gg ^ xx % pp)))]) hx hb d_M_log_71 hl (k := 2) rfl (nI_1 _) (by decide) rfl (fun ls hl => ?_)
        refine lv_lload_n hx hb d_M_log_74 rfl (lv_at hl 3 rfl) ?_
        refine lv_aload_n hx hb d_M_log_75 rfl (lv_at hl 1 rfl) ?_
        refine va_get (D := D) (ci := 1) (v := .long (lN (gg))) (C := R_M) (T := F_M) (N := 4) hx hb hw i_M hown hK hP 0 rfl rfl 3 (by decide) (hw _ fl_M_22) (fun _ h9 => h9) rfl d_M_log_76 ?_
        refine lv_lmul hx hb d_M_log_79 ?_
        refine tL (lN (gg ^ xx % pp * gg)) (lN_mul _ _) ?_
        refine lv_aload_n hx hb d_M_log_80 rfl (lv_at hl 1 rfl) ?_
        refine va_get (D := D) (ci := 1) (v := .long (lN (pp))) (C := R_M) (T := F_M) (N := 4) hx hb hw i_M hown hK hP 0 rfl rfl 1 (by decide) (hw _ fl_M_9) (fun _ h9 => h9) rfl d_M_log_81 ?_
        refine lv_lrem hx hb d_M_log_84 (lN_ne0 (by omega) (by omega)) ?_
        refine tL (lN (gg ^ (xx + 1) % pp)) (by rw [pk_lRem (by omega) (by omega) (by omega), Nat.mod_mul_mod, ← Nat.pow_succ]) ?_
        refine lv_lstore_n (lv' := [(3, .long (lN (gg ^ (xx + 1) % pp))), (2, .int (nI (xx + 1))), (0, .ref (h0)), (1, .int (nI (yy)))]) hx hb d_M_log_85 rfl hl (by decide) rfl (fun ls hl => ?_)
        refine lv_goto (tgt := 64) hx hb d_M_log_86 (by decide) ?_
        exact ih (xx + 1) (by omega) (by omega) ls (lv_sub hl [2, 3, 1, 0] rfl)
  have hl : lv_has ls 5 [(0, .ref (h0)), (1, .int (nI (yy))), (2, .int (nI (0))), (3, .long (lN (gg ^ 0 % pp)))] := by
    rw [Nat.pow_zero, Nat.mod_eq_of_lt (show 1 < pp by omega)]
    exact lv_sub hl [2, 3, 1, 0] rfl
  exact loop x0 0 (by omega) (by omega) ls hl
set_option maxHeartbeats 4000000 in
set_option maxRecDepth 100000 in
theorem c_M_log_bad (l : Launch) (D : va_G) (h0 : Nat) (er : Int32) (pp qq gg : Nat) (G : grp pp qq gg) (av : Int32) (hno : ¬ mem av.toInt pp qq) : Met l y_M_log (k_M_log :: wall) { frames := 2, cells := 0, slots := 0, locals := 53 } (zP [.ref (h0), .int (av)] (OM D h0 er (lN (pp)) (lN (qq)) (lN (gg)))) (zW (some (.int (nI (0)))) D [(h0, .inr (1, [.int (nI (1)), .long (lN (pp)), .long (lN (qq)), .long (lN (gg))]))] h0) 0 0 (fun q => q = h0) := by
  refine Met.ofW (cc := b_M_log) (maxL := 5) (ret := (some .int)) (by decide) rfl ?_
  intro p e s m args below meth c s₁ B hml hv
  obtain ⟨hv, hP, hK⟩ := hv
  subst hv
  have hx := B.exec
  have hb := B.bytes
  have hr := B.returns
  have hts := atoms_spec (ws := k_M_log :: wall) B.pre
  have hw : ∀ w ∈ wall, w.before _ s = true := fun w h => hts w (List.mem_cons_of_mem _ h)
  have hown : s.vm.findClass R_M = some m.cls := findClass_of_methodNamed B.named
  have hlocks := B.notSynchronized
  have hl := lv_entry ([.ref (h0), .int (av)]) (n := 5) (Nat.le_of_ble_eq_true rfl)
  rw [lg_entry_eq]
  generalize (lg_sl ([.ref (h0), .int (av)]) ++ List.replicate (5 - (lg_sl ([.ref (h0), .int (av)])).length) Slot.unset).toArray = ls at hl ⊢
  have hl : lv_has ls 5 [(0, .ref (h0)), (1, .int (av))] := hl
  generalize ([.ref (h0), .int (av)] : List Value).toArray = args at B hts hw ⊢
  have hD : va_D (fun q => q = h0) [(h0, .inr (1, [.int (er), .long (lN (pp)), .long (lN (qq)), .long (lN (gg))]))] := one_D
  obtain ⟨A, hAe⟩ : ∃ A : Nat → Prop, A = fun q => q = h0 := ⟨_, rfl⟩
  rw [← hAe] at hD
  have hA0 : A h0 := by rw [hAe]
  have hS : va_S A s.heap s.heap [] := va_S.rf
  have hp5 : 5 ≤ pp := by have := G.1; have := G.2.2.1.1; omega
  have hp := G.2.2.2.2.2.2
  have hq2 : 2 ≤ qq := G.2.2.1.1
  have hq : qq < 2 ^ 31 := by have := G.1; omega
  have hgp : gg < pp := G.2.2.2.2.1
  refine lv_aload_n hx hb d_M_log_0 rfl (lv_at hl 0 rfl) ?_
  refine lv_iconst (v := nI (0)) hx hb d_M_log_1 (by decide) ?_
  refine va_put (D := D) (ci := 1) (v := .int (nI (0))) (ty := .int) (C := R_M) (T := F_M) (N := 4) hx hb hw i_M t_M t_M_ok n_M hown hK hP hD hS 0 rfl rfl 0 (by decide) (hw _ fl_M_25) (fun _ h9 => h9) rfl (by decide +kernel) rfl rfl (Nat.le_of_ble_eq_true rfl) d_M_log_2 (fun H locs hP hD hS => ?_)
  have hP : va_P D classes [(h0, .inr (1, [.int (nI (0)), .long (lN (pp)), .long (lN (qq)), .long (lN (gg))]))] H := hP
  have hD : va_D A [(h0, .inr (1, [.int (nI (0)), .long (lN (pp)), .long (lN (qq)), .long (lN (gg))]))] := hD
  refine lv_aload_n hx hb d_M_log_5 rfl (lv_at hl 0 rfl) ?_
  refine lv_iload_n hx hb d_M_log_6 rfl (lv_at hl 1 rfl) ?_
  refine lv_i2l (v := (av).toInt64) hx hb d_M_log_7 (rfl) ?_
  refine lv_aload_n hx hb d_M_log_8 rfl (lv_at hl 0 rfl) ?_
  refine va_get (D := D) (ci := 1) (v := .long (lN (pp))) (C := R_M) (T := F_M) (N := 4) hx hb hw i_M hown hK hP 0 rfl rfl 1 (by decide) (hw _ fl_M_9) (fun _ h9 => h9) rfl d_M_log_9 ?_
  refine lv_aload_n hx hb d_M_log_12 rfl (lv_at hl 0 rfl) ?_
  refine va_get (D := D) (ci := 1) (v := .long (lN (qq))) (C := R_M) (T := F_M) (N := 4) hx hb hw i_M hown hK hP 0 rfl rfl 2 (by decide) (hw _ fl_M_17) (fun _ h9 => h9) rfl d_M_log_13 ?_
  refine zS (As := [.long ((av).toInt64), .long (lN (pp)), .long (lN (qq))]) (rest := [.ref (h0)]) ⟨hx, hb, hml, hown, hw⟩ (c_M_isMember l ((av).toInt64) pp qq (by omega) hp (by omega)) g_M_41 rfl rfl pd_M_isMember ⟨Nat.le_of_ble_eq_true rfl, Nat.le_of_ble_eq_true rfl⟩ hl.1 rfl (Nat.le_of_ble_eq_true rfl) d_M_log_16 ⟨Nat.zero_le _, Nat.zero_le _⟩ ?_
  refine W.eq (g2 := F0 m 19 ls [.int (bI (mem ((av).toInt64).toInt pp qq)), .ref (h0)]) rfl ?_
  refine tI (bI (mem av.toInt pp qq)) (by rw [i2lI]) ?_
  refine tI (0) (bI_f hno) ?_
  refine lv_if_ne (tgt := 26) hx hb d_M_log_19 (by decide) (fun z => absurd (rfl) z) (fun _ => ?_)
  refine lv_iconst (v := nI (1)) hx hb d_M_log_22 (by decide) ?_
  refine lv_goto (tgt := 27) hx hb d_M_log_23 (by decide) ?_
  refine lv_iconst (v := nI (1)) hx hb d_M_log_27 (by decide) ?_
  refine W.eq (g2 := F0 m 28 ls [.int (nI (1)), .int (1), .ref (h0)]) (by rw [nI_one]) ?_
  refine zVW (b := h0) (As := [.int (1), .int (nI (1))]) (rest := []) ⟨hx, hb, hml, hown, hw⟩ (c_M_fails_yes l D h0 (nI (0)) pp qq gg nI_0 (nI (1)) (by decide)) OM_B (OM_at hP hK) (va_recv hK hP (ci := 1) (q0 := 0) rfl rfl) g_M_44 rfl rfl pd_M_fails ⟨Nat.le_of_ble_eq_true rfl, Nat.le_of_ble_eq_true rfl⟩ hl.1 rfl (Nat.le_of_ble_eq_true rfl) d_M_log_28 ⟨Nat.zero_le _, Nat.zero_le _⟩ hS hA0 (fun H locs hP hz hk hS => ?_)
  have hP : va_P D classes [(h0, .inr (1, [.int (nI (1)), .long (lN (pp)), .long (lN (qq)), .long (lN (gg))]))] H := hP
  refine W.eq (g2 := F0 m 31 ls [.int (nI (1))]) rfl ?_
  refine lv_if_ne (tgt := 58) hx hb d_M_log_31 (by decide) (fun _ => ?_) (fun z => absurd z (by decide))
  refine lv_iconst (v := nI (0)) hx hb d_M_log_58 (by decide) ?_
  rw [hAe] at hS
  exact W.iret hx hb hr (fun t ht _ => ⟨rfl, by rw [ht]; exact hP, hS.F ht⟩) hS.2.2 d_M_log_59
set_option maxHeartbeats 4000000 in
set_option maxRecDepth 100000 in
theorem c_M_log_big (l : Launch) (D : va_G) (h0 : Nat) (er : Int32) (pp qq gg : Nat) (G : grp pp qq gg) (av : Int32) (hm : mem av.toInt pp qq) (h2 : 20000 < pp) : Met l y_M_log (k_M_log :: wall) { frames := 2, cells := 0, slots := 0, locals := 53 } (zP [.ref (h0), .int (av)] (OM D h0 er (lN (pp)) (lN (qq)) (lN (gg)))) (zW (some (.int (nI (0)))) D [(h0, .inr (1, [.int (nI (2)), .long (lN (pp)), .long (lN (qq)), .long (lN (gg))]))] h0) 0 0 (fun q => q = h0) := by
  refine Met.ofW (cc := b_M_log) (maxL := 5) (ret := (some .int)) (by decide) rfl ?_
  intro p e s m args below meth c s₁ B hml hv
  obtain ⟨hv, hP, hK⟩ := hv
  subst hv
  have hx := B.exec
  have hb := B.bytes
  have hr := B.returns
  have hts := atoms_spec (ws := k_M_log :: wall) B.pre
  have hw : ∀ w ∈ wall, w.before _ s = true := fun w h => hts w (List.mem_cons_of_mem _ h)
  have hown : s.vm.findClass R_M = some m.cls := findClass_of_methodNamed B.named
  have hlocks := B.notSynchronized
  have hl := lv_entry ([.ref (h0), .int (av)]) (n := 5) (Nat.le_of_ble_eq_true rfl)
  rw [lg_entry_eq]
  generalize (lg_sl ([.ref (h0), .int (av)]) ++ List.replicate (5 - (lg_sl ([.ref (h0), .int (av)])).length) Slot.unset).toArray = ls at hl ⊢
  have hl : lv_has ls 5 [(0, .ref (h0)), (1, .int (av))] := hl
  generalize ([.ref (h0), .int (av)] : List Value).toArray = args at B hts hw ⊢
  have hD : va_D (fun q => q = h0) [(h0, .inr (1, [.int (er), .long (lN (pp)), .long (lN (qq)), .long (lN (gg))]))] := one_D
  obtain ⟨A, hAe⟩ : ∃ A : Nat → Prop, A = fun q => q = h0 := ⟨_, rfl⟩
  rw [← hAe] at hD
  have hA0 : A h0 := by rw [hAe]
  have hS : va_S A s.heap s.heap [] := va_S.rf
  have hp5 : 5 ≤ pp := by have := G.1; have := G.2.2.1.1; omega
  have hp := G.2.2.2.2.2.2
  have hq2 : 2 ≤ qq := G.2.2.1.1
  have hq : qq < 2 ^ 31 := by have := G.1; omega
  have hgp : gg < pp := G.2.2.2.2.1
  refine lv_aload_n hx hb d_M_log_0 rfl (lv_at hl 0 rfl) ?_
  refine lv_iconst (v := nI (0)) hx hb d_M_log_1 (by decide) ?_
  refine va_put (D := D) (ci := 1) (v := .int (nI (0))) (ty := .int) (C := R_M) (T := F_M) (N := 4) hx hb hw i_M t_M t_M_ok n_M hown hK hP hD hS 0 rfl rfl 0 (by decide) (hw _ fl_M_25) (fun _ h9 => h9) rfl (by decide +kernel) rfl rfl (Nat.le_of_ble_eq_true rfl) d_M_log_2 (fun H locs hP hD hS => ?_)
  have hP : va_P D classes [(h0, .inr (1, [.int (nI (0)), .long (lN (pp)), .long (lN (qq)), .long (lN (gg))]))] H := hP
  have hD : va_D A [(h0, .inr (1, [.int (nI (0)), .long (lN (pp)), .long (lN (qq)), .long (lN (gg))]))] := hD
  refine lv_aload_n hx hb d_M_log_5 rfl (lv_at hl 0 rfl) ?_
  refine lv_iload_n hx hb d_M_log_6 rfl (lv_at hl 1 rfl) ?_
  refine lv_i2l (v := (av).toInt64) hx hb d_M_log_7 (rfl) ?_
  refine lv_aload_n hx hb d_M_log_8 rfl (lv_at hl 0 rfl) ?_
  refine va_get (D := D) (ci := 1) (v := .long (lN (pp))) (C := R_M) (T := F_M) (N := 4) hx hb hw i_M hown hK hP 0 rfl rfl 1 (by decide) (hw _ fl_M_9) (fun _ h9 => h9) rfl d_M_log_9 ?_
  refine lv_aload_n hx hb d_M_log_12 rfl (lv_at hl 0 rfl) ?_
  refine va_get (D := D) (ci := 1) (v := .long (lN (qq))) (C := R_M) (T := F_M) (N := 4) hx hb hw i_M hown hK hP 0 rfl rfl 2 (by decide) (hw _ fl_M_17) (fun _ h9 => h9) rfl d_M_log_13 ?_
  refine zS (As := [.long ((av).toInt64), .long (lN (pp)), .long (lN (qq))]) (rest := [.ref (h0)]) ⟨hx, hb, hml, hown, hw⟩ (c_M_isMember l ((av).toInt64) pp qq (by omega) hp (by omega)) g_M_41 rfl rfl pd_M_isMember ⟨Nat.le_of_ble_eq_true rfl, Nat.le_of_ble_eq_true rfl⟩ hl.1 rfl (Nat.le_of_ble_eq_true rfl) d_M_log_16 ⟨Nat.zero_le _, Nat.zero_le _⟩ ?_
  refine W.eq (g2 := F0 m 19 ls [.int (bI (mem ((av).toInt64).toInt pp qq)), .ref (h0)]) rfl ?_
  refine tI (bI (mem av.toInt pp qq)) (by rw [i2lI]) ?_
  refine tI (1) (bI_t hm) ?_
  refine lv_if_ne (tgt := 26) hx hb d_M_log_19 (by decide) (fun _ => ?_) (fun z => absurd z (by decide))
  refine lv_iconst (v := nI (0)) hx hb d_M_log_26 (by decide) ?_
  refine lv_iconst (v := nI (1)) hx hb d_M_log_27 (by decide) ?_
  refine W.eq (g2 := F0 m 28 ls [.int (nI (1)), .int (0), .ref (h0)]) (by rw [nI_0]) ?_
  refine zV (b := h0) (As := [.int (0), .int (nI (1))]) (rest := []) ⟨hx, hb, hml, hown, hw⟩ (c_M_fails_no l D h0 (nI (0)) pp qq gg nI_0 (nI (1))) OM_B (OM_at hP hK) (va_recv hK hP (ci := 1) (q0 := 0) rfl rfl) g_M_44 rfl rfl pd_M_fails ⟨Nat.le_of_ble_eq_true rfl, Nat.le_of_ble_eq_true rfl⟩ hl.1 rfl (Nat.le_of_ble_eq_true rfl) d_M_log_28 ⟨Nat.zero_le _, Nat.zero_le _⟩ ?_
  refine W.eq (g2 := F0 m 31 ls [.int (nI (0))]) rfl ?_
  refine lv_if_ne (tgt := 58) hx hb d_M_log_31 (by decide) (fun z => absurd (rfl) z) (fun _ => ?_)
  refine lv_aload_n hx hb d_M_log_34 rfl (lv_at hl 0 rfl) ?_
  refine lv_aload_n hx hb d_M_log_35 rfl (lv_at hl 0 rfl) ?_
  refine va_get (D := D) (ci := 1) (v := .long (lN (pp))) (C := R_M) (T := F_M) (N := 4) hx hb hw i_M hown hK hP 0 rfl rfl 1 (by decide) (hw _ fl_M_9) (fun _ h9 => h9) rfl d_M_log_36 ?_
  refine lv_ldc2 hx hb hown (hw _ kl_M_52) d_M_log_39 ?_
  refine tL (lN (20000)) (by decide +kernel) ?_
  refine W.lcmp hx hb d_M_log_42 ?_
  refine lv_if_le (tgt := 50) hx hb d_M_log_43 (by decide) (fun z => absurd z (fun z9 => (fun z => by have := (pk_lLE (by omega) (by decide)).mp z; omega) ((lg_cmp_le _ _).mp z9))) (fun _ => ?_)
  refine lv_iconst (v := nI (1)) hx hb d_M_log_46 (by decide) ?_
  refine lv_goto (tgt := 51) hx hb d_M_log_47 (by decide) ?_
  refine lv_iconst (v := nI (2)) hx hb d_M_log_51 (by decide) ?_
  refine W.eq (g2 := F0 m 52 ls [.int (nI (2)), .int (1), .ref (h0)]) (by rw [nI_one]) ?_
  refine zVW (b := h0) (As := [.int (1), .int (nI (2))]) (rest := []) ⟨hx, hb, hml, hown, hw⟩ (c_M_fails_yes l D h0 (nI (0)) pp qq gg nI_0 (nI (2)) (by decide)) OM_B (OM_at hP hK) (va_recv hK hP (ci := 1) (q0 := 0) rfl rfl) g_M_44 rfl rfl pd_M_fails ⟨Nat.le_of_ble_eq_true rfl, Nat.le_of_ble_eq_true rfl⟩ hl.1 rfl (Nat.le_of_ble_eq_true rfl) d_M_log_52 ⟨Nat.zero_le _, Nat.zero_le _⟩ hS hA0 (fun H locs hP hz hk hS => ?_)
  have hP : va_P D classes [(h0, .inr (1, [.int (nI (2)), .long (lN (pp)), .long (lN (qq)), .long (lN (gg))]))] H := hP
  refine W.eq (g2 := F0 m 55 ls [.int (nI (1))]) rfl ?_
  refine lv_if_eq (tgt := 60) hx hb d_M_log_55 (by decide) (fun z => absurd z (by decide)) (fun _ => ?_)
  refine lv_iconst (v := nI (0)) hx hb d_M_log_58 (by decide) ?_
  rw [hAe] at hS
  exact W.iret hx hb hr (fun t ht _ => ⟨rfl, by rw [ht]; exact hP, hS.F ht⟩) hS.2.2 d_M_log_59
set_option maxHeartbeats 4000000 in
set_option maxRecDepth 100000 in
theorem c_M_accepts (l : Launch) (D : va_G) (h0 : Nat) (er : Int32) (pp qq gg : Nat) (G : grp pp qq gg) (yv av cv zv : Int32) : Met l y_M_accepts (k_M_accepts :: wall) { frames := 2, cells := 0, slots := 0, locals := 53 } (zP [.ref (h0), .int (yv), .int (av), .int (cv), .int (zv)] (OM D h0 er (lN (pp)) (lN (qq)) (lN (gg)))) (zW (some (.int (bI (okp pp qq gg yv.toInt av.toInt cv.toInt zv.toInt)))) D [(h0, .inr (1, [.int (nI (0)), .long (lN (pp)), .long (lN (qq)), .long (lN (gg))]))] h0) 0 0 (fun q => q = h0) := by
  refine Met.ofW (cc := b_M_accepts) (maxL := 5) (ret := (some .boolean)) (by decide) rfl ?_
  intro p e s m args below meth c s₁ B hml hv
  obtain ⟨hv, hP, hK⟩ := hv
  subst hv
  have hx := B.exec
  have hb := B.bytes
  have hr := B.returns
  have hts := atoms_spec (ws := k_M_accepts :: wall) B.pre
  have hw : ∀ w ∈ wall, w.before _ s = true := fun w h => hts w (List.mem_cons_of_mem _ h)
  have hown : s.vm.findClass R_M = some m.cls := findClass_of_methodNamed B.named
  have hlocks := B.notSynchronized
  have hl := lv_entry ([.ref (h0), .int (yv), .int (av), .int (cv), .int (zv)]) (n := 5) (Nat.le_of_ble_eq_true rfl)
  rw [lg_entry_eq]
  generalize (lg_sl ([.ref (h0), .int (yv), .int (av), .int (cv), .int (zv)]) ++ List.replicate (5 - (lg_sl ([.ref (h0), .int (yv), .int (av), .int (cv), .int (zv)])).length) Slot.unset).toArray = ls at hl ⊢
  have hl : lv_has ls 5 [(0, .ref (h0)), (1, .int (yv)), (2, .int (av)), (3, .int (cv)), (4, .int (zv))] := hl
  generalize ([.ref (h0), .int (yv), .int (av), .int (cv), .int (zv)] : List Value).toArray = args at B hts hw ⊢
  have hD : va_D (fun q => q = h0) [(h0, .inr (1, [.int (er), .long (lN (pp)), .long (lN (qq)), .long (lN (gg))]))] := one_D
  obtain ⟨A, hAe⟩ : ∃ A : Nat → Prop, A = fun q => q = h0 := ⟨_, rfl⟩
  rw [← hAe] at hD
  have hA0 : A h0 := by rw [hAe]
  have hS : va_S A s.heap s.heap [] := va_S.rf
  have hp5 : 5 ≤ pp := by have := G.1; have := G.2.2.1.1; omega
  have hp := G.2.2.2.2.2.2
  have hq2 : 2 ≤ qq := G.2.2.1.1
  have hq : qq < 2 ^ 31 := by have := G.1; omega
  have hgp : gg < pp := G.2.2.2.2.1
  refine lv_aload_n hx hb d_M_accepts_0 rfl (lv_at hl 0 rfl) ?_
  refine lv_iconst (v := nI (0)) hx hb d_M_accepts_1 (by decide) ?_
  refine va_put (D := D) (ci := 1) (v := .int (nI (0))) (ty := .int) (C := R_M) (T := F_M) (N := 4) hx hb hw i_M t_M t_M_ok n_M hown hK hP hD hS 0 rfl rfl 0 (by decide) (hw _ fl_M_25) (fun _ h9 => h9) rfl (by decide +kernel) rfl rfl (Nat.le_of_ble_eq_true rfl) d_M_accepts_2 (fun H locs hP hD hS => ?_)
  have hP : va_P D classes [(h0, .inr (1, [.int (nI (0)), .long (lN (pp)), .long (lN (qq)), .long (lN (gg))]))] H := hP
  have hD : va_D A [(h0, .inr (1, [.int (nI (0)), .long (lN (pp)), .long (lN (qq)), .long (lN (gg))]))] := hD
  refine lv_iload_n hx hb d_M_accepts_5 rfl (lv_at hl 1 rfl) ?_
  refine lv_i2l (v := (yv).toInt64) hx hb d_M_accepts_6 (rfl) ?_
  refine lv_aload_n hx hb d_M_accepts_7 rfl (lv_at hl 0 rfl) ?_
  refine va_get (D := D) (ci := 1) (v := .long (lN (pp))) (C := R_M) (T := F_M) (N := 4) hx hb hw i_M hown hK hP 0 rfl rfl 1 (by decide) (hw _ fl_M_9) (fun _ h9 => h9) rfl d_M_accepts_8 ?_
  refine lv_aload_n hx hb d_M_accepts_11 rfl (lv_at hl 0 rfl) ?_
  refine va_get (D := D) (ci := 1) (v := .long (lN (qq))) (C := R_M) (T := F_M) (N := 4) hx hb hw i_M hown hK hP 0 rfl rfl 2 (by decide) (hw _ fl_M_17) (fun _ h9 => h9) rfl d_M_accepts_12 ?_
  refine zS (As := [.long ((yv).toInt64), .long (lN (pp)), .long (lN (qq))]) (rest := []) ⟨hx, hb, hml, hown, hw⟩ (c_M_isMember l ((yv).toInt64) pp qq (by omega) hp (by omega)) g_M_41 rfl rfl pd_M_isMember ⟨Nat.le_of_ble_eq_true rfl, Nat.le_of_ble_eq_true rfl⟩ hl.1 rfl (Nat.le_of_ble_eq_true rfl) d_M_accepts_15 ⟨Nat.zero_le _, Nat.zero_le _⟩ ?_
  refine W.eq (g2 := F0 m 18 ls [.int (bI (mem ((yv).toInt64).toInt pp qq))]) rfl ?_
  refine tI (bI (mem yv.toInt pp qq)) (by rw [i2lI]) ?_
  by_cases hy : mem yv.toInt pp qq
  · refine tI (1) (bI_t hy) ?_
    refine lv_if_eq (tgt := 97) hx hb d_M_accepts_18 (by decide) (fun z => absurd z (by decide)) (fun _ => ?_)
    refine lv_iload_n hx hb d_M_accepts_21 rfl (lv_at hl 2 rfl) ?_
    refine lv_i2l (v := (av).toInt64) hx hb d_M_accepts_22 (rfl) ?_
    refine lv_aload_n hx hb d_M_accepts_23 rfl (lv_at hl 0 rfl) ?_
    refine va_get (D := D) (ci := 1) (v := .long (lN (pp))) (C := R_M) (T := F_M) (N := 4) hx hb hw i_M hown hK hP 0 rfl rfl 1 (by decide) (hw _ fl_M_9) (fun _ h9 => h9) rfl d_M_accepts_24 ?_
    refine lv_aload_n hx hb d_M_accepts_27 rfl (lv_at hl 0 rfl) ?_
    refine va_get (D := D) (ci := 1) (v := .long (lN (qq))) (C := R_M) (T := F_M) (N := 4) hx hb hw i_M hown hK hP 0 rfl rfl 2 (by decide) (hw _ fl_M_17) (fun _ h9 => h9) rfl d_M_accepts_28 ?_
    refine zS (As := [.long ((av).toInt64), .long (lN (pp)), .long (lN (qq))]) (rest := []) ⟨hx, hb, hml, hown, hw⟩ (c_M_isMember l ((av).toInt64) pp qq (by omega) hp (by omega)) g_M_41 rfl rfl pd_M_isMember ⟨Nat.le_of_ble_eq_true rfl, Nat.le_of_ble_eq_true rfl⟩ hl.1 rfl (Nat.le_of_ble_eq_true rfl) d_M_accepts_31 ⟨Nat.zero_le _, Nat.zero_le _⟩ ?_
    refine W.eq (g2 := F0 m 34 ls [.int (bI (mem ((av).toInt64).toInt pp qq))]) rfl ?_
    refine tI (bI (mem av.toInt pp qq)) (by rw [i2lI]) ?_
    by_cases ha : mem av.toInt pp qq
    · refine tI (1) (bI_t ha) ?_
      refine lv_if_eq (tgt := 97) hx hb d_M_accepts_34 (by decide) (fun z => absurd z (by decide)) (fun _ => ?_)
      refine lv_aload_n hx hb d_M_accepts_37 rfl (lv_at hl 0 rfl) ?_
      refine lv_iload_n hx hb d_M_accepts_38 rfl (lv_at hl 3 rfl) ?_
      refine lv_i2l (v := (cv).toInt64) hx hb d_M_accepts_39 (rfl) ?_
      refine zV (b := h0) (As := [.long ((cv).toInt64)]) (rest := []) ⟨hx, hb, hml, hown, hw⟩ (c_M_isExponent l D h0 (nI (0)) pp qq gg (by omega) hq ((cv).toInt64)) OM_B (OM_at hP hK) (va_recv hK hP (ci := 1) (q0 := 0) rfl rfl) g_M_54 rfl rfl pd_M_isExponent ⟨Nat.le_of_ble_eq_true rfl, Nat.le_of_ble_eq_true rfl⟩ hl.1 rfl (Nat.le_of_ble_eq_true rfl) d_M_accepts_40 ⟨Nat.zero_le _, Nat.zero_le _⟩ ?_
      refine W.eq (g2 := F0 m 43 ls [.int (bI (res ((cv).toInt64).toInt qq))]) rfl ?_
      refine tI (bI (res cv.toInt qq)) (by rw [i2lI]) ?_
      by_cases hc : res cv.toInt qq
      · refine tI (1) (bI_t hc) ?_
        refine lv_if_eq (tgt := 97) hx hb d_M_accepts_43 (by decide) (fun z => absurd z (by decide)) (fun _ => ?_)
        refine lv_aload_n hx hb d_M_accepts_46 rfl (lv_at hl 0 rfl) ?_
        refine lv_iload hx hb d_M_accepts_47 (lv_at hl 4 rfl) ?_
        refine lv_i2l (v := (zv).toInt64) hx hb d_M_accepts_49 (rfl) ?_
        refine zV (b := h0) (As := [.long ((zv).toInt64)]) (rest := []) ⟨hx, hb, hml, hown, hw⟩ (c_M_isExponent l D h0 (nI (0)) pp qq gg (by omega) hq ((zv).toInt64)) OM_B (OM_at hP hK) (va_recv hK hP (ci := 1) (q0 := 0) rfl rfl) g_M_54 rfl rfl pd_M_isExponent ⟨Nat.le_of_ble_eq_true rfl, Nat.le_of_ble_eq_true rfl⟩ hl.1 rfl (Nat.le_of_ble_eq_true rfl) d_M_accepts_50 ⟨Nat.zero_le _, Nat.zero_le _⟩ ?_
        refine W.eq (g2 := F0 m 53 ls [.int (bI (res ((zv).toInt64).toInt qq))]) rfl ?_
        refine tI (bI (res zv.toInt qq)) (by rw [i2lI]) ?_
        by_cases hz : res zv.toInt qq
        · refine tI (1) (bI_t hz) ?_
          refine lv_if_eq (tgt := 97) hx hb d_M_accepts_53 (by decide) (fun z => absurd z (by decide)) (fun _ => ?_)
          obtain ⟨yy, y1, y2, y3, rfl, y5, y6⟩ := mem_of hy
          obtain ⟨aa, a1, a2, a3, rfl, a5, a6⟩ := mem_of ha
          obtain ⟨ce, c1, c2, rfl, c4⟩ := res_of hc
          obtain ⟨ze, z1, z2, rfl, z4⟩ := res_of hz
          have e1 : gg ^ ze % pp < pp := Nat.mod_lt _ (by omega)
          have e2 : yy ^ ce % pp < pp := Nat.mod_lt _ (by omega)
          have e3 : aa * (yy ^ ce % pp) % pp < pp := Nat.mod_lt _ (by omega)
          have e4 : aa * (yy ^ ce % pp) < 2 ^ 62 := mulb (by omega) (by omega)
          refine lv_aload_n hx hb d_M_accepts_56 rfl (lv_at hl 0 rfl) ?_
          refine va_get (D := D) (ci := 1) (v := .long (lN (gg))) (C := R_M) (T := F_M) (N := 4) hx hb hw i_M hown hK hP 0 rfl rfl 3 (by decide) (hw _ fl_M_22) (fun _ h9 => h9) rfl d_M_accepts_57 ?_
          refine lv_iload hx hb d_M_accepts_60 (lv_at hl 4 rfl) ?_
          refine lv_i2l (v := lN (ze)) hx hb d_M_accepts_62 (nI_l (by omega)) ?_
          refine lv_aload_n hx hb d_M_accepts_63 rfl (lv_at hl 0 rfl) ?_
          refine va_get (D := D) (ci := 1) (v := .long (lN (pp))) (C := R_M) (T := F_M) (N := 4) hx hb hw i_M hown hK hP 0 rfl rfl 1 (by decide) (hw _ fl_M_9) (fun _ h9 => h9) rfl d_M_accepts_64 ?_
          refine zS (As := [.long (lN (gg)), .long (lN (ze)), .long (lN (pp))]) (rest := []) ⟨hx, hb, hml, hown, hw⟩ (c_M_power_JJJ l gg ze pp (by omega) (by omega) (by omega) hp) g_M_33 rfl rfl pd_M_power_JJJ ⟨Nat.le_of_ble_eq_true rfl, Nat.le_of_ble_eq_true rfl⟩ hl.1 rfl (Nat.le_of_ble_eq_true rfl) d_M_accepts_67 ⟨Nat.zero_le _, Nat.zero_le _⟩ ?_
          refine W.eq (g2 := F0 m 70 ls [.long (lN (gg ^ ze % pp))]) rfl ?_
          refine lv_iload_n hx hb d_M_accepts_70 rfl (lv_at hl 2 rfl) ?_
          refine lv_i2l (v := lN (aa)) hx hb d_M_accepts_71 (nI_l (by omega)) ?_
          refine lv_iload_n hx hb d_M_accepts_72 rfl (lv_at hl 1 rfl) ?_
          refine lv_i2l (v := lN (yy)) hx hb d_M_accepts_73 (nI_l (by omega)) ?_
          refine lv_iload_n hx hb d_M_accepts_74 rfl (lv_at hl 3 rfl) ?_
          refine lv_i2l (v := lN (ce)) hx hb d_M_accepts_75 (nI_l (by omega)) ?_
          refine lv_aload_n hx hb d_M_accepts_76 rfl (lv_at hl 0 rfl) ?_
          refine va_get (D := D) (ci := 1) (v := .long (lN (pp))) (C := R_M) (T := F_M) (N := 4) hx hb hw i_M hown hK hP 0 rfl rfl 1 (by decide) (hw _ fl_M_9) (fun _ h9 => h9) rfl d_M_accepts_77 ?_
          refine zS (As := [.long (lN (yy)), .long (lN (ce)), .long (lN (pp))]) (rest := [.long (lN (aa)), .long (lN (gg ^ ze % pp))]) ⟨hx, hb, hml, hown, hw⟩ (c_M_power_JJJ l yy ce pp (by omega) (by omega) (by omega) hp) g_M_33 rfl rfl pd_M_power_JJJ ⟨Nat.le_of_ble_eq_true rfl, Nat.le_of_ble_eq_true rfl⟩ hl.1 rfl (Nat.le_of_ble_eq_true rfl) d_M_accepts_80 ⟨Nat.zero_le _, Nat.zero_le _⟩ ?_
          refine W.eq (g2 := F0 m 83 ls [.long (lN (yy ^ ce % pp)), .long (lN (aa)), .long (lN (gg ^ ze % pp))]) rfl ?_
          refine lv_lmul hx hb d_M_accepts_83 ?_
          refine tL (lN (aa * (yy ^ ce % pp))) (lN_mul _ _) ?_
          refine lv_aload_n hx hb d_M_accepts_84 rfl (lv_at hl 0 rfl) ?_
          refine va_get (D := D) (ci := 1) (v := .long (lN (pp))) (C := R_M) (T := F_M) (N := 4) hx hb hw i_M hown hK hP 0 rfl rfl 1 (by decide) (hw _ fl_M_9) (fun _ h9 => h9) rfl d_M_accepts_85 ?_
          refine lv_lrem hx hb d_M_accepts_88 (by first | decide | exact nI_ne0 (by omega) (by omega) | exact lN_ne0 (by omega) (by omega)) ?_
          refine tL (lN ((aa * (yy ^ ce % pp)) % pp)) (pk_lRem (by omega) (by omega) (by omega)) ?_
          refine W.lcmp hx hb d_M_accepts_89 ?_
          refine lv_if_ne (tgt := 97) hx hb d_M_accepts_90 (by decide) (fun cc => ?_) (fun cc => ?_)
          · have cc := fun z9 => cc ((lg_cmp_eq _ _).mpr z9)
            rw [bI_f (fun z : okp pp qq gg (nI (yy)).toInt (nI (aa)).toInt (nI (ce)).toInt (nI (ze)).toInt => cc (by have := z.2.2.2.2; rw [y5, a5, c4, z4] at this; exact congrArg lN this))]
            refine lv_iconst (v := nI (0)) hx hb d_M_accepts_97 (by decide) ?_
            rw [hAe] at hS
            exact W.zret (ty := .boolean) hx hb hr (by decide) (fun t ht _ => ⟨rfl, by rw [ht]; exact hP, hS.F ht⟩) hS.2.2 d_M_accepts_98
          · have cc := (lg_cmp_eq _ _).mp (by first | exact cc | exact Classical.not_not.mp cc)
            have cc := (pk_lEQ (by omega) (by omega)).mp cc
            rw [bI_t (show okp pp qq gg (nI (yy)).toInt (nI (aa)).toInt (nI (ce)).toInt (nI (ze)).toInt from ⟨hy, ha, hc, hz, by rw [y5, a5, c4, z4]; exact cc⟩)]
            refine lv_iconst (v := nI (1)) hx hb d_M_accepts_93 (by decide) ?_
            refine lv_goto (tgt := 98) hx hb d_M_accepts_94 (by decide) ?_
            rw [hAe] at hS
            exact W.zret (ty := .boolean) hx hb hr (by decide) (fun t ht _ => ⟨rfl, by rw [ht]; exact hP, hS.F ht⟩) hS.2.2 d_M_accepts_98
        · refine tI (0) (bI_f hz) ?_
          refine lv_if_eq (tgt := 97) hx hb d_M_accepts_53 (by decide) (fun _ => ?_) (fun z => absurd (rfl) z)
          rw [bI_f (fun z : okp pp qq gg yv.toInt av.toInt cv.toInt zv.toInt => hz z.2.2.2.1)]
          refine lv_iconst (v := nI (0)) hx hb d_M_accepts_97 (by decide) ?_
          rw [hAe] at hS
          exact W.zret (ty := .boolean) hx hb hr (by decide) (fun t ht _ => ⟨rfl, by rw [ht]; exact hP, hS.F ht⟩) hS.2.2 d_M_accepts_98
      · refine tI (0) (bI_f hc) ?_
        refine lv_if_eq (tgt := 97) hx hb d_M_accepts_43 (by decide) (fun _ => ?_) (fun z => absurd (rfl) z)
        rw [bI_f (fun z : okp pp qq gg yv.toInt av.toInt cv.toInt zv.toInt => hc z.2.2.1)]
        refine lv_iconst (v := nI (0)) hx hb d_M_accepts_97 (by decide) ?_
        rw [hAe] at hS
        exact W.zret (ty := .boolean) hx hb hr (by decide) (fun t ht _ => ⟨rfl, by rw [ht]; exact hP, hS.F ht⟩) hS.2.2 d_M_accepts_98
    · refine tI (0) (bI_f ha) ?_
      refine lv_if_eq (tgt := 97) hx hb d_M_accepts_34 (by decide) (fun _ => ?_) (fun z => absurd (rfl) z)
      rw [bI_f (fun z : okp pp qq gg yv.toInt av.toInt cv.toInt zv.toInt => ha z.2.1)]
      refine lv_iconst (v := nI (0)) hx hb d_M_accepts_97 (by decide) ?_
      rw [hAe] at hS
      exact W.zret (ty := .boolean) hx hb hr (by decide) (fun t ht _ => ⟨rfl, by rw [ht]; exact hP, hS.F ht⟩) hS.2.2 d_M_accepts_98
  · refine tI (0) (bI_f hy) ?_
    refine lv_if_eq (tgt := 97) hx hb d_M_accepts_18 (by decide) (fun _ => ?_) (fun z => absurd (rfl) z)
    rw [bI_f (fun z : okp pp qq gg yv.toInt av.toInt cv.toInt zv.toInt => hy z.1)]
    refine lv_iconst (v := nI (0)) hx hb d_M_accepts_97 (by decide) ?_
    rw [hAe] at hS
    exact W.zret (ty := .boolean) hx hb hr (by decide) (fun t ht _ => ⟨rfl, by rw [ht]; exact hP, hS.F ht⟩) hS.2.2 d_M_accepts_98
set_option maxHeartbeats 4000000 in
set_option maxRecDepth 100000 in
theorem c_M_answer_ok (l : Launch) (D : va_G) (h0 : Nat) (er : Int32) (pp qq gg : Nat) (G : grp pp qq gg) (xx kk ce : Nat) (h1 : xx < qq) (h2 : kk < qq) (h3 : ce < qq) : Met l y_M_answer (k_M_answer :: wall) { frames := 2, cells := 0, slots := 0, locals := 53 } (zP [.ref (h0), .int (nI (xx)), .int (nI (kk)), .int (nI (ce))] (OM D h0 er (lN (pp)) (lN (qq)) (lN (gg)))) (zW (some (.int (nI ((kk + ce * xx) % qq)))) D [(h0, .inr (1, [.int (nI (0)), .long (lN (pp)), .long (lN (qq)), .long (lN (gg))]))] h0) 0 0 (fun q => q = h0) := by
  refine Met.ofW (cc := b_M_answer) (maxL := 4) (ret := (some .int)) (by decide) rfl ?_
  intro p e s m args below meth c s₁ B hml hv
  obtain ⟨hv, hP, hK⟩ := hv
  subst hv
  have hx := B.exec
  have hb := B.bytes
  have hr := B.returns
  have hts := atoms_spec (ws := k_M_answer :: wall) B.pre
  have hw : ∀ w ∈ wall, w.before _ s = true := fun w h => hts w (List.mem_cons_of_mem _ h)
  have hown : s.vm.findClass R_M = some m.cls := findClass_of_methodNamed B.named
  have hlocks := B.notSynchronized
  have hl := lv_entry ([.ref (h0), .int (nI (xx)), .int (nI (kk)), .int (nI (ce))]) (n := 4) (Nat.le_of_ble_eq_true rfl)
  rw [lg_entry_eq]
  generalize (lg_sl ([.ref (h0), .int (nI (xx)), .int (nI (kk)), .int (nI (ce))]) ++ List.replicate (4 - (lg_sl ([.ref (h0), .int (nI (xx)), .int (nI (kk)), .int (nI (ce))])).length) Slot.unset).toArray = ls at hl ⊢
  have hl : lv_has ls 4 [(0, .ref (h0)), (1, .int (nI (xx))), (2, .int (nI (kk))), (3, .int (nI (ce)))] := hl
  generalize ([.ref (h0), .int (nI (xx)), .int (nI (kk)), .int (nI (ce))] : List Value).toArray = args at B hts hw ⊢
  have hD : va_D (fun q => q = h0) [(h0, .inr (1, [.int (er), .long (lN (pp)), .long (lN (qq)), .long (lN (gg))]))] := one_D
  obtain ⟨A, hAe⟩ : ∃ A : Nat → Prop, A = fun q => q = h0 := ⟨_, rfl⟩
  rw [← hAe] at hD
  have hA0 : A h0 := by rw [hAe]
  have hS : va_S A s.heap s.heap [] := va_S.rf
  have hp5 : 5 ≤ pp := by have := G.1; have := G.2.2.1.1; omega
  have hp := G.2.2.2.2.2.2
  have hq2 : 2 ≤ qq := G.2.2.1.1
  have hq : qq < 2 ^ 31 := by have := G.1; omega
  have hgp : gg < pp := G.2.2.2.2.1
  have hab : ce * xx < 2 ^ 62 := mulb (by omega) (by omega)
  refine lv_aload_n hx hb d_M_answer_0 rfl (lv_at hl 0 rfl) ?_
  refine lv_iconst (v := nI (0)) hx hb d_M_answer_1 (by decide) ?_
  refine va_put (D := D) (ci := 1) (v := .int (nI (0))) (ty := .int) (C := R_M) (T := F_M) (N := 4) hx hb hw i_M t_M t_M_ok n_M hown hK hP hD hS 0 rfl rfl 0 (by decide) (hw _ fl_M_25) (fun _ h9 => h9) rfl (by decide +kernel) rfl rfl (Nat.le_of_ble_eq_true rfl) d_M_answer_2 (fun H locs hP hD hS => ?_)
  have hP : va_P D classes [(h0, .inr (1, [.int (nI (0)), .long (lN (pp)), .long (lN (qq)), .long (lN (gg))]))] H := hP
  have hD : va_D A [(h0, .inr (1, [.int (nI (0)), .long (lN (pp)), .long (lN (qq)), .long (lN (gg))]))] := hD
  refine lv_aload_n hx hb d_M_answer_5 rfl (lv_at hl 0 rfl) ?_
  refine lv_aload_n hx hb d_M_answer_6 rfl (lv_at hl 0 rfl) ?_
  refine lv_iload_n hx hb d_M_answer_7 rfl (lv_at hl 1 rfl) ?_
  refine lv_i2l (v := lN (xx)) hx hb d_M_answer_8 (nI_l (by omega)) ?_
  refine zV (b := h0) (As := [.long (lN (xx))]) (rest := [.ref (h0)]) ⟨hx, hb, hml, hown, hw⟩ (c_M_isExponent l D h0 (nI (0)) pp qq gg (by omega) hq (lN (xx))) OM_B (OM_at hP hK) (va_recv hK hP (ci := 1) (q0 := 0) rfl rfl) g_M_54 rfl rfl pd_M_isExponent ⟨Nat.le_of_ble_eq_true rfl, Nat.le_of_ble_eq_true rfl⟩ hl.1 rfl (Nat.le_of_ble_eq_true rfl) d_M_answer_9 ⟨Nat.zero_le _, Nat.zero_le _⟩ ?_
  refine W.eq (g2 := F0 m 12 ls [.int (bI (res (lN (xx)).toInt qq)), .ref (h0)]) rfl ?_
  refine tI (1) (bI_t (resl (by omega) hq)) ?_
  refine lv_if_eq (tgt := 33) hx hb d_M_answer_12 (by decide) (fun z => absurd z (by decide)) (fun _ => ?_)
  refine lv_aload_n hx hb d_M_answer_15 rfl (lv_at hl 0 rfl) ?_
  refine lv_iload_n hx hb d_M_answer_16 rfl (lv_at hl 2 rfl) ?_
  refine lv_i2l (v := lN (kk)) hx hb d_M_answer_17 (nI_l (by omega)) ?_
  refine zV (b := h0) (As := [.long (lN (kk))]) (rest := [.ref (h0)]) ⟨hx, hb, hml, hown, hw⟩ (c_M_isExponent l D h0 (nI (0)) pp qq gg (by omega) hq (lN (kk))) OM_B (OM_at hP hK) (va_recv hK hP (ci := 1) (q0 := 0) rfl rfl) g_M_54 rfl rfl pd_M_isExponent ⟨Nat.le_of_ble_eq_true rfl, Nat.le_of_ble_eq_true rfl⟩ hl.1 rfl (Nat.le_of_ble_eq_true rfl) d_M_answer_18 ⟨Nat.zero_le _, Nat.zero_le _⟩ ?_
  refine W.eq (g2 := F0 m 21 ls [.int (bI (res (lN (kk)).toInt qq)), .ref (h0)]) rfl ?_
  refine tI (1) (bI_t (resl (by omega) hq)) ?_
  refine lv_if_eq (tgt := 33) hx hb d_M_answer_21 (by decide) (fun z => absurd z (by decide)) (fun _ => ?_)
  refine lv_aload_n hx hb d_M_answer_24 rfl (lv_at hl 0 rfl) ?_
  refine lv_iload_n hx hb d_M_answer_25 rfl (lv_at hl 3 rfl) ?_
  refine lv_i2l (v := lN (ce)) hx hb d_M_answer_26 (nI_l (by omega)) ?_
  refine zV (b := h0) (As := [.long (lN (ce))]) (rest := [.ref (h0)]) ⟨hx, hb, hml, hown, hw⟩ (c_M_isExponent l D h0 (nI (0)) pp qq gg (by omega) hq (lN (ce))) OM_B (OM_at hP hK) (va_recv hK hP (ci := 1) (q0 := 0) rfl rfl) g_M_54 rfl rfl pd_M_isExponent ⟨Nat.le_of_ble_eq_true rfl, Nat.le_of_ble_eq_true rfl⟩ hl.1 rfl (Nat.le_of_ble_eq_true rfl) d_M_answer_27 ⟨Nat.zero_le _, Nat.zero_le _⟩ ?_
  refine W.eq (g2 := F0 m 30 ls [.int (bI (res (lN (ce)).toInt qq)), .ref (h0)]) rfl ?_
  refine tI (1) (bI_t (resl (by omega) hq)) ?_
  refine lv_if_ne (tgt := 37) hx hb d_M_answer_30 (by decide) (fun _ => ?_) (fun z => absurd z (by decide))
  refine lv_iconst (v := nI (0)) hx hb d_M_answer_37 (by decide) ?_
  refine lv_iconst (v := nI (1)) hx hb d_M_answer_38 (by decide) ?_
  refine W.eq (g2 := F0 m 39 ls [.int (nI (1)), .int (0), .ref (h0)]) (by rw [nI_0]) ?_
  refine zV (b := h0) (As := [.int (0), .int (nI (1))]) (rest := []) ⟨hx, hb, hml, hown, hw⟩ (c_M_fails_no l D h0 (nI (0)) pp qq gg nI_0 (nI (1))) OM_B (OM_at hP hK) (va_recv hK hP (ci := 1) (q0 := 0) rfl rfl) g_M_44 rfl rfl pd_M_fails ⟨Nat.le_of_ble_eq_true rfl, Nat.le_of_ble_eq_true rfl⟩ hl.1 rfl (Nat.le_of_ble_eq_true rfl) d_M_answer_39 ⟨Nat.zero_le _, Nat.zero_le _⟩ ?_
  refine W.eq (g2 := F0 m 42 ls [.int (nI (0))]) rfl ?_
  refine lv_if_eq (tgt := 49) hx hb d_M_answer_42 (by decide) (fun _ => ?_) (fun z => absurd (rfl) z)
  refine lv_iload_n hx hb d_M_answer_49 rfl (lv_at hl 2 rfl) ?_
  refine lv_i2l (v := lN (kk)) hx hb d_M_answer_50 (nI_l (by omega)) ?_
  refine lv_iload_n hx hb d_M_answer_51 rfl (lv_at hl 3 rfl) ?_
  refine lv_i2l (v := lN (ce)) hx hb d_M_answer_52 (nI_l (by omega)) ?_
  refine lv_iload_n hx hb d_M_answer_53 rfl (lv_at hl 1 rfl) ?_
  refine lv_i2l (v := lN (xx)) hx hb d_M_answer_54 (nI_l (by omega)) ?_
  refine lv_lmul hx hb d_M_answer_55 ?_
  refine tL (lN (ce * xx)) (lN_mul _ _) ?_
  refine lv_ladd hx hb d_M_answer_56 ?_
  refine tL (lN (kk + ce * xx)) (lN_add _ _) ?_
  refine lv_aload_n hx hb d_M_answer_57 rfl (lv_at hl 0 rfl) ?_
  refine va_get (D := D) (ci := 1) (v := .long (lN (qq))) (C := R_M) (T := F_M) (N := 4) hx hb hw i_M hown hK hP 0 rfl rfl 2 (by decide) (hw _ fl_M_17) (fun _ h9 => h9) rfl d_M_answer_58 ?_
  refine lv_lrem hx hb d_M_answer_61 (by first | decide | exact nI_ne0 (by omega) (by omega) | exact lN_ne0 (by omega) (by omega)) ?_
  refine tL (lN ((kk + ce * xx) % qq)) (pk_lRem (by omega) (by omega) (by omega)) ?_
  refine lv_l2i (v := nI ((kk + ce * xx) % qq)) hx hb d_M_answer_62 (lN_i _) ?_
  rw [hAe] at hS
  exact W.iret hx hb hr (fun t ht _ => ⟨rfl, by rw [ht]; exact hP, hS.F ht⟩) hS.2.2 d_M_answer_63
set_option maxHeartbeats 4000000 in
set_option maxRecDepth 100000 in
theorem c_M_answer_bad (l : Launch) (D : va_G) (h0 : Nat) (er : Int32) (pp qq gg : Nat) (G : grp pp qq gg) (xv kv cv : Int32) (hno : ¬ (res xv.toInt qq ∧ res kv.toInt qq ∧ res cv.toInt qq)) : Met l y_M_answer (k_M_answer :: wall) { frames := 2, cells := 0, slots := 0, locals := 53 } (zP [.ref (h0), .int (xv), .int (kv), .int (cv)] (OM D h0 er (lN (pp)) (lN (qq)) (lN (gg)))) (zW (some (.int (nI (0)))) D [(h0, .inr (1, [.int (nI (1)), .long (lN (pp)), .long (lN (qq)), .long (lN (gg))]))] h0) 0 0 (fun q => q = h0) := by
  refine Met.ofW (cc := b_M_answer) (maxL := 4) (ret := (some .int)) (by decide) rfl ?_
  intro p e s m args below meth c s₁ B hml hv
  obtain ⟨hv, hP, hK⟩ := hv
  subst hv
  have hx := B.exec
  have hb := B.bytes
  have hr := B.returns
  have hts := atoms_spec (ws := k_M_answer :: wall) B.pre
  have hw : ∀ w ∈ wall, w.before _ s = true := fun w h => hts w (List.mem_cons_of_mem _ h)
  have hown : s.vm.findClass R_M = some m.cls := findClass_of_methodNamed B.named
  have hlocks := B.notSynchronized
  have hl := lv_entry ([.ref (h0), .int (xv), .int (kv), .int (cv)]) (n := 4) (Nat.le_of_ble_eq_true rfl)
  rw [lg_entry_eq]
  generalize (lg_sl ([.ref (h0), .int (xv), .int (kv), .int (cv)]) ++ List.replicate (4 - (lg_sl ([.ref (h0), .int (xv), .int (kv), .int (cv)])).length) Slot.unset).toArray = ls at hl ⊢
  have hl : lv_has ls 4 [(0, .ref (h0)), (1, .int (xv)), (2, .int (kv)), (3, .int (cv))] := hl
  generalize ([.ref (h0), .int (xv), .int (kv), .int (cv)] : List Value).toArray = args at B hts hw ⊢
  have hD : va_D (fun q => q = h0) [(h0, .inr (1, [.int (er), .long (lN (pp)), .long (lN (qq)), .long (lN (gg))]))] := one_D
  obtain ⟨A, hAe⟩ : ∃ A : Nat → Prop, A = fun q => q = h0 := ⟨_, rfl⟩
  rw [← hAe] at hD
  have hA0 : A h0 := by rw [hAe]
  have hS : va_S A s.heap s.heap [] := va_S.rf
  have hp5 : 5 ≤ pp := by have := G.1; have := G.2.2.1.1; omega
  have hp := G.2.2.2.2.2.2
  have hq2 : 2 ≤ qq := G.2.2.1.1
  have hq : qq < 2 ^ 31 := by have := G.1; omega
  have hgp : gg < pp := G.2.2.2.2.1
  refine lv_aload_n hx hb d_M_answer_0 rfl (lv_at hl 0 rfl) ?_
  refine lv_iconst (v := nI (0)) hx hb d_M_answer_1 (by decide) ?_
  refine va_put (D := D) (ci := 1) (v := .int (nI (0))) (ty := .int) (C := R_M) (T := F_M) (N := 4) hx hb hw i_M t_M t_M_ok n_M hown hK hP hD hS 0 rfl rfl 0 (by decide) (hw _ fl_M_25) (fun _ h9 => h9) rfl (by decide +kernel) rfl rfl (Nat.le_of_ble_eq_true rfl) d_M_answer_2 (fun H locs hP hD hS => ?_)
  have hP : va_P D classes [(h0, .inr (1, [.int (nI (0)), .long (lN (pp)), .long (lN (qq)), .long (lN (gg))]))] H := hP
  have hD : va_D A [(h0, .inr (1, [.int (nI (0)), .long (lN (pp)), .long (lN (qq)), .long (lN (gg))]))] := hD
  refine lv_aload_n hx hb d_M_answer_5 rfl (lv_at hl 0 rfl) ?_
  refine lv_aload_n hx hb d_M_answer_6 rfl (lv_at hl 0 rfl) ?_
  refine lv_iload_n hx hb d_M_answer_7 rfl (lv_at hl 1 rfl) ?_
  refine lv_i2l (v := (xv).toInt64) hx hb d_M_answer_8 (rfl) ?_
  refine zV (b := h0) (As := [.long ((xv).toInt64)]) (rest := [.ref (h0)]) ⟨hx, hb, hml, hown, hw⟩ (c_M_isExponent l D h0 (nI (0)) pp qq gg (by omega) hq ((xv).toInt64)) OM_B (OM_at hP hK) (va_recv hK hP (ci := 1) (q0 := 0) rfl rfl) g_M_54 rfl rfl pd_M_isExponent ⟨Nat.le_of_ble_eq_true rfl, Nat.le_of_ble_eq_true rfl⟩ hl.1 rfl (Nat.le_of_ble_eq_true rfl) d_M_answer_9 ⟨Nat.zero_le _, Nat.zero_le _⟩ ?_
  refine W.eq (g2 := F0 m 12 ls [.int (bI (res ((xv).toInt64).toInt qq)), .ref (h0)]) rfl ?_
  refine tI (bI (res xv.toInt qq)) (by rw [i2lI]) ?_
  by_cases h1 : res xv.toInt qq
  · refine tI (1) (bI_t h1) ?_
    refine lv_if_eq (tgt := 33) hx hb d_M_answer_12 (by decide) (fun z => absurd z (by decide)) (fun _ => ?_)
    refine lv_aload_n hx hb d_M_answer_15 rfl (lv_at hl 0 rfl) ?_
    refine lv_iload_n hx hb d_M_answer_16 rfl (lv_at hl 2 rfl) ?_
    refine lv_i2l (v := (kv).toInt64) hx hb d_M_answer_17 (rfl) ?_
    refine zV (b := h0) (As := [.long ((kv).toInt64)]) (rest := [.ref (h0)]) ⟨hx, hb, hml, hown, hw⟩ (c_M_isExponent l D h0 (nI (0)) pp qq gg (by omega) hq ((kv).toInt64)) OM_B (OM_at hP hK) (va_recv hK hP (ci := 1) (q0 := 0) rfl rfl) g_M_54 rfl rfl pd_M_isExponent ⟨Nat.le_of_ble_eq_true rfl, Nat.le_of_ble_eq_true rfl⟩ hl.1 rfl (Nat.le_of_ble_eq_true rfl) d_M_answer_18 ⟨Nat.zero_le _, Nat.zero_le _⟩ ?_
    refine W.eq (g2 := F0 m 21 ls [.int (bI (res ((kv).toInt64).toInt qq)), .ref (h0)]) rfl ?_
    refine tI (bI (res kv.toInt qq)) (by rw [i2lI]) ?_
    by_cases h2 : res kv.toInt qq
    · refine tI (1) (bI_t h2) ?_
      refine lv_if_eq (tgt := 33) hx hb d_M_answer_21 (by decide) (fun z => absurd z (by decide)) (fun _ => ?_)
      refine lv_aload_n hx hb d_M_answer_24 rfl (lv_at hl 0 rfl) ?_
      refine lv_iload_n hx hb d_M_answer_25 rfl (lv_at hl 3 rfl) ?_
      refine lv_i2l (v := (cv).toInt64) hx hb d_M_answer_26 (rfl) ?_
      refine zV (b := h0) (As := [.long ((cv).toInt64)]) (rest := [.ref (h0)]) ⟨hx, hb, hml, hown, hw⟩ (c_M_isExponent l D h0 (nI (0)) pp qq gg (by omega) hq ((cv).toInt64)) OM_B (OM_at hP hK) (va_recv hK hP (ci := 1) (q0 := 0) rfl rfl) g_M_54 rfl rfl pd_M_isExponent ⟨Nat.le_of_ble_eq_true rfl, Nat.le_of_ble_eq_true rfl⟩ hl.1 rfl (Nat.le_of_ble_eq_true rfl) d_M_answer_27 ⟨Nat.zero_le _, Nat.zero_le _⟩ ?_
      refine W.eq (g2 := F0 m 30 ls [.int (bI (res ((cv).toInt64).toInt qq)), .ref (h0)]) rfl ?_
      refine tI (bI (res cv.toInt qq)) (by rw [i2lI]) ?_
      refine tI (0) (bI_f (fun z => hno ⟨h1, h2, z⟩)) ?_
      refine lv_if_ne (tgt := 37) hx hb d_M_answer_30 (by decide) (fun z => absurd (rfl) z) (fun _ => ?_)
      refine lv_iconst (v := nI (1)) hx hb d_M_answer_33 (by decide) ?_
      refine lv_goto (tgt := 38) hx hb d_M_answer_34 (by decide) ?_
      refine lv_iconst (v := nI (1)) hx hb d_M_answer_38 (by decide) ?_
      refine W.eq (g2 := F0 m 39 ls [.int (nI (1)), .int (1), .ref (h0)]) (by rw [nI_one]) ?_
      refine zVW (b := h0) (As := [.int (1), .int (nI (1))]) (rest := []) ⟨hx, hb, hml, hown, hw⟩ (c_M_fails_yes l D h0 (nI (0)) pp qq gg nI_0 (nI (1)) (by decide)) OM_B (OM_at hP hK) (va_recv hK hP (ci := 1) (q0 := 0) rfl rfl) g_M_44 rfl rfl pd_M_fails ⟨Nat.le_of_ble_eq_true rfl, Nat.le_of_ble_eq_true rfl⟩ hl.1 rfl (Nat.le_of_ble_eq_true rfl) d_M_answer_39 ⟨Nat.zero_le _, Nat.zero_le _⟩ hS hA0 (fun H locs hP hz hk hS => ?_)
      have hP : va_P D classes [(h0, .inr (1, [.int (nI (1)), .long (lN (pp)), .long (lN (qq)), .long (lN (gg))]))] H := hP
      refine W.eq (g2 := F0 m 42 ls [.int (nI (1))]) rfl ?_
      refine lv_if_eq (tgt := 49) hx hb d_M_answer_42 (by decide) (fun z => absurd z (by decide)) (fun _ => ?_)
      refine lv_iconst (v := nI (0)) hx hb d_M_answer_45 (by decide) ?_
      refine lv_goto (tgt := 63) hx hb d_M_answer_46 (by decide) ?_
      rw [hAe] at hS
      exact W.iret hx hb hr (fun t ht _ => ⟨rfl, by rw [ht]; exact hP, hS.F ht⟩) hS.2.2 d_M_answer_63
    · refine tI (0) (bI_f h2) ?_
      refine lv_if_eq (tgt := 33) hx hb d_M_answer_21 (by decide) (fun _ => ?_) (fun z => absurd (rfl) z)
      refine lv_iconst (v := nI (1)) hx hb d_M_answer_33 (by decide) ?_
      refine lv_goto (tgt := 38) hx hb d_M_answer_34 (by decide) ?_
      refine lv_iconst (v := nI (1)) hx hb d_M_answer_38 (by decide) ?_
      refine W.eq (g2 := F0 m 39 ls [.int (nI (1)), .int (1), .ref (h0)]) (by rw [nI_one]) ?_
      refine zVW (b := h0) (As := [.int (1), .int (nI (1))]) (rest := []) ⟨hx, hb, hml, hown, hw⟩ (c_M_fails_yes l D h0 (nI (0)) pp qq gg nI_0 (nI (1)) (by decide)) OM_B (OM_at hP hK) (va_recv hK hP (ci := 1) (q0 := 0) rfl rfl) g_M_44 rfl rfl pd_M_fails ⟨Nat.le_of_ble_eq_true rfl, Nat.le_of_ble_eq_true rfl⟩ hl.1 rfl (Nat.le_of_ble_eq_true rfl) d_M_answer_39 ⟨Nat.zero_le _, Nat.zero_le _⟩ hS hA0 (fun H locs hP hz hk hS => ?_)
      have hP : va_P D classes [(h0, .inr (1, [.int (nI (1)), .long (lN (pp)), .long (lN (qq)), .long (lN (gg))]))] H := hP
      refine W.eq (g2 := F0 m 42 ls [.int (nI (1))]) rfl ?_
      refine lv_if_eq (tgt := 49) hx hb d_M_answer_42 (by decide) (fun z => absurd z (by decide)) (fun _ => ?_)
      refine lv_iconst (v := nI (0)) hx hb d_M_answer_45 (by decide) ?_
      refine lv_goto (tgt := 63) hx hb d_M_answer_46 (by decide) ?_
      rw [hAe] at hS
      exact W.iret hx hb hr (fun t ht _ => ⟨rfl, by rw [ht]; exact hP, hS.F ht⟩) hS.2.2 d_M_answer_63
  · refine tI (0) (bI_f h1) ?_
    refine lv_if_eq (tgt := 33) hx hb d_M_answer_12 (by decide) (fun _ => ?_) (fun z => absurd (rfl) z)
    refine lv_iconst (v := nI (1)) hx hb d_M_answer_33 (by decide) ?_
    refine lv_goto (tgt := 38) hx hb d_M_answer_34 (by decide) ?_
    refine lv_iconst (v := nI (1)) hx hb d_M_answer_38 (by decide) ?_
    refine W.eq (g2 := F0 m 39 ls [.int (nI (1)), .int (1), .ref (h0)]) (by rw [nI_one]) ?_
    refine zVW (b := h0) (As := [.int (1), .int (nI (1))]) (rest := []) ⟨hx, hb, hml, hown, hw⟩ (c_M_fails_yes l D h0 (nI (0)) pp qq gg nI_0 (nI (1)) (by decide)) OM_B (OM_at hP hK) (va_recv hK hP (ci := 1) (q0 := 0) rfl rfl) g_M_44 rfl rfl pd_M_fails ⟨Nat.le_of_ble_eq_true rfl, Nat.le_of_ble_eq_true rfl⟩ hl.1 rfl (Nat.le_of_ble_eq_true rfl) d_M_answer_39 ⟨Nat.zero_le _, Nat.zero_le _⟩ hS hA0 (fun H locs hP hz hk hS => ?_)
    have hP : va_P D classes [(h0, .inr (1, [.int (nI (1)), .long (lN (pp)), .long (lN (qq)), .long (lN (gg))]))] H := hP
    refine W.eq (g2 := F0 m 42 ls [.int (nI (1))]) rfl ?_
    refine lv_if_eq (tgt := 49) hx hb d_M_answer_42 (by decide) (fun z => absurd z (by decide)) (fun _ => ?_)
    refine lv_iconst (v := nI (0)) hx hb d_M_answer_45 (by decide) ?_
    refine lv_goto (tgt := 63) hx hb d_M_answer_46 (by decide) ?_
    rw [hAe] at hS
    exact W.iret hx hb hr (fun t ht _ => ⟨rfl, by rw [ht]; exact hP, hS.F ht⟩) hS.2.2 d_M_answer_63
set_option maxHeartbeats 4000000 in
set_option maxRecDepth 100000 in
theorem c_M_feign_ok (l : Launch) (D : va_G) (h0 : Nat) (er : Int32) (pp qq gg : Nat) (G : grp pp qq gg) (yy ce ze : Nat) (h1 : yy < pp) (hm : mem (nI (yy)).toInt pp qq) (h2 : ce < qq) (h3 : ze < qq) : Met l y_M_feign (k_M_feign :: wall) { frames := 2, cells := 0, slots := 0, locals := 53 } (zP [.ref (h0), .int (nI (yy)), .int (nI (ce)), .int (nI (ze))] (OM D h0 er (lN (pp)) (lN (qq)) (lN (gg)))) (zW (some (.int (nI ((gg ^ ze % pp) * (yy ^ (qq - ce) % pp) % pp)))) D [(h0, .inr (1, [.int (nI (0)), .long (lN (pp)), .long (lN (qq)), .long (lN (gg))]))] h0) 0 0 (fun q => q = h0) := by
  refine Met.ofW (cc := b_M_feign) (maxL := 4) (ret := (some .int)) (by decide) rfl ?_
  intro p e s m args below meth c s₁ B hml hv
  obtain ⟨hv, hP, hK⟩ := hv
  subst hv
  have hx := B.exec
  have hb := B.bytes
  have hr := B.returns
  have hts := atoms_spec (ws := k_M_feign :: wall) B.pre
  have hw : ∀ w ∈ wall, w.before _ s = true := fun w h => hts w (List.mem_cons_of_mem _ h)
  have hown : s.vm.findClass R_M = some m.cls := findClass_of_methodNamed B.named
  have hlocks := B.notSynchronized
  have hl := lv_entry ([.ref (h0), .int (nI (yy)), .int (nI (ce)), .int (nI (ze))]) (n := 4) (Nat.le_of_ble_eq_true rfl)
  rw [lg_entry_eq]
  generalize (lg_sl ([.ref (h0), .int (nI (yy)), .int (nI (ce)), .int (nI (ze))]) ++ List.replicate (4 - (lg_sl ([.ref (h0), .int (nI (yy)), .int (nI (ce)), .int (nI (ze))])).length) Slot.unset).toArray = ls at hl ⊢
  have hl : lv_has ls 4 [(0, .ref (h0)), (1, .int (nI (yy))), (2, .int (nI (ce))), (3, .int (nI (ze)))] := hl
  generalize ([.ref (h0), .int (nI (yy)), .int (nI (ce)), .int (nI (ze))] : List Value).toArray = args at B hts hw ⊢
  have hD : va_D (fun q => q = h0) [(h0, .inr (1, [.int (er), .long (lN (pp)), .long (lN (qq)), .long (lN (gg))]))] := one_D
  obtain ⟨A, hAe⟩ : ∃ A : Nat → Prop, A = fun q => q = h0 := ⟨_, rfl⟩
  rw [← hAe] at hD
  have hA0 : A h0 := by rw [hAe]
  have hS : va_S A s.heap s.heap [] := va_S.rf
  have hp5 : 5 ≤ pp := by have := G.1; have := G.2.2.1.1; omega
  have hp := G.2.2.2.2.2.2
  have hq2 : 2 ≤ qq := G.2.2.1.1
  have hq : qq < 2 ^ 31 := by have := G.1; omega
  have hgp : gg < pp := G.2.2.2.2.1
  obtain ⟨y1, y2, y3⟩ := mem_nat (by omega) hm
  have hin := feign_inv y3 (show ce ≤ qq by omega)
  have e1 : gg ^ ze % pp < pp := Nat.mod_lt _ (by omega)
  have e2 : yy ^ ce % pp < pp := Nat.mod_lt _ (by omega)
  have e3 : yy ^ (qq - ce) % pp < pp := Nat.mod_lt _ (by omega)
  have e4 : (gg ^ ze % pp) * (yy ^ (qq - ce) % pp) < 2 ^ 62 := mulb (by omega) (by omega)
  refine lv_aload_n hx hb d_M_feign_0 rfl (lv_at hl 0 rfl) ?_
  refine lv_iconst (v := nI (0)) hx hb d_M_feign_1 (by decide) ?_
  refine va_put (D := D) (ci := 1) (v := .int (nI (0))) (ty := .int) (C := R_M) (T := F_M) (N := 4) hx hb hw i_M t_M t_M_ok n_M hown hK hP hD hS 0 rfl rfl 0 (by decide) (hw _ fl_M_25) (fun _ h9 => h9) rfl (by decide +kernel) rfl rfl (Nat.le_of_ble_eq_true rfl) d_M_feign_2 (fun H locs hP hD hS => ?_)
  have hP : va_P D classes [(h0, .inr (1, [.int (nI (0)), .long (lN (pp)), .long (lN (qq)), .long (lN (gg))]))] H := hP
  have hD : va_D A [(h0, .inr (1, [.int (nI (0)), .long (lN (pp)), .long (lN (qq)), .long (lN (gg))]))] := hD
  refine lv_aload_n hx hb d_M_feign_5 rfl (lv_at hl 0 rfl) ?_
  refine lv_iload_n hx hb d_M_feign_6 rfl (lv_at hl 1 rfl) ?_
  refine lv_i2l (v := lN (yy)) hx hb d_M_feign_7 (nI_l (by omega)) ?_
  refine lv_aload_n hx hb d_M_feign_8 rfl (lv_at hl 0 rfl) ?_
  refine va_get (D := D) (ci := 1) (v := .long (lN (pp))) (C := R_M) (T := F_M) (N := 4) hx hb hw i_M hown hK hP 0 rfl rfl 1 (by decide) (hw _ fl_M_9) (fun _ h9 => h9) rfl d_M_feign_9 ?_
  refine lv_aload_n hx hb d_M_feign_12 rfl (lv_at hl 0 rfl) ?_
  refine va_get (D := D) (ci := 1) (v := .long (lN (qq))) (C := R_M) (T := F_M) (N := 4) hx hb hw i_M hown hK hP 0 rfl rfl 2 (by decide) (hw _ fl_M_17) (fun _ h9 => h9) rfl d_M_feign_13 ?_
  refine zS (As := [.long (lN (yy)), .long (lN (pp)), .long (lN (qq))]) (rest := [.ref (h0)]) ⟨hx, hb, hml, hown, hw⟩ (c_M_isMember l (lN (yy)) pp qq (by omega) hp (by omega)) g_M_41 rfl rfl pd_M_isMember ⟨Nat.le_of_ble_eq_true rfl, Nat.le_of_ble_eq_true rfl⟩ hl.1 rfl (Nat.le_of_ble_eq_true rfl) d_M_feign_16 ⟨Nat.zero_le _, Nat.zero_le _⟩ ?_
  refine W.eq (g2 := F0 m 19 ls [.int (bI (mem (lN (yy)).toInt pp qq)), .ref (h0)]) rfl ?_
  refine tI (1) (bI_t (memI (by omega) hm)) ?_
  refine lv_if_eq (tgt := 40) hx hb d_M_feign_19 (by decide) (fun z => absurd z (by decide)) (fun _ => ?_)
  refine lv_aload_n hx hb d_M_feign_22 rfl (lv_at hl 0 rfl) ?_
  refine lv_iload_n hx hb d_M_feign_23 rfl (lv_at hl 2 rfl) ?_
  refine lv_i2l (v := lN (ce)) hx hb d_M_feign_24 (nI_l (by omega)) ?_
  refine zV (b := h0) (As := [.long (lN (ce))]) (rest := [.ref (h0)]) ⟨hx, hb, hml, hown, hw⟩ (c_M_isExponent l D h0 (nI (0)) pp qq gg (by omega) hq (lN (ce))) OM_B (OM_at hP hK) (va_recv hK hP (ci := 1) (q0 := 0) rfl rfl) g_M_54 rfl rfl pd_M_isExponent ⟨Nat.le_of_ble_eq_true rfl, Nat.le_of_ble_eq_true rfl⟩ hl.1 rfl (Nat.le_of_ble_eq_true rfl) d_M_feign_25 ⟨Nat.zero_le _, Nat.zero_le _⟩ ?_
  refine W.eq (g2 := F0 m 28 ls [.int (bI (res (lN (ce)).toInt qq)), .ref (h0)]) rfl ?_
  refine tI (1) (bI_t (resl (by omega) hq)) ?_
  refine lv_if_eq (tgt := 40) hx hb d_M_feign_28 (by decide) (fun z => absurd z (by decide)) (fun _ => ?_)
  refine lv_aload_n hx hb d_M_feign_31 rfl (lv_at hl 0 rfl) ?_
  refine lv_iload_n hx hb d_M_feign_32 rfl (lv_at hl 3 rfl) ?_
  refine lv_i2l (v := lN (ze)) hx hb d_M_feign_33 (nI_l (by omega)) ?_
  refine zV (b := h0) (As := [.long (lN (ze))]) (rest := [.ref (h0)]) ⟨hx, hb, hml, hown, hw⟩ (c_M_isExponent l D h0 (nI (0)) pp qq gg (by omega) hq (lN (ze))) OM_B (OM_at hP hK) (va_recv hK hP (ci := 1) (q0 := 0) rfl rfl) g_M_54 rfl rfl pd_M_isExponent ⟨Nat.le_of_ble_eq_true rfl, Nat.le_of_ble_eq_true rfl⟩ hl.1 rfl (Nat.le_of_ble_eq_true rfl) d_M_feign_34 ⟨Nat.zero_le _, Nat.zero_le _⟩ ?_
  refine W.eq (g2 := F0 m 37 ls [.int (bI (res (lN (ze)).toInt qq)), .ref (h0)]) rfl ?_
  refine tI (1) (bI_t (resl (by omega) hq)) ?_
  refine lv_if_ne (tgt := 44) hx hb d_M_feign_37 (by decide) (fun _ => ?_) (fun z => absurd z (by decide))
  refine lv_iconst (v := nI (0)) hx hb d_M_feign_44 (by decide) ?_
  refine lv_iconst (v := nI (1)) hx hb d_M_feign_45 (by decide) ?_
  refine W.eq (g2 := F0 m 46 ls [.int (nI (1)), .int (0), .ref (h0)]) (by rw [nI_0]) ?_
  refine zV (b := h0) (As := [.int (0), .int (nI (1))]) (rest := []) ⟨hx, hb, hml, hown, hw⟩ (c_M_fails_no l D h0 (nI (0)) pp qq gg nI_0 (nI (1))) OM_B (OM_at hP hK) (va_recv hK hP (ci := 1) (q0 := 0) rfl rfl) g_M_44 rfl rfl pd_M_fails ⟨Nat.le_of_ble_eq_true rfl, Nat.le_of_ble_eq_true rfl⟩ hl.1 rfl (Nat.le_of_ble_eq_true rfl) d_M_feign_46 ⟨Nat.zero_le _, Nat.zero_le _⟩ ?_
  refine W.eq (g2 := F0 m 49 ls [.int (nI (0))]) rfl ?_
  refine lv_if_eq (tgt := 56) hx hb d_M_feign_49 (by decide) (fun _ => ?_) (fun z => absurd (rfl) z)
  refine lv_aload_n hx hb d_M_feign_56 rfl (lv_at hl 0 rfl) ?_
  refine va_get (D := D) (ci := 1) (v := .long (lN (gg))) (C := R_M) (T := F_M) (N := 4) hx hb hw i_M hown hK hP 0 rfl rfl 3 (by decide) (hw _ fl_M_22) (fun _ h9 => h9) rfl d_M_feign_57 ?_
  refine lv_iload_n hx hb d_M_feign_60 rfl (lv_at hl 3 rfl) ?_
  refine lv_i2l (v := lN (ze)) hx hb d_M_feign_61 (nI_l (by omega)) ?_
  refine lv_aload_n hx hb d_M_feign_62 rfl (lv_at hl 0 rfl) ?_
  refine va_get (D := D) (ci := 1) (v := .long (lN (pp))) (C := R_M) (T := F_M) (N := 4) hx hb hw i_M hown hK hP 0 rfl rfl 1 (by decide) (hw _ fl_M_9) (fun _ h9 => h9) rfl d_M_feign_63 ?_
  refine zS (As := [.long (lN (gg)), .long (lN (ze)), .long (lN (pp))]) (rest := []) ⟨hx, hb, hml, hown, hw⟩ (c_M_power_JJJ l gg ze pp (by omega) (by omega) (by omega) hp) g_M_33 rfl rfl pd_M_power_JJJ ⟨Nat.le_of_ble_eq_true rfl, Nat.le_of_ble_eq_true rfl⟩ hl.1 rfl (Nat.le_of_ble_eq_true rfl) d_M_feign_66 ⟨Nat.zero_le _, Nat.zero_le _⟩ ?_
  refine W.eq (g2 := F0 m 69 ls [.long (lN (gg ^ ze % pp))]) rfl ?_
  refine lv_iload_n hx hb d_M_feign_69 rfl (lv_at hl 1 rfl) ?_
  refine lv_i2l (v := lN (yy)) hx hb d_M_feign_70 (nI_l (by omega)) ?_
  refine lv_iload_n hx hb d_M_feign_71 rfl (lv_at hl 2 rfl) ?_
  refine lv_i2l (v := lN (ce)) hx hb d_M_feign_72 (nI_l (by omega)) ?_
  refine lv_aload_n hx hb d_M_feign_73 rfl (lv_at hl 0 rfl) ?_
  refine va_get (D := D) (ci := 1) (v := .long (lN (pp))) (C := R_M) (T := F_M) (N := 4) hx hb hw i_M hown hK hP 0 rfl rfl 1 (by decide) (hw _ fl_M_9) (fun _ h9 => h9) rfl d_M_feign_74 ?_
  refine zS (As := [.long (lN (yy)), .long (lN (ce)), .long (lN (pp))]) (rest := [.long (lN (gg ^ ze % pp))]) ⟨hx, hb, hml, hown, hw⟩ (c_M_power_JJJ l yy ce pp (by omega) (by omega) (by omega) hp) g_M_33 rfl rfl pd_M_power_JJJ ⟨Nat.le_of_ble_eq_true rfl, Nat.le_of_ble_eq_true rfl⟩ hl.1 rfl (Nat.le_of_ble_eq_true rfl) d_M_feign_77 ⟨Nat.zero_le _, Nat.zero_le _⟩ ?_
  refine W.eq (g2 := F0 m 80 ls [.long (lN (yy ^ ce % pp)), .long (lN (gg ^ ze % pp))]) rfl ?_
  refine lv_aload_n hx hb d_M_feign_80 rfl (lv_at hl 0 rfl) ?_
  refine va_get (D := D) (ci := 1) (v := .long (lN (pp))) (C := R_M) (T := F_M) (N := 4) hx hb hw i_M hown hK hP 0 rfl rfl 1 (by decide) (hw _ fl_M_9) (fun _ h9 => h9) rfl d_M_feign_81 ?_
  refine zS (As := [.long (lN (yy ^ ce % pp)), .long (lN (pp))]) (rest := [.long (lN (gg ^ ze % pp))]) ⟨hx, hb, hml, hown, hw⟩ (c_M_inverse_JJ l (yy ^ ce % pp) pp (yy ^ (qq - ce) % pp) e2 (by omega) hp e3 hin) g_M_48 rfl rfl pd_M_inverse_JJ ⟨Nat.le_of_ble_eq_true rfl, Nat.le_of_ble_eq_true rfl⟩ hl.1 rfl (Nat.le_of_ble_eq_true rfl) d_M_feign_84 ⟨Nat.zero_le _, Nat.zero_le _⟩ ?_
  refine W.eq (g2 := F0 m 87 ls [.long (lN (yy ^ (qq - ce) % pp)), .long (lN (gg ^ ze % pp))]) rfl ?_
  refine lv_lmul hx hb d_M_feign_87 ?_
  refine tL (lN ((gg ^ ze % pp) * (yy ^ (qq - ce) % pp))) (lN_mul _ _) ?_
  refine lv_aload_n hx hb d_M_feign_88 rfl (lv_at hl 0 rfl) ?_
  refine va_get (D := D) (ci := 1) (v := .long (lN (pp))) (C := R_M) (T := F_M) (N := 4) hx hb hw i_M hown hK hP 0 rfl rfl 1 (by decide) (hw _ fl_M_9) (fun _ h9 => h9) rfl d_M_feign_89 ?_
  refine lv_lrem hx hb d_M_feign_92 (by first | decide | exact nI_ne0 (by omega) (by omega) | exact lN_ne0 (by omega) (by omega)) ?_
  refine tL (lN (((gg ^ ze % pp) * (yy ^ (qq - ce) % pp)) % pp)) (pk_lRem (by omega) (by omega) (by omega)) ?_
  refine lv_l2i (v := nI (((gg ^ ze % pp) * (yy ^ (qq - ce) % pp)) % pp)) hx hb d_M_feign_93 (lN_i _) ?_
  rw [hAe] at hS
  exact W.iret hx hb hr (fun t ht _ => ⟨rfl, by rw [ht]; exact hP, hS.F ht⟩) hS.2.2 d_M_feign_94
set_option maxHeartbeats 4000000 in
set_option maxRecDepth 100000 in
theorem c_M_feign_bad (l : Launch) (D : va_G) (h0 : Nat) (er : Int32) (pp qq gg : Nat) (G : grp pp qq gg) (yv cv zv : Int32) (hno : ¬ (mem yv.toInt pp qq ∧ res cv.toInt qq ∧ res zv.toInt qq)) : Met l y_M_feign (k_M_feign :: wall) { frames := 2, cells := 0, slots := 0, locals := 53 } (zP [.ref (h0), .int (yv), .int (cv), .int (zv)] (OM D h0 er (lN (pp)) (lN (qq)) (lN (gg)))) (zW (some (.int (nI (0)))) D [(h0, .inr (1, [.int (nI (1)), .long (lN (pp)), .long (lN (qq)), .long (lN (gg))]))] h0) 0 0 (fun q => q = h0) := by
  refine Met.ofW (cc := b_M_feign) (maxL := 4) (ret := (some .int)) (by decide) rfl ?_
  intro p e s m args below meth c s₁ B hml hv
  obtain ⟨hv, hP, hK⟩ := hv
  subst hv
  have hx := B.exec
  have hb := B.bytes
  have hr := B.returns
  have hts := atoms_spec (ws := k_M_feign :: wall) B.pre
  have hw : ∀ w ∈ wall, w.before _ s = true := fun w h => hts w (List.mem_cons_of_mem _ h)
  have hown : s.vm.findClass R_M = some m.cls := findClass_of_methodNamed B.named
  have hlocks := B.notSynchronized
  have hl := lv_entry ([.ref (h0), .int (yv), .int (cv), .int (zv)]) (n := 4) (Nat.le_of_ble_eq_true rfl)
  rw [lg_entry_eq]
  generalize (lg_sl ([.ref (h0), .int (yv), .int (cv), .int (zv)]) ++ List.replicate (4 - (lg_sl ([.ref (h0), .int (yv), .int (cv), .int (zv)])).length) Slot.unset).toArray = ls at hl ⊢
  have hl : lv_has ls 4 [(0, .ref (h0)), (1, .int (yv)), (2, .int (cv)), (3, .int (zv))] := hl
  generalize ([.ref (h0), .int (yv), .int (cv), .int (zv)] : List Value).toArray = args at B hts hw ⊢
  have hD : va_D (fun q => q = h0) [(h0, .inr (1, [.int (er), .long (lN (pp)), .long (lN (qq)), .long (lN (gg))]))] := one_D
  obtain ⟨A, hAe⟩ : ∃ A : Nat → Prop, A = fun q => q = h0 := ⟨_, rfl⟩
  rw [← hAe] at hD
  have hA0 : A h0 := by rw [hAe]
  have hS : va_S A s.heap s.heap [] := va_S.rf
  have hp5 : 5 ≤ pp := by have := G.1; have := G.2.2.1.1; omega
  have hp := G.2.2.2.2.2.2
  have hq2 : 2 ≤ qq := G.2.2.1.1
  have hq : qq < 2 ^ 31 := by have := G.1; omega
  have hgp : gg < pp := G.2.2.2.2.1
  refine lv_aload_n hx hb d_M_feign_0 rfl (lv_at hl 0 rfl) ?_
  refine lv_iconst (v := nI (0)) hx hb d_M_feign_1 (by decide) ?_
  refine va_put (D := D) (ci := 1) (v := .int (nI (0))) (ty := .int) (C := R_M) (T := F_M) (N := 4) hx hb hw i_M t_M t_M_ok n_M hown hK hP hD hS 0 rfl rfl 0 (by decide) (hw _ fl_M_25) (fun _ h9 => h9) rfl (by decide +kernel) rfl rfl (Nat.le_of_ble_eq_true rfl) d_M_feign_2 (fun H locs hP hD hS => ?_)
  have hP : va_P D classes [(h0, .inr (1, [.int (nI (0)), .long (lN (pp)), .long (lN (qq)), .long (lN (gg))]))] H := hP
  have hD : va_D A [(h0, .inr (1, [.int (nI (0)), .long (lN (pp)), .long (lN (qq)), .long (lN (gg))]))] := hD
  refine lv_aload_n hx hb d_M_feign_5 rfl (lv_at hl 0 rfl) ?_
  refine lv_iload_n hx hb d_M_feign_6 rfl (lv_at hl 1 rfl) ?_
  refine lv_i2l (v := (yv).toInt64) hx hb d_M_feign_7 (rfl) ?_
  refine lv_aload_n hx hb d_M_feign_8 rfl (lv_at hl 0 rfl) ?_
  refine va_get (D := D) (ci := 1) (v := .long (lN (pp))) (C := R_M) (T := F_M) (N := 4) hx hb hw i_M hown hK hP 0 rfl rfl 1 (by decide) (hw _ fl_M_9) (fun _ h9 => h9) rfl d_M_feign_9 ?_
  refine lv_aload_n hx hb d_M_feign_12 rfl (lv_at hl 0 rfl) ?_
  refine va_get (D := D) (ci := 1) (v := .long (lN (qq))) (C := R_M) (T := F_M) (N := 4) hx hb hw i_M hown hK hP 0 rfl rfl 2 (by decide) (hw _ fl_M_17) (fun _ h9 => h9) rfl d_M_feign_13 ?_
  refine zS (As := [.long ((yv).toInt64), .long (lN (pp)), .long (lN (qq))]) (rest := [.ref (h0)]) ⟨hx, hb, hml, hown, hw⟩ (c_M_isMember l ((yv).toInt64) pp qq (by omega) hp (by omega)) g_M_41 rfl rfl pd_M_isMember ⟨Nat.le_of_ble_eq_true rfl, Nat.le_of_ble_eq_true rfl⟩ hl.1 rfl (Nat.le_of_ble_eq_true rfl) d_M_feign_16 ⟨Nat.zero_le _, Nat.zero_le _⟩ ?_
  refine W.eq (g2 := F0 m 19 ls [.int (bI (mem ((yv).toInt64).toInt pp qq)), .ref (h0)]) rfl ?_
  refine tI (bI (mem yv.toInt pp qq)) (by rw [i2lI]) ?_
  by_cases h0y : mem yv.toInt pp qq
  · refine tI (1) (bI_t h0y) ?_
    refine lv_if_eq (tgt := 40) hx hb d_M_feign_19 (by decide) (fun z => absurd z (by decide)) (fun _ => ?_)
    refine lv_aload_n hx hb d_M_feign_22 rfl (lv_at hl 0 rfl) ?_
    refine lv_iload_n hx hb d_M_feign_23 rfl (lv_at hl 2 rfl) ?_
    refine lv_i2l (v := (cv).toInt64) hx hb d_M_feign_24 (rfl) ?_
    refine zV (b := h0) (As := [.long ((cv).toInt64)]) (rest := [.ref (h0)]) ⟨hx, hb, hml, hown, hw⟩ (c_M_isExponent l D h0 (nI (0)) pp qq gg (by omega) hq ((cv).toInt64)) OM_B (OM_at hP hK) (va_recv hK hP (ci := 1) (q0 := 0) rfl rfl) g_M_54 rfl rfl pd_M_isExponent ⟨Nat.le_of_ble_eq_true rfl, Nat.le_of_ble_eq_true rfl⟩ hl.1 rfl (Nat.le_of_ble_eq_true rfl) d_M_feign_25 ⟨Nat.zero_le _, Nat.zero_le _⟩ ?_
    refine W.eq (g2 := F0 m 28 ls [.int (bI (res ((cv).toInt64).toInt qq)), .ref (h0)]) rfl ?_
    refine tI (bI (res cv.toInt qq)) (by rw [i2lI]) ?_
    by_cases h1 : res cv.toInt qq
    · refine tI (1) (bI_t h1) ?_
      refine lv_if_eq (tgt := 40) hx hb d_M_feign_28 (by decide) (fun z => absurd z (by decide)) (fun _ => ?_)
      refine lv_aload_n hx hb d_M_feign_31 rfl (lv_at hl 0 rfl) ?_
      refine lv_iload_n hx hb d_M_feign_32 rfl (lv_at hl 3 rfl) ?_
      refine lv_i2l (v := (zv).toInt64) hx hb d_M_feign_33 (rfl) ?_
      refine zV (b := h0) (As := [.long ((zv).toInt64)]) (rest := [.ref (h0)]) ⟨hx, hb, hml, hown, hw⟩ (c_M_isExponent l D h0 (nI (0)) pp qq gg (by omega) hq ((zv).toInt64)) OM_B (OM_at hP hK) (va_recv hK hP (ci := 1) (q0 := 0) rfl rfl) g_M_54 rfl rfl pd_M_isExponent ⟨Nat.le_of_ble_eq_true rfl, Nat.le_of_ble_eq_true rfl⟩ hl.1 rfl (Nat.le_of_ble_eq_true rfl) d_M_feign_34 ⟨Nat.zero_le _, Nat.zero_le _⟩ ?_
      refine W.eq (g2 := F0 m 37 ls [.int (bI (res ((zv).toInt64).toInt qq)), .ref (h0)]) rfl ?_
      refine tI (bI (res zv.toInt qq)) (by rw [i2lI]) ?_
      refine tI (0) (bI_f (fun z => hno ⟨h0y, h1, z⟩)) ?_
      refine lv_if_ne (tgt := 44) hx hb d_M_feign_37 (by decide) (fun z => absurd (rfl) z) (fun _ => ?_)
      refine lv_iconst (v := nI (1)) hx hb d_M_feign_40 (by decide) ?_
      refine lv_goto (tgt := 45) hx hb d_M_feign_41 (by decide) ?_
      refine lv_iconst (v := nI (1)) hx hb d_M_feign_45 (by decide) ?_
      refine W.eq (g2 := F0 m 46 ls [.int (nI (1)), .int (1), .ref (h0)]) (by rw [nI_one]) ?_
      refine zVW (b := h0) (As := [.int (1), .int (nI (1))]) (rest := []) ⟨hx, hb, hml, hown, hw⟩ (c_M_fails_yes l D h0 (nI (0)) pp qq gg nI_0 (nI (1)) (by decide)) OM_B (OM_at hP hK) (va_recv hK hP (ci := 1) (q0 := 0) rfl rfl) g_M_44 rfl rfl pd_M_fails ⟨Nat.le_of_ble_eq_true rfl, Nat.le_of_ble_eq_true rfl⟩ hl.1 rfl (Nat.le_of_ble_eq_true rfl) d_M_feign_46 ⟨Nat.zero_le _, Nat.zero_le _⟩ hS hA0 (fun H locs hP hz hk hS => ?_)
      have hP : va_P D classes [(h0, .inr (1, [.int (nI (1)), .long (lN (pp)), .long (lN (qq)), .long (lN (gg))]))] H := hP
      refine W.eq (g2 := F0 m 49 ls [.int (nI (1))]) rfl ?_
      refine lv_if_eq (tgt := 56) hx hb d_M_feign_49 (by decide) (fun z => absurd z (by decide)) (fun _ => ?_)
      refine lv_iconst (v := nI (0)) hx hb d_M_feign_52 (by decide) ?_
      refine lv_goto (tgt := 94) hx hb d_M_feign_53 (by decide) ?_
      rw [hAe] at hS
      exact W.iret hx hb hr (fun t ht _ => ⟨rfl, by rw [ht]; exact hP, hS.F ht⟩) hS.2.2 d_M_feign_94
    · refine tI (0) (bI_f h1) ?_
      refine lv_if_eq (tgt := 40) hx hb d_M_feign_28 (by decide) (fun _ => ?_) (fun z => absurd (rfl) z)
      refine lv_iconst (v := nI (1)) hx hb d_M_feign_40 (by decide) ?_
      refine lv_goto (tgt := 45) hx hb d_M_feign_41 (by decide) ?_
      refine lv_iconst (v := nI (1)) hx hb d_M_feign_45 (by decide) ?_
      refine W.eq (g2 := F0 m 46 ls [.int (nI (1)), .int (1), .ref (h0)]) (by rw [nI_one]) ?_
      refine zVW (b := h0) (As := [.int (1), .int (nI (1))]) (rest := []) ⟨hx, hb, hml, hown, hw⟩ (c_M_fails_yes l D h0 (nI (0)) pp qq gg nI_0 (nI (1)) (by decide)) OM_B (OM_at hP hK) (va_recv hK hP (ci := 1) (q0 := 0) rfl rfl) g_M_44 rfl rfl pd_M_fails ⟨Nat.le_of_ble_eq_true rfl, Nat.le_of_ble_eq_true rfl⟩ hl.1 rfl (Nat.le_of_ble_eq_true rfl) d_M_feign_46 ⟨Nat.zero_le _, Nat.zero_le _⟩ hS hA0 (fun H locs hP hz hk hS => ?_)
      have hP : va_P D classes [(h0, .inr (1, [.int (nI (1)), .long (lN (pp)), .long (lN (qq)), .long (lN (gg))]))] H := hP
      refine W.eq (g2 := F0 m 49 ls [.int (nI (1))]) rfl ?_
      refine lv_if_eq (tgt := 56) hx hb d_M_feign_49 (by decide) (fun z => absurd z (by decide)) (fun _ => ?_)
      refine lv_iconst (v := nI (0)) hx hb d_M_feign_52 (by decide) ?_
      refine lv_goto (tgt := 94) hx hb d_M_feign_53 (by decide) ?_
      rw [hAe] at hS
      exact W.iret hx hb hr (fun t ht _ => ⟨rfl, by rw [ht]; exact hP, hS.F ht⟩) hS.2.2 d_M_feign_94
  · refine tI (0) (bI_f h0y) ?_
    refine lv_if_eq (tgt := 40) hx hb d_M_feign_19 (by decide) (fun _ => ?_) (fun z => absurd (rfl) z)
    refine lv_iconst (v := nI (1)) hx hb d_M_feign_40 (by decide) ?_
    refine lv_goto (tgt := 45) hx hb d_M_feign_41 (by decide) ?_
    refine lv_iconst (v := nI (1)) hx hb d_M_feign_45 (by decide) ?_
    refine W.eq (g2 := F0 m 46 ls [.int (nI (1)), .int (1), .ref (h0)]) (by rw [nI_one]) ?_
    refine zVW (b := h0) (As := [.int (1), .int (nI (1))]) (rest := []) ⟨hx, hb, hml, hown, hw⟩ (c_M_fails_yes l D h0 (nI (0)) pp qq gg nI_0 (nI (1)) (by decide)) OM_B (OM_at hP hK) (va_recv hK hP (ci := 1) (q0 := 0) rfl rfl) g_M_44 rfl rfl pd_M_fails ⟨Nat.le_of_ble_eq_true rfl, Nat.le_of_ble_eq_true rfl⟩ hl.1 rfl (Nat.le_of_ble_eq_true rfl) d_M_feign_46 ⟨Nat.zero_le _, Nat.zero_le _⟩ hS hA0 (fun H locs hP hz hk hS => ?_)
    have hP : va_P D classes [(h0, .inr (1, [.int (nI (1)), .long (lN (pp)), .long (lN (qq)), .long (lN (gg))]))] H := hP
    refine W.eq (g2 := F0 m 49 ls [.int (nI (1))]) rfl ?_
    refine lv_if_eq (tgt := 56) hx hb d_M_feign_49 (by decide) (fun z => absurd z (by decide)) (fun _ => ?_)
    refine lv_iconst (v := nI (0)) hx hb d_M_feign_52 (by decide) ?_
    refine lv_goto (tgt := 94) hx hb d_M_feign_53 (by decide) ?_
    rw [hAe] at hS
    exact W.iret hx hb hr (fun t ht _ => ⟨rfl, by rw [ht]; exact hP, hS.F ht⟩) hS.2.2 d_M_feign_94
set_option maxHeartbeats 4000000 in
set_option maxRecDepth 100000 in
theorem c_M_secret_ok (l : Launch) (D : va_G) (h0 : Nat) (er : Int32) (pp qq gg : Nat) (G : grp pp qq gg) (ce ze de we : Nat) (h1 : ce < qq) (h2 : ze < qq) (h3 : de < qq) (h4 : we < qq) (h5 : ce ≠ de) : Met l y_M_secret (k_M_secret :: wall) { frames := 2, cells := 0, slots := 0, locals := 53 } (zP [.ref (h0), .int (nI (ce)), .int (nI (ze)), .int (nI (de)), .int (nI (we))] (OM D h0 er (lN (pp)) (lN (qq)) (lN (gg)))) (zW (some (.int (nI ((ze + qq - we) % qq * (((ce + qq - de) % qq) ^ (qq - 2) % qq) % qq)))) D [(h0, .inr (1, [.int (nI (0)), .long (lN (pp)), .long (lN (qq)), .long (lN (gg))]))] h0) 0 0 (fun q => q = h0) := by
  refine Met.ofW (cc := b_M_secret) (maxL := 9) (ret := (some .int)) (by decide) rfl ?_
  intro p e s m args below meth c s₁ B hml hv
  obtain ⟨hv, hP, hK⟩ := hv
  subst hv
  have hx := B.exec
  have hb := B.bytes
  have hr := B.returns
  have hts := atoms_spec (ws := k_M_secret :: wall) B.pre
  have hw : ∀ w ∈ wall, w.before _ s = true := fun w h => hts w (List.mem_cons_of_mem _ h)
  have hown : s.vm.findClass R_M = some m.cls := findClass_of_methodNamed B.named
  have hlocks := B.notSynchronized
  have hl := lv_entry ([.ref (h0), .int (nI (ce)), .int (nI (ze)), .int (nI (de)), .int (nI (we))]) (n := 9) (Nat.le_of_ble_eq_true rfl)
  rw [lg_entry_eq]
  generalize (lg_sl ([.ref (h0), .int (nI (ce)), .int (nI (ze)), .int (nI (de)), .int (nI (we))]) ++ List.replicate (9 - (lg_sl ([.ref (h0), .int (nI (ce)), .int (nI (ze)), .int (nI (de)), .int (nI (we))])).length) Slot.unset).toArray = ls at hl ⊢
  have hl : lv_has ls 9 [(0, .ref (h0)), (1, .int (nI (ce))), (2, .int (nI (ze))), (3, .int (nI (de))), (4, .int (nI (we)))] := hl
  generalize ([.ref (h0), .int (nI (ce)), .int (nI (ze)), .int (nI (de)), .int (nI (we))] : List Value).toArray = args at B hts hw ⊢
  have hD : va_D (fun q => q = h0) [(h0, .inr (1, [.int (er), .long (lN (pp)), .long (lN (qq)), .long (lN (gg))]))] := one_D
  obtain ⟨A, hAe⟩ : ∃ A : Nat → Prop, A = fun q => q = h0 := ⟨_, rfl⟩
  rw [← hAe] at hD
  have hA0 : A h0 := by rw [hAe]
  have hS : va_S A s.heap s.heap [] := va_S.rf
  have hp5 : 5 ≤ pp := by have := G.1; have := G.2.2.1.1; omega
  have hp := G.2.2.2.2.2.2
  have hq2 : 2 ≤ qq := G.2.2.1.1
  have hq : qq < 2 ^ 31 := by have := G.1; omega
  have hgp : gg < pp := G.2.2.2.2.1
  have e1 : (ze + qq - we) % qq < qq := Nat.mod_lt _ (by omega)
  have e2 : (ce + qq - de) % qq < qq := Nat.mod_lt _ (by omega)
  have e3 : ((ce + qq - de) % qq) ^ (qq - 2) % qq < qq := Nat.mod_lt _ (by omega)
  have hin := inv_pow G.2.2.1 (diff_ne h1 h3 h5)
  have e4 : (ze + qq - we) % qq * (((ce + qq - de) % qq) ^ (qq - 2) % qq) < 2 ^ 62 := mulb (by omega) (by omega)
  refine lv_aload_n hx hb d_M_secret_0 rfl (lv_at hl 0 rfl) ?_
  refine lv_iconst (v := nI (0)) hx hb d_M_secret_1 (by decide) ?_
  refine va_put (D := D) (ci := 1) (v := .int (nI (0))) (ty := .int) (C := R_M) (T := F_M) (N := 4) hx hb hw i_M t_M t_M_ok n_M hown hK hP hD hS 0 rfl rfl 0 (by decide) (hw _ fl_M_25) (fun _ h9 => h9) rfl (by decide +kernel) rfl rfl (Nat.le_of_ble_eq_true rfl) d_M_secret_2 (fun H locs hP hD hS => ?_)
  have hP : va_P D classes [(h0, .inr (1, [.int (nI (0)), .long (lN (pp)), .long (lN (qq)), .long (lN (gg))]))] H := hP
  have hD : va_D A [(h0, .inr (1, [.int (nI (0)), .long (lN (pp)), .long (lN (qq)), .long (lN (gg))]))] := hD
  refine lv_aload_n hx hb d_M_secret_5 rfl (lv_at hl 0 rfl) ?_
  refine lv_aload_n hx hb d_M_secret_6 rfl (lv_at hl 0 rfl) ?_
  refine lv_iload_n hx hb d_M_secret_7 rfl (lv_at hl 1 rfl) ?_
  refine lv_i2l (v := lN (ce)) hx hb d_M_secret_8 (nI_l (by omega)) ?_
  refine zV (b := h0) (As := [.long (lN (ce))]) (rest := [.ref (h0)]) ⟨hx, hb, hml, hown, hw⟩ (c_M_isExponent l D h0 (nI (0)) pp qq gg (by omega) hq (lN (ce))) OM_B (OM_at hP hK) (va_recv hK hP (ci := 1) (q0 := 0) rfl rfl) g_M_54 rfl rfl pd_M_isExponent ⟨Nat.le_of_ble_eq_true rfl, Nat.le_of_ble_eq_true rfl⟩ hl.1 rfl (Nat.le_of_ble_eq_true rfl) d_M_secret_9 ⟨Nat.zero_le _, Nat.zero_le _⟩ ?_
  refine W.eq (g2 := F0 m 12 ls [.int (bI (res (lN (ce)).toInt qq)), .ref (h0)]) rfl ?_
  refine tI (1) (bI_t (resl (by omega) hq)) ?_
  refine lv_if_eq (tgt := 48) hx hb d_M_secret_12 (by decide) (fun z => absurd z (by decide)) (fun _ => ?_)
  refine lv_aload_n hx hb d_M_secret_15 rfl (lv_at hl 0 rfl) ?_
  refine lv_iload_n hx hb d_M_secret_16 rfl (lv_at hl 2 rfl) ?_
  refine lv_i2l (v := lN (ze)) hx hb d_M_secret_17 (nI_l (by omega)) ?_
  refine zV (b := h0) (As := [.long (lN (ze))]) (rest := [.ref (h0)]) ⟨hx, hb, hml, hown, hw⟩ (c_M_isExponent l D h0 (nI (0)) pp qq gg (by omega) hq (lN (ze))) OM_B (OM_at hP hK) (va_recv hK hP (ci := 1) (q0 := 0) rfl rfl) g_M_54 rfl rfl pd_M_isExponent ⟨Nat.le_of_ble_eq_true rfl, Nat.le_of_ble_eq_true rfl⟩ hl.1 rfl (Nat.le_of_ble_eq_true rfl) d_M_secret_18 ⟨Nat.zero_le _, Nat.zero_le _⟩ ?_
  refine W.eq (g2 := F0 m 21 ls [.int (bI (res (lN (ze)).toInt qq)), .ref (h0)]) rfl ?_
  refine tI (1) (bI_t (resl (by omega) hq)) ?_
  refine lv_if_eq (tgt := 48) hx hb d_M_secret_21 (by decide) (fun z => absurd z (by decide)) (fun _ => ?_)
  refine lv_aload_n hx hb d_M_secret_24 rfl (lv_at hl 0 rfl) ?_
  refine lv_iload_n hx hb d_M_secret_25 rfl (lv_at hl 3 rfl) ?_
  refine lv_i2l (v := lN (de)) hx hb d_M_secret_26 (nI_l (by omega)) ?_
  refine zV (b := h0) (As := [.long (lN (de))]) (rest := [.ref (h0)]) ⟨hx, hb, hml, hown, hw⟩ (c_M_isExponent l D h0 (nI (0)) pp qq gg (by omega) hq (lN (de))) OM_B (OM_at hP hK) (va_recv hK hP (ci := 1) (q0 := 0) rfl rfl) g_M_54 rfl rfl pd_M_isExponent ⟨Nat.le_of_ble_eq_true rfl, Nat.le_of_ble_eq_true rfl⟩ hl.1 rfl (Nat.le_of_ble_eq_true rfl) d_M_secret_27 ⟨Nat.zero_le _, Nat.zero_le _⟩ ?_
  refine W.eq (g2 := F0 m 30 ls [.int (bI (res (lN (de)).toInt qq)), .ref (h0)]) rfl ?_
  refine tI (1) (bI_t (resl (by omega) hq)) ?_
  refine lv_if_eq (tgt := 48) hx hb d_M_secret_30 (by decide) (fun z => absurd z (by decide)) (fun _ => ?_)
  refine lv_aload_n hx hb d_M_secret_33 rfl (lv_at hl 0 rfl) ?_
  refine lv_iload hx hb d_M_secret_34 (lv_at hl 4 rfl) ?_
  refine lv_i2l (v := lN (we)) hx hb d_M_secret_36 (nI_l (by omega)) ?_
  refine zV (b := h0) (As := [.long (lN (we))]) (rest := [.ref (h0)]) ⟨hx, hb, hml, hown, hw⟩ (c_M_isExponent l D h0 (nI (0)) pp qq gg (by omega) hq (lN (we))) OM_B (OM_at hP hK) (va_recv hK hP (ci := 1) (q0 := 0) rfl rfl) g_M_54 rfl rfl pd_M_isExponent ⟨Nat.le_of_ble_eq_true rfl, Nat.le_of_ble_eq_true rfl⟩ hl.1 rfl (Nat.le_of_ble_eq_true rfl) d_M_secret_37 ⟨Nat.zero_le _, Nat.zero_le _⟩ ?_
  refine W.eq (g2 := F0 m 40 ls [.int (bI (res (lN (we)).toInt qq)), .ref (h0)]) rfl ?_
  refine tI (1) (bI_t (resl (by omega) hq)) ?_
  refine lv_if_eq (tgt := 48) hx hb d_M_secret_40 (by decide) (fun z => absurd z (by decide)) (fun _ => ?_)
  refine lv_iload_n hx hb d_M_secret_43 rfl (lv_at hl 1 rfl) ?_
  refine lv_iload_n hx hb d_M_secret_44 rfl (lv_at hl 3 rfl) ?_
  refine lv_icmp_ne (tgt := 52) hx hb d_M_secret_45 (by decide) (fun _ => ?_) (fun z => absurd z (fun z => h5 ((nI_eq (by omega) (by omega)).mp z)))
  refine lv_iconst (v := nI (0)) hx hb d_M_secret_52 (by decide) ?_
  refine lv_iconst (v := nI (1)) hx hb d_M_secret_53 (by decide) ?_
  refine W.eq (g2 := F0 m 54 ls [.int (nI (1)), .int (0), .ref (h0)]) (by rw [nI_0]) ?_
  refine zV (b := h0) (As := [.int (0), .int (nI (1))]) (rest := []) ⟨hx, hb, hml, hown, hw⟩ (c_M_fails_no l D h0 (nI (0)) pp qq gg nI_0 (nI (1))) OM_B (OM_at hP hK) (va_recv hK hP (ci := 1) (q0 := 0) rfl rfl) g_M_44 rfl rfl pd_M_fails ⟨Nat.le_of_ble_eq_true rfl, Nat.le_of_ble_eq_true rfl⟩ hl.1 rfl (Nat.le_of_ble_eq_true rfl) d_M_secret_54 ⟨Nat.zero_le _, Nat.zero_le _⟩ ?_
  refine W.eq (g2 := F0 m 57 ls [.int (nI (0))]) rfl ?_
  refine lv_if_eq (tgt := 62) hx hb d_M_secret_57 (by decide) (fun _ => ?_) (fun z => absurd (rfl) z)
  refine lv_iload_n hx hb d_M_secret_62 rfl (lv_at hl 2 rfl) ?_
  refine lv_i2l (v := lN (ze)) hx hb d_M_secret_63 (nI_l (by omega)) ?_
  refine lv_iload hx hb d_M_secret_64 (lv_at hl 4 rfl) ?_
  refine lv_i2l (v := lN (we)) hx hb d_M_secret_66 (nI_l (by omega)) ?_
  refine lv_lsub hx hb d_M_secret_67 ?_
  refine tL (lN (ze) - lN (we)) (rfl) ?_
  refine lv_aload_n hx hb d_M_secret_68 rfl (lv_at hl 0 rfl) ?_
  refine va_get (D := D) (ci := 1) (v := .long (lN (qq))) (C := R_M) (T := F_M) (N := 4) hx hb hw i_M hown hK hP 0 rfl rfl 2 (by decide) (hw _ fl_M_17) (fun _ h9 => h9) rfl d_M_secret_69 ?_
  refine lv_ladd hx hb d_M_secret_72 ?_
  refine tL (lN (ze + qq - we)) (lsub_add (by omega)) ?_
  refine lv_aload_n hx hb d_M_secret_73 rfl (lv_at hl 0 rfl) ?_
  refine va_get (D := D) (ci := 1) (v := .long (lN (qq))) (C := R_M) (T := F_M) (N := 4) hx hb hw i_M hown hK hP 0 rfl rfl 2 (by decide) (hw _ fl_M_17) (fun _ h9 => h9) rfl d_M_secret_74 ?_
  refine lv_lrem hx hb d_M_secret_77 (by first | decide | exact nI_ne0 (by omega) (by omega) | exact lN_ne0 (by omega) (by omega)) ?_
  refine tL (lN ((ze + qq - we) % qq)) (pk_lRem (by omega) (by omega) (by omega)) ?_
  refine lv_lstore (lv' := [(5, .long (lN ((ze + qq - we) % qq))), (0, .ref (h0)), (1, .int (nI (ce))), (2, .int (nI (ze))), (3, .int (nI (de))), (4, .int (nI (we)))]) hx hb d_M_secret_78 hl (by decide) rfl (fun ls hl => ?_)
  refine lv_iload_n hx hb d_M_secret_80 rfl (lv_at hl 2 rfl) ?_
  refine lv_i2l (v := lN (ce)) hx hb d_M_secret_81 (nI_l (by omega)) ?_
  refine lv_iload_n hx hb d_M_secret_82 rfl (lv_at hl 4 rfl) ?_
  refine lv_i2l (v := lN (de)) hx hb d_M_secret_83 (nI_l (by omega)) ?_
  refine lv_lsub hx hb d_M_secret_84 ?_
  refine tL (lN (ce) - lN (de)) (rfl) ?_
  refine lv_aload_n hx hb d_M_secret_85 rfl (lv_at hl 1 rfl) ?_
  refine va_get (D := D) (ci := 1) (v := .long (lN (qq))) (C := R_M) (T := F_M) (N := 4) hx hb hw i_M hown hK hP 0 rfl rfl 2 (by decide) (hw _ fl_M_17) (fun _ h9 => h9) rfl d_M_secret_86 ?_
  refine lv_ladd hx hb d_M_secret_89 ?_
  refine tL (lN (ce + qq - de)) (lsub_add (by omega)) ?_
  refine lv_aload_n hx hb d_M_secret_90 rfl (lv_at hl 1 rfl) ?_
  refine va_get (D := D) (ci := 1) (v := .long (lN (qq))) (C := R_M) (T := F_M) (N := 4) hx hb hw i_M hown hK hP 0 rfl rfl 2 (by decide) (hw _ fl_M_17) (fun _ h9 => h9) rfl d_M_secret_91 ?_
  refine lv_lrem hx hb d_M_secret_94 (by first | decide | exact nI_ne0 (by omega) (by omega) | exact lN_ne0 (by omega) (by omega)) ?_
  refine tL (lN ((ce + qq - de) % qq)) (pk_lRem (by omega) (by omega) (by omega)) ?_
  refine lv_lstore (lv' := [(7, .long (lN ((ce + qq - de) % qq))), (5, .long (lN ((ze + qq - we) % qq))), (0, .ref (h0)), (1, .int (nI (ce))), (2, .int (nI (ze))), (3, .int (nI (de))), (4, .int (nI (we)))]) hx hb d_M_secret_95 hl (by decide) rfl (fun ls hl => ?_)
  refine lv_lload hx hb d_M_secret_97 (lv_at hl 1 rfl) ?_
  refine lv_lload hx hb d_M_secret_99 (lv_at hl 0 rfl) ?_
  refine lv_aload_n hx hb d_M_secret_101 rfl (lv_at hl 2 rfl) ?_
  refine va_get (D := D) (ci := 1) (v := .long (lN (qq))) (C := R_M) (T := F_M) (N := 4) hx hb hw i_M hown hK hP 0 rfl rfl 2 (by decide) (hw _ fl_M_17) (fun _ h9 => h9) rfl d_M_secret_102 ?_
  refine zS (As := [.long (lN ((ce + qq - de) % qq)), .long (lN (qq))]) (rest := [.long (lN ((ze + qq - we) % qq))]) ⟨hx, hb, hml, hown, hw⟩ (c_M_inverse_JJ l ((ce + qq - de) % qq) qq (((ce + qq - de) % qq) ^ (qq - 2) % qq) e2 hq2 hq e3 hin) g_M_48 rfl rfl pd_M_inverse_JJ ⟨Nat.le_of_ble_eq_true rfl, Nat.le_of_ble_eq_true rfl⟩ hl.1 rfl (Nat.le_of_ble_eq_true rfl) d_M_secret_105 ⟨Nat.zero_le _, Nat.zero_le _⟩ ?_
  refine W.eq (g2 := F0 m 108 ls [.long (lN (((ce + qq - de) % qq) ^ (qq - 2) % qq)), .long (lN ((ze + qq - we) % qq))]) rfl ?_
  refine lv_lmul hx hb d_M_secret_108 ?_
  refine tL (lN ((ze + qq - we) % qq * (((ce + qq - de) % qq) ^ (qq - 2) % qq))) (lN_mul _ _) ?_
  refine lv_aload_n hx hb d_M_secret_109 rfl (lv_at hl 2 rfl) ?_
  refine va_get (D := D) (ci := 1) (v := .long (lN (qq))) (C := R_M) (T := F_M) (N := 4) hx hb hw i_M hown hK hP 0 rfl rfl 2 (by decide) (hw _ fl_M_17) (fun _ h9 => h9) rfl d_M_secret_110 ?_
  refine lv_lrem hx hb d_M_secret_113 (by first | decide | exact nI_ne0 (by omega) (by omega) | exact lN_ne0 (by omega) (by omega)) ?_
  refine tL (lN (((ze + qq - we) % qq * (((ce + qq - de) % qq) ^ (qq - 2) % qq)) % qq)) (pk_lRem (by omega) (by omega) (by omega)) ?_
  refine lv_l2i (v := nI (((ze + qq - we) % qq * (((ce + qq - de) % qq) ^ (qq - 2) % qq)) % qq)) hx hb d_M_secret_114 (lN_i _) ?_
  rw [hAe] at hS
  exact W.iret hx hb hr (fun t ht _ => ⟨rfl, by rw [ht]; exact hP, hS.F ht⟩) hS.2.2 d_M_secret_115
set_option maxHeartbeats 4000000 in
set_option maxRecDepth 100000 in
theorem c_M_secret_bad (l : Launch) (D : va_G) (h0 : Nat) (er : Int32) (pp qq gg : Nat) (G : grp pp qq gg) (cv zv dv wv : Int32) (hno : ¬ (res cv.toInt qq ∧ res zv.toInt qq ∧ res dv.toInt qq ∧ res wv.toInt qq ∧ cv ≠ dv)) : Met l y_M_secret (k_M_secret :: wall) { frames := 2, cells := 0, slots := 0, locals := 53 } (zP [.ref (h0), .int (cv), .int (zv), .int (dv), .int (wv)] (OM D h0 er (lN (pp)) (lN (qq)) (lN (gg)))) (zW (some (.int (nI (0)))) D [(h0, .inr (1, [.int (nI (1)), .long (lN (pp)), .long (lN (qq)), .long (lN (gg))]))] h0) 0 0 (fun q => q = h0) := by
  refine Met.ofW (cc := b_M_secret) (maxL := 9) (ret := (some .int)) (by decide) rfl ?_
  intro p e s m args below meth c s₁ B hml hv
  obtain ⟨hv, hP, hK⟩ := hv
  subst hv
  have hx := B.exec
  have hb := B.bytes
  have hr := B.returns
  have hts := atoms_spec (ws := k_M_secret :: wall) B.pre
  have hw : ∀ w ∈ wall, w.before _ s = true := fun w h => hts w (List.mem_cons_of_mem _ h)
  have hown : s.vm.findClass R_M = some m.cls := findClass_of_methodNamed B.named
  have hlocks := B.notSynchronized
  have hl := lv_entry ([.ref (h0), .int (cv), .int (zv), .int (dv), .int (wv)]) (n := 9) (Nat.le_of_ble_eq_true rfl)
  rw [lg_entry_eq]
  generalize (lg_sl ([.ref (h0), .int (cv), .int (zv), .int (dv), .int (wv)]) ++ List.replicate (9 - (lg_sl ([.ref (h0), .int (cv), .int (zv), .int (dv), .int (wv)])).length) Slot.unset).toArray = ls at hl ⊢
  have hl : lv_has ls 9 [(0, .ref (h0)), (1, .int (cv)), (2, .int (zv)), (3, .int (dv)), (4, .int (wv))] := hl
  generalize ([.ref (h0), .int (cv), .int (zv), .int (dv), .int (wv)] : List Value).toArray = args at B hts hw ⊢
  have hD : va_D (fun q => q = h0) [(h0, .inr (1, [.int (er), .long (lN (pp)), .long (lN (qq)), .long (lN (gg))]))] := one_D
  obtain ⟨A, hAe⟩ : ∃ A : Nat → Prop, A = fun q => q = h0 := ⟨_, rfl⟩
  rw [← hAe] at hD
  have hA0 : A h0 := by rw [hAe]
  have hS : va_S A s.heap s.heap [] := va_S.rf
  have hp5 : 5 ≤ pp := by have := G.1; have := G.2.2.1.1; omega
  have hp := G.2.2.2.2.2.2
  have hq2 : 2 ≤ qq := G.2.2.1.1
  have hq : qq < 2 ^ 31 := by have := G.1; omega
  have hgp : gg < pp := G.2.2.2.2.1
  refine lv_aload_n hx hb d_M_secret_0 rfl (lv_at hl 0 rfl) ?_
  refine lv_iconst (v := nI (0)) hx hb d_M_secret_1 (by decide) ?_
  refine va_put (D := D) (ci := 1) (v := .int (nI (0))) (ty := .int) (C := R_M) (T := F_M) (N := 4) hx hb hw i_M t_M t_M_ok n_M hown hK hP hD hS 0 rfl rfl 0 (by decide) (hw _ fl_M_25) (fun _ h9 => h9) rfl (by decide +kernel) rfl rfl (Nat.le_of_ble_eq_true rfl) d_M_secret_2 (fun H locs hP hD hS => ?_)
  have hP : va_P D classes [(h0, .inr (1, [.int (nI (0)), .long (lN (pp)), .long (lN (qq)), .long (lN (gg))]))] H := hP
  have hD : va_D A [(h0, .inr (1, [.int (nI (0)), .long (lN (pp)), .long (lN (qq)), .long (lN (gg))]))] := hD
  refine lv_aload_n hx hb d_M_secret_5 rfl (lv_at hl 0 rfl) ?_
  refine lv_aload_n hx hb d_M_secret_6 rfl (lv_at hl 0 rfl) ?_
  refine lv_iload_n hx hb d_M_secret_7 rfl (lv_at hl 1 rfl) ?_
  refine lv_i2l (v := (cv).toInt64) hx hb d_M_secret_8 (rfl) ?_
  refine zV (b := h0) (As := [.long ((cv).toInt64)]) (rest := [.ref (h0)]) ⟨hx, hb, hml, hown, hw⟩ (c_M_isExponent l D h0 (nI (0)) pp qq gg (by omega) hq ((cv).toInt64)) OM_B (OM_at hP hK) (va_recv hK hP (ci := 1) (q0 := 0) rfl rfl) g_M_54 rfl rfl pd_M_isExponent ⟨Nat.le_of_ble_eq_true rfl, Nat.le_of_ble_eq_true rfl⟩ hl.1 rfl (Nat.le_of_ble_eq_true rfl) d_M_secret_9 ⟨Nat.zero_le _, Nat.zero_le _⟩ ?_
  refine W.eq (g2 := F0 m 12 ls [.int (bI (res ((cv).toInt64).toInt qq)), .ref (h0)]) rfl ?_
  refine tI (bI (res cv.toInt qq)) (by rw [i2lI]) ?_
  by_cases h1 : res cv.toInt qq
  · refine tI (1) (bI_t h1) ?_
    refine lv_if_eq (tgt := 48) hx hb d_M_secret_12 (by decide) (fun z => absurd z (by decide)) (fun _ => ?_)
    refine lv_aload_n hx hb d_M_secret_15 rfl (lv_at hl 0 rfl) ?_
    refine lv_iload_n hx hb d_M_secret_16 rfl (lv_at hl 2 rfl) ?_
    refine lv_i2l (v := (zv).toInt64) hx hb d_M_secret_17 (rfl) ?_
    refine zV (b := h0) (As := [.long ((zv).toInt64)]) (rest := [.ref (h0)]) ⟨hx, hb, hml, hown, hw⟩ (c_M_isExponent l D h0 (nI (0)) pp qq gg (by omega) hq ((zv).toInt64)) OM_B (OM_at hP hK) (va_recv hK hP (ci := 1) (q0 := 0) rfl rfl) g_M_54 rfl rfl pd_M_isExponent ⟨Nat.le_of_ble_eq_true rfl, Nat.le_of_ble_eq_true rfl⟩ hl.1 rfl (Nat.le_of_ble_eq_true rfl) d_M_secret_18 ⟨Nat.zero_le _, Nat.zero_le _⟩ ?_
    refine W.eq (g2 := F0 m 21 ls [.int (bI (res ((zv).toInt64).toInt qq)), .ref (h0)]) rfl ?_
    refine tI (bI (res zv.toInt qq)) (by rw [i2lI]) ?_
    by_cases h2 : res zv.toInt qq
    · refine tI (1) (bI_t h2) ?_
      refine lv_if_eq (tgt := 48) hx hb d_M_secret_21 (by decide) (fun z => absurd z (by decide)) (fun _ => ?_)
      refine lv_aload_n hx hb d_M_secret_24 rfl (lv_at hl 0 rfl) ?_
      refine lv_iload_n hx hb d_M_secret_25 rfl (lv_at hl 3 rfl) ?_
      refine lv_i2l (v := (dv).toInt64) hx hb d_M_secret_26 (rfl) ?_
      refine zV (b := h0) (As := [.long ((dv).toInt64)]) (rest := [.ref (h0)]) ⟨hx, hb, hml, hown, hw⟩ (c_M_isExponent l D h0 (nI (0)) pp qq gg (by omega) hq ((dv).toInt64)) OM_B (OM_at hP hK) (va_recv hK hP (ci := 1) (q0 := 0) rfl rfl) g_M_54 rfl rfl pd_M_isExponent ⟨Nat.le_of_ble_eq_true rfl, Nat.le_of_ble_eq_true rfl⟩ hl.1 rfl (Nat.le_of_ble_eq_true rfl) d_M_secret_27 ⟨Nat.zero_le _, Nat.zero_le _⟩ ?_
      refine W.eq (g2 := F0 m 30 ls [.int (bI (res ((dv).toInt64).toInt qq)), .ref (h0)]) rfl ?_
      refine tI (bI (res dv.toInt qq)) (by rw [i2lI]) ?_
      by_cases h3 : res dv.toInt qq
      · refine tI (1) (bI_t h3) ?_
        refine lv_if_eq (tgt := 48) hx hb d_M_secret_30 (by decide) (fun z => absurd z (by decide)) (fun _ => ?_)
        refine lv_aload_n hx hb d_M_secret_33 rfl (lv_at hl 0 rfl) ?_
        refine lv_iload hx hb d_M_secret_34 (lv_at hl 4 rfl) ?_
        refine lv_i2l (v := (wv).toInt64) hx hb d_M_secret_36 (rfl) ?_
        refine zV (b := h0) (As := [.long ((wv).toInt64)]) (rest := [.ref (h0)]) ⟨hx, hb, hml, hown, hw⟩ (c_M_isExponent l D h0 (nI (0)) pp qq gg (by omega) hq ((wv).toInt64)) OM_B (OM_at hP hK) (va_recv hK hP (ci := 1) (q0 := 0) rfl rfl) g_M_54 rfl rfl pd_M_isExponent ⟨Nat.le_of_ble_eq_true rfl, Nat.le_of_ble_eq_true rfl⟩ hl.1 rfl (Nat.le_of_ble_eq_true rfl) d_M_secret_37 ⟨Nat.zero_le _, Nat.zero_le _⟩ ?_
        refine W.eq (g2 := F0 m 40 ls [.int (bI (res ((wv).toInt64).toInt qq)), .ref (h0)]) rfl ?_
        refine tI (bI (res wv.toInt qq)) (by rw [i2lI]) ?_
        by_cases h4 : res wv.toInt qq
        · refine tI (1) (bI_t h4) ?_
          refine lv_if_eq (tgt := 48) hx hb d_M_secret_40 (by decide) (fun z => absurd z (by decide)) (fun _ => ?_)
          refine lv_iload_n hx hb d_M_secret_43 rfl (lv_at hl 1 rfl) ?_
          refine lv_iload_n hx hb d_M_secret_44 rfl (lv_at hl 3 rfl) ?_
          refine lv_icmp_ne (tgt := 52) hx hb d_M_secret_45 (by decide) (fun z => absurd (Classical.byContradiction fun z => hno ⟨h1, h2, h3, h4, z⟩) z) (fun _ => ?_)
          refine lv_iconst (v := nI (1)) hx hb d_M_secret_48 (by decide) ?_
          refine lv_goto (tgt := 53) hx hb d_M_secret_49 (by decide) ?_
          refine lv_iconst (v := nI (1)) hx hb d_M_secret_53 (by decide) ?_
          refine W.eq (g2 := F0 m 54 ls [.int (nI (1)), .int (1), .ref (h0)]) (by rw [nI_one]) ?_
          refine zVW (b := h0) (As := [.int (1), .int (nI (1))]) (rest := []) ⟨hx, hb, hml, hown, hw⟩ (c_M_fails_yes l D h0 (nI (0)) pp qq gg nI_0 (nI (1)) (by decide)) OM_B (OM_at hP hK) (va_recv hK hP (ci := 1) (q0 := 0) rfl rfl) g_M_44 rfl rfl pd_M_fails ⟨Nat.le_of_ble_eq_true rfl, Nat.le_of_ble_eq_true rfl⟩ hl.1 rfl (Nat.le_of_ble_eq_true rfl) d_M_secret_54 ⟨Nat.zero_le _, Nat.zero_le _⟩ hS hA0 (fun H locs hP hz hk hS => ?_)
          have hP : va_P D classes [(h0, .inr (1, [.int (nI (1)), .long (lN (pp)), .long (lN (qq)), .long (lN (gg))]))] H := hP
          refine W.eq (g2 := F0 m 57 ls [.int (nI (1))]) rfl ?_
          refine lv_if_eq (tgt := 62) hx hb d_M_secret_57 (by decide) (fun z => absurd z (by decide)) (fun _ => ?_)
          refine lv_iconst (v := nI (0)) hx hb d_M_secret_60 (by decide) ?_
          rw [hAe] at hS
          exact W.iret hx hb hr (fun t ht _ => ⟨rfl, by rw [ht]; exact hP, hS.F ht⟩) hS.2.2 d_M_secret_61
        · refine tI (0) (bI_f h4) ?_
          refine lv_if_eq (tgt := 48) hx hb d_M_secret_40 (by decide) (fun _ => ?_) (fun z => absurd (rfl) z)
          refine lv_iconst (v := nI (1)) hx hb d_M_secret_48 (by decide) ?_
          refine lv_goto (tgt := 53) hx hb d_M_secret_49 (by decide) ?_
          refine lv_iconst (v := nI (1)) hx hb d_M_secret_53 (by decide) ?_
          refine W.eq (g2 := F0 m 54 ls [.int (nI (1)), .int (1), .ref (h0)]) (by rw [nI_one]) ?_
          refine zVW (b := h0) (As := [.int (1), .int (nI (1))]) (rest := []) ⟨hx, hb, hml, hown, hw⟩ (c_M_fails_yes l D h0 (nI (0)) pp qq gg nI_0 (nI (1)) (by decide)) OM_B (OM_at hP hK) (va_recv hK hP (ci := 1) (q0 := 0) rfl rfl) g_M_44 rfl rfl pd_M_fails ⟨Nat.le_of_ble_eq_true rfl, Nat.le_of_ble_eq_true rfl⟩ hl.1 rfl (Nat.le_of_ble_eq_true rfl) d_M_secret_54 ⟨Nat.zero_le _, Nat.zero_le _⟩ hS hA0 (fun H locs hP hz hk hS => ?_)
          have hP : va_P D classes [(h0, .inr (1, [.int (nI (1)), .long (lN (pp)), .long (lN (qq)), .long (lN (gg))]))] H := hP
          refine W.eq (g2 := F0 m 57 ls [.int (nI (1))]) rfl ?_
          refine lv_if_eq (tgt := 62) hx hb d_M_secret_57 (by decide) (fun z => absurd z (by decide)) (fun _ => ?_)
          refine lv_iconst (v := nI (0)) hx hb d_M_secret_60 (by decide) ?_
          rw [hAe] at hS
          exact W.iret hx hb hr (fun t ht _ => ⟨rfl, by rw [ht]; exact hP, hS.F ht⟩) hS.2.2 d_M_secret_61
      · refine tI (0) (bI_f h3) ?_
        refine lv_if_eq (tgt := 48) hx hb d_M_secret_30 (by decide) (fun _ => ?_) (fun z => absurd (rfl) z)
        refine lv_iconst (v := nI (1)) hx hb d_M_secret_48 (by decide) ?_
        refine lv_goto (tgt := 53) hx hb d_M_secret_49 (by decide) ?_
        refine lv_iconst (v := nI (1)) hx hb d_M_secret_53 (by decide) ?_
        refine W.eq (g2 := F0 m 54 ls [.int (nI (1)), .int (1), .ref (h0)]) (by rw [nI_one]) ?_
        refine zVW (b := h0) (As := [.int (1), .int (nI (1))]) (rest := []) ⟨hx, hb, hml, hown, hw⟩ (c_M_fails_yes l D h0 (nI (0)) pp qq gg nI_0 (nI (1)) (by decide)) OM_B (OM_at hP hK) (va_recv hK hP (ci := 1) (q0 := 0) rfl rfl) g_M_44 rfl rfl pd_M_fails ⟨Nat.le_of_ble_eq_true rfl, Nat.le_of_ble_eq_true rfl⟩ hl.1 rfl (Nat.le_of_ble_eq_true rfl) d_M_secret_54 ⟨Nat.zero_le _, Nat.zero_le _⟩ hS hA0 (fun H locs hP hz hk hS => ?_)
        have hP : va_P D classes [(h0, .inr (1, [.int (nI (1)), .long (lN (pp)), .long (lN (qq)), .long (lN (gg))]))] H := hP
        refine W.eq (g2 := F0 m 57 ls [.int (nI (1))]) rfl ?_
        refine lv_if_eq (tgt := 62) hx hb d_M_secret_57 (by decide) (fun z => absurd z (by decide)) (fun _ => ?_)
        refine lv_iconst (v := nI (0)) hx hb d_M_secret_60 (by decide) ?_
        rw [hAe] at hS
        exact W.iret hx hb hr (fun t ht _ => ⟨rfl, by rw [ht]; exact hP, hS.F ht⟩) hS.2.2 d_M_secret_61
    · refine tI (0) (bI_f h2) ?_
      refine lv_if_eq (tgt := 48) hx hb d_M_secret_21 (by decide) (fun _ => ?_) (fun z => absurd (rfl) z)
      refine lv_iconst (v := nI (1)) hx hb d_M_secret_48 (by decide) ?_
      refine lv_goto (tgt := 53) hx hb d_M_secret_49 (by decide) ?_
      refine lv_iconst (v := nI (1)) hx hb d_M_secret_53 (by decide) ?_
      refine W.eq (g2 := F0 m 54 ls [.int (nI (1)), .int (1), .ref (h0)]) (by rw [nI_one]) ?_
      refine zVW (b := h0) (As := [.int (1), .int (nI (1))]) (rest := []) ⟨hx, hb, hml, hown, hw⟩ (c_M_fails_yes l D h0 (nI (0)) pp qq gg nI_0 (nI (1)) (by decide)) OM_B (OM_at hP hK) (va_recv hK hP (ci := 1) (q0 := 0) rfl rfl) g_M_44 rfl rfl pd_M_fails ⟨Nat.le_of_ble_eq_true rfl, Nat.le_of_ble_eq_true rfl⟩ hl.1 rfl (Nat.le_of_ble_eq_true rfl) d_M_secret_54 ⟨Nat.zero_le _, Nat.zero_le _⟩ hS hA0 (fun H locs hP hz hk hS => ?_)
      have hP : va_P D classes [(h0, .inr (1, [.int (nI (1)), .long (lN (pp)), .long (lN (qq)), .long (lN (gg))]))] H := hP
      refine W.eq (g2 := F0 m 57 ls [.int (nI (1))]) rfl ?_
      refine lv_if_eq (tgt := 62) hx hb d_M_secret_57 (by decide) (fun z => absurd z (by decide)) (fun _ => ?_)
      refine lv_iconst (v := nI (0)) hx hb d_M_secret_60 (by decide) ?_
      rw [hAe] at hS
      exact W.iret hx hb hr (fun t ht _ => ⟨rfl, by rw [ht]; exact hP, hS.F ht⟩) hS.2.2 d_M_secret_61
  · refine tI (0) (bI_f h1) ?_
    refine lv_if_eq (tgt := 48) hx hb d_M_secret_12 (by decide) (fun _ => ?_) (fun z => absurd (rfl) z)
    refine lv_iconst (v := nI (1)) hx hb d_M_secret_48 (by decide) ?_
    refine lv_goto (tgt := 53) hx hb d_M_secret_49 (by decide) ?_
    refine lv_iconst (v := nI (1)) hx hb d_M_secret_53 (by decide) ?_
    refine W.eq (g2 := F0 m 54 ls [.int (nI (1)), .int (1), .ref (h0)]) (by rw [nI_one]) ?_
    refine zVW (b := h0) (As := [.int (1), .int (nI (1))]) (rest := []) ⟨hx, hb, hml, hown, hw⟩ (c_M_fails_yes l D h0 (nI (0)) pp qq gg nI_0 (nI (1)) (by decide)) OM_B (OM_at hP hK) (va_recv hK hP (ci := 1) (q0 := 0) rfl rfl) g_M_44 rfl rfl pd_M_fails ⟨Nat.le_of_ble_eq_true rfl, Nat.le_of_ble_eq_true rfl⟩ hl.1 rfl (Nat.le_of_ble_eq_true rfl) d_M_secret_54 ⟨Nat.zero_le _, Nat.zero_le _⟩ hS hA0 (fun H locs hP hz hk hS => ?_)
    have hP : va_P D classes [(h0, .inr (1, [.int (nI (1)), .long (lN (pp)), .long (lN (qq)), .long (lN (gg))]))] H := hP
    refine W.eq (g2 := F0 m 57 ls [.int (nI (1))]) rfl ?_
    refine lv_if_eq (tgt := 62) hx hb d_M_secret_57 (by decide) (fun z => absurd z (by decide)) (fun _ => ?_)
    refine lv_iconst (v := nI (0)) hx hb d_M_secret_60 (by decide) ?_
    rw [hAe] at hS
    exact W.iret hx hb hr (fun t ht _ => ⟨rfl, by rw [ht]; exact hP, hS.F ht⟩) hS.2.2 d_M_secret_61
set_option maxHeartbeats 4000000 in
set_option maxRecDepth 100000 in
theorem c_M_count_0 (l : Launch) (D : va_G) (h0 : Nat) (er : Int32) (pp qq gg : Nat) (G : grp pp qq gg)  : Met l y_M_count (k_M_count :: wall) { frames := 2, cells := 0, slots := 0, locals := 53 } (zP [.ref (h0), .int (nI (0))] (OM D h0 er (lN (pp)) (lN (qq)) (lN (gg)))) (zW (some (.int (nI (pp)))) D [(h0, .inr (1, [.int (nI (0)), .long (lN (pp)), .long (lN (qq)), .long (lN (gg))]))] h0) 0 0 (fun q => q = h0) := by
  refine Met.ofW (cc := b_M_count) (maxL := 2) (ret := (some .int)) (by decide) rfl ?_
  intro p e s m args below meth c s₁ B hml hv
  obtain ⟨hv, hP, hK⟩ := hv
  subst hv
  have hx := B.exec
  have hb := B.bytes
  have hr := B.returns
  have hts := atoms_spec (ws := k_M_count :: wall) B.pre
  have hw : ∀ w ∈ wall, w.before _ s = true := fun w h => hts w (List.mem_cons_of_mem _ h)
  have hown : s.vm.findClass R_M = some m.cls := findClass_of_methodNamed B.named
  have hlocks := B.notSynchronized
  have hl := lv_entry ([.ref (h0), .int (nI (0))]) (n := 2) (Nat.le_of_ble_eq_true rfl)
  rw [lg_entry_eq]
  generalize (lg_sl ([.ref (h0), .int (nI (0))]) ++ List.replicate (2 - (lg_sl ([.ref (h0), .int (nI (0))])).length) Slot.unset).toArray = ls at hl ⊢
  have hl : lv_has ls 2 [(0, .ref (h0)), (1, .int (nI (0)))] := hl
  generalize ([.ref (h0), .int (nI (0))] : List Value).toArray = args at B hts hw ⊢
  have hD : va_D (fun q => q = h0) [(h0, .inr (1, [.int (er), .long (lN (pp)), .long (lN (qq)), .long (lN (gg))]))] := one_D
  obtain ⟨A, hAe⟩ : ∃ A : Nat → Prop, A = fun q => q = h0 := ⟨_, rfl⟩
  rw [← hAe] at hD
  have hA0 : A h0 := by rw [hAe]
  have hS : va_S A s.heap s.heap [] := va_S.rf
  have hp5 : 5 ≤ pp := by have := G.1; have := G.2.2.1.1; omega
  have hp := G.2.2.2.2.2.2
  have hq2 : 2 ≤ qq := G.2.2.1.1
  have hq : qq < 2 ^ 31 := by have := G.1; omega
  have hgp : gg < pp := G.2.2.2.2.1
  refine lv_aload_n hx hb d_M_count_0 rfl (lv_at hl 0 rfl) ?_
  refine lv_iconst (v := nI (0)) hx hb d_M_count_1 (by decide) ?_
  refine va_put (D := D) (ci := 1) (v := .int (nI (0))) (ty := .int) (C := R_M) (T := F_M) (N := 4) hx hb hw i_M t_M t_M_ok n_M hown hK hP hD hS 0 rfl rfl 0 (by decide) (hw _ fl_M_25) (fun _ h9 => h9) rfl (by decide +kernel) rfl rfl (Nat.le_of_ble_eq_true rfl) d_M_count_2 (fun H locs hP hD hS => ?_)
  have hP : va_P D classes [(h0, .inr (1, [.int (nI (0)), .long (lN (pp)), .long (lN (qq)), .long (lN (gg))]))] H := hP
  have hD : va_D A [(h0, .inr (1, [.int (nI (0)), .long (lN (pp)), .long (lN (qq)), .long (lN (gg))]))] := hD
  refine lv_aload_n hx hb d_M_count_5 rfl (lv_at hl 0 rfl) ?_
  refine lv_iload_n hx hb d_M_count_6 rfl (lv_at hl 1 rfl) ?_
  refine lv_i2l (v := lN (0)) hx hb d_M_count_7 (nI_l (by omega)) ?_
  refine lv_lconst (v := lN (0)) hx hb d_M_count_8 (by decide) ?_
  refine lv_ldc2 hx hb hown (hw _ kl_M_20) d_M_count_9 ?_
  refine tL (lN (2)) (by decide +kernel) ?_
  refine zS (As := [.long (lN (0)), .long (lN (0)), .long (lN (2))]) (rest := [.ref (h0)]) ⟨hx, hb, hml, hown, hw⟩ (c_M_in l (lN (0)) (lN (0)) (lN (2))) g_M_29 rfl rfl pd_M_in ⟨Nat.le_of_ble_eq_true rfl, Nat.le_of_ble_eq_true rfl⟩ hl.1 rfl (Nat.le_of_ble_eq_true rfl) d_M_count_12 ⟨Nat.zero_le _, Nat.zero_le _⟩ ?_
  refine W.eq (g2 := F0 m 15 ls [.int (bI ((lN (0)).toInt ≤ (lN (0)).toInt ∧ (lN (0)).toInt ≤ (lN (2)).toInt)), .ref (h0)]) rfl ?_
  refine tI (1) (bI_t (by decide)) ?_
  refine lv_if_ne (tgt := 22) hx hb d_M_count_15 (by decide) (fun _ => ?_) (fun z => absurd z (by decide))
  refine lv_iconst (v := nI (0)) hx hb d_M_count_22 (by decide) ?_
  refine lv_iconst (v := nI (1)) hx hb d_M_count_23 (by decide) ?_
  refine W.eq (g2 := F0 m 24 ls [.int (nI (1)), .int (0), .ref (h0)]) (by rw [nI_0]) ?_
  refine zV (b := h0) (As := [.int (0), .int (nI (1))]) (rest := []) ⟨hx, hb, hml, hown, hw⟩ (c_M_fails_no l D h0 (nI (0)) pp qq gg nI_0 (nI (1))) OM_B (OM_at hP hK) (va_recv hK hP (ci := 1) (q0 := 0) rfl rfl) g_M_44 rfl rfl pd_M_fails ⟨Nat.le_of_ble_eq_true rfl, Nat.le_of_ble_eq_true rfl⟩ hl.1 rfl (Nat.le_of_ble_eq_true rfl) d_M_count_24 ⟨Nat.zero_le _, Nat.zero_le _⟩ ?_
  refine W.eq (g2 := F0 m 27 ls [.int (nI (0))]) rfl ?_
  refine lv_if_eq (tgt := 34) hx hb d_M_count_27 (by decide) (fun _ => ?_) (fun z => absurd (rfl) z)
  refine lv_iload_n hx hb d_M_count_34 rfl (lv_at hl 1 rfl) ?_
  refine lv_if_ne (tgt := 45) hx hb d_M_count_35 (by decide) (fun z => absurd (rfl) z) (fun _ => ?_)
  refine lv_aload_n hx hb d_M_count_38 rfl (lv_at hl 0 rfl) ?_
  refine va_get (D := D) (ci := 1) (v := .long (lN (pp))) (C := R_M) (T := F_M) (N := 4) hx hb hw i_M hown hK hP 0 rfl rfl 1 (by decide) (hw _ fl_M_9) (fun _ h9 => h9) rfl d_M_count_39 ?_
  refine lv_goto (tgt := 61) hx hb d_M_count_42 (by decide) ?_
  refine lv_l2i (v := nI (pp)) hx hb d_M_count_61 (lN_i _) ?_
  rw [hAe] at hS
  exact W.iret hx hb hr (fun t ht _ => ⟨rfl, by rw [ht]; exact hP, hS.F ht⟩) hS.2.2 d_M_count_62
set_option maxHeartbeats 4000000 in
set_option maxRecDepth 100000 in
theorem c_M_count_1 (l : Launch) (D : va_G) (h0 : Nat) (er : Int32) (pp qq gg : Nat) (G : grp pp qq gg)  : Met l y_M_count (k_M_count :: wall) { frames := 2, cells := 0, slots := 0, locals := 53 } (zP [.ref (h0), .int (nI (1))] (OM D h0 er (lN (pp)) (lN (qq)) (lN (gg)))) (zW (some (.int (nI (qq)))) D [(h0, .inr (1, [.int (nI (0)), .long (lN (pp)), .long (lN (qq)), .long (lN (gg))]))] h0) 0 0 (fun q => q = h0) := by
  refine Met.ofW (cc := b_M_count) (maxL := 2) (ret := (some .int)) (by decide) rfl ?_
  intro p e s m args below meth c s₁ B hml hv
  obtain ⟨hv, hP, hK⟩ := hv
  subst hv
  have hx := B.exec
  have hb := B.bytes
  have hr := B.returns
  have hts := atoms_spec (ws := k_M_count :: wall) B.pre
  have hw : ∀ w ∈ wall, w.before _ s = true := fun w h => hts w (List.mem_cons_of_mem _ h)
  have hown : s.vm.findClass R_M = some m.cls := findClass_of_methodNamed B.named
  have hlocks := B.notSynchronized
  have hl := lv_entry ([.ref (h0), .int (nI (1))]) (n := 2) (Nat.le_of_ble_eq_true rfl)
  rw [lg_entry_eq]
  generalize (lg_sl ([.ref (h0), .int (nI (1))]) ++ List.replicate (2 - (lg_sl ([.ref (h0), .int (nI (1))])).length) Slot.unset).toArray = ls at hl ⊢
  have hl : lv_has ls 2 [(0, .ref (h0)), (1, .int (nI (1)))] := hl
  generalize ([.ref (h0), .int (nI (1))] : List Value).toArray = args at B hts hw ⊢
  have hD : va_D (fun q => q = h0) [(h0, .inr (1, [.int (er), .long (lN (pp)), .long (lN (qq)), .long (lN (gg))]))] := one_D
  obtain ⟨A, hAe⟩ : ∃ A : Nat → Prop, A = fun q => q = h0 := ⟨_, rfl⟩
  rw [← hAe] at hD
  have hA0 : A h0 := by rw [hAe]
  have hS : va_S A s.heap s.heap [] := va_S.rf
  have hp5 : 5 ≤ pp := by have := G.1; have := G.2.2.1.1; omega
  have hp := G.2.2.2.2.2.2
  have hq2 : 2 ≤ qq := G.2.2.1.1
  have hq : qq < 2 ^ 31 := by have := G.1; omega
  have hgp : gg < pp := G.2.2.2.2.1
  refine lv_aload_n hx hb d_M_count_0 rfl (lv_at hl 0 rfl) ?_
  refine lv_iconst (v := nI (0)) hx hb d_M_count_1 (by decide) ?_
  refine va_put (D := D) (ci := 1) (v := .int (nI (0))) (ty := .int) (C := R_M) (T := F_M) (N := 4) hx hb hw i_M t_M t_M_ok n_M hown hK hP hD hS 0 rfl rfl 0 (by decide) (hw _ fl_M_25) (fun _ h9 => h9) rfl (by decide +kernel) rfl rfl (Nat.le_of_ble_eq_true rfl) d_M_count_2 (fun H locs hP hD hS => ?_)
  have hP : va_P D classes [(h0, .inr (1, [.int (nI (0)), .long (lN (pp)), .long (lN (qq)), .long (lN (gg))]))] H := hP
  have hD : va_D A [(h0, .inr (1, [.int (nI (0)), .long (lN (pp)), .long (lN (qq)), .long (lN (gg))]))] := hD
  refine lv_aload_n hx hb d_M_count_5 rfl (lv_at hl 0 rfl) ?_
  refine lv_iload_n hx hb d_M_count_6 rfl (lv_at hl 1 rfl) ?_
  refine lv_i2l (v := lN (1)) hx hb d_M_count_7 (nI_l (by omega)) ?_
  refine lv_lconst (v := lN (0)) hx hb d_M_count_8 (by decide) ?_
  refine lv_ldc2 hx hb hown (hw _ kl_M_20) d_M_count_9 ?_
  refine tL (lN (2)) (by decide +kernel) ?_
  refine zS (As := [.long (lN (1)), .long (lN (0)), .long (lN (2))]) (rest := [.ref (h0)]) ⟨hx, hb, hml, hown, hw⟩ (c_M_in l (lN (1)) (lN (0)) (lN (2))) g_M_29 rfl rfl pd_M_in ⟨Nat.le_of_ble_eq_true rfl, Nat.le_of_ble_eq_true rfl⟩ hl.1 rfl (Nat.le_of_ble_eq_true rfl) d_M_count_12 ⟨Nat.zero_le _, Nat.zero_le _⟩ ?_
  refine W.eq (g2 := F0 m 15 ls [.int (bI ((lN (0)).toInt ≤ (lN (1)).toInt ∧ (lN (1)).toInt ≤ (lN (2)).toInt)), .ref (h0)]) rfl ?_
  refine tI (1) (bI_t (by decide)) ?_
  refine lv_if_ne (tgt := 22) hx hb d_M_count_15 (by decide) (fun _ => ?_) (fun z => absurd z (by decide))
  refine lv_iconst (v := nI (0)) hx hb d_M_count_22 (by decide) ?_
  refine lv_iconst (v := nI (1)) hx hb d_M_count_23 (by decide) ?_
  refine W.eq (g2 := F0 m 24 ls [.int (nI (1)), .int (0), .ref (h0)]) (by rw [nI_0]) ?_
  refine zV (b := h0) (As := [.int (0), .int (nI (1))]) (rest := []) ⟨hx, hb, hml, hown, hw⟩ (c_M_fails_no l D h0 (nI (0)) pp qq gg nI_0 (nI (1))) OM_B (OM_at hP hK) (va_recv hK hP (ci := 1) (q0 := 0) rfl rfl) g_M_44 rfl rfl pd_M_fails ⟨Nat.le_of_ble_eq_true rfl, Nat.le_of_ble_eq_true rfl⟩ hl.1 rfl (Nat.le_of_ble_eq_true rfl) d_M_count_24 ⟨Nat.zero_le _, Nat.zero_le _⟩ ?_
  refine W.eq (g2 := F0 m 27 ls [.int (nI (0))]) rfl ?_
  refine lv_if_eq (tgt := 34) hx hb d_M_count_27 (by decide) (fun _ => ?_) (fun z => absurd (rfl) z)
  refine lv_iload_n hx hb d_M_count_34 rfl (lv_at hl 1 rfl) ?_
  refine lv_if_ne (tgt := 45) hx hb d_M_count_35 (by decide) (fun _ => ?_) (fun z => absurd z (by decide))
  refine lv_iload_n hx hb d_M_count_45 rfl (lv_at hl 1 rfl) ?_
  refine lv_iconst (v := nI (1)) hx hb d_M_count_46 (by decide) ?_
  refine lv_icmp_ne (tgt := 57) hx hb d_M_count_47 (by decide) (fun z => absurd (rfl) z) (fun _ => ?_)
  refine lv_aload_n hx hb d_M_count_50 rfl (lv_at hl 0 rfl) ?_
  refine va_get (D := D) (ci := 1) (v := .long (lN (qq))) (C := R_M) (T := F_M) (N := 4) hx hb hw i_M hown hK hP 0 rfl rfl 2 (by decide) (hw _ fl_M_17) (fun _ h9 => h9) rfl d_M_count_51 ?_
  refine lv_goto (tgt := 61) hx hb d_M_count_54 (by decide) ?_
  refine lv_l2i (v := nI (qq)) hx hb d_M_count_61 (lN_i _) ?_
  rw [hAe] at hS
  exact W.iret hx hb hr (fun t ht _ => ⟨rfl, by rw [ht]; exact hP, hS.F ht⟩) hS.2.2 d_M_count_62
set_option maxHeartbeats 4000000 in
set_option maxRecDepth 100000 in
theorem c_M_count_2 (l : Launch) (D : va_G) (h0 : Nat) (er : Int32) (pp qq gg : Nat) (G : grp pp qq gg)  : Met l y_M_count (k_M_count :: wall) { frames := 2, cells := 0, slots := 0, locals := 53 } (zP [.ref (h0), .int (nI (2))] (OM D h0 er (lN (pp)) (lN (qq)) (lN (gg)))) (zW (some (.int (nI (gg)))) D [(h0, .inr (1, [.int (nI (0)), .long (lN (pp)), .long (lN (qq)), .long (lN (gg))]))] h0) 0 0 (fun q => q = h0) := by
  refine Met.ofW (cc := b_M_count) (maxL := 2) (ret := (some .int)) (by decide) rfl ?_
  intro p e s m args below meth c s₁ B hml hv
  obtain ⟨hv, hP, hK⟩ := hv
  subst hv
  have hx := B.exec
  have hb := B.bytes
  have hr := B.returns
  have hts := atoms_spec (ws := k_M_count :: wall) B.pre
  have hw : ∀ w ∈ wall, w.before _ s = true := fun w h => hts w (List.mem_cons_of_mem _ h)
  have hown : s.vm.findClass R_M = some m.cls := findClass_of_methodNamed B.named
  have hlocks := B.notSynchronized
  have hl := lv_entry ([.ref (h0), .int (nI (2))]) (n := 2) (Nat.le_of_ble_eq_true rfl)
  rw [lg_entry_eq]
  generalize (lg_sl ([.ref (h0), .int (nI (2))]) ++ List.replicate (2 - (lg_sl ([.ref (h0), .int (nI (2))])).length) Slot.unset).toArray = ls at hl ⊢
  have hl : lv_has ls 2 [(0, .ref (h0)), (1, .int (nI (2)))] := hl
  generalize ([.ref (h0), .int (nI (2))] : List Value).toArray = args at B hts hw ⊢
  have hD : va_D (fun q => q = h0) [(h0, .inr (1, [.int (er), .long (lN (pp)), .long (lN (qq)), .long (lN (gg))]))] := one_D
  obtain ⟨A, hAe⟩ : ∃ A : Nat → Prop, A = fun q => q = h0 := ⟨_, rfl⟩
  rw [← hAe] at hD
  have hA0 : A h0 := by rw [hAe]
  have hS : va_S A s.heap s.heap [] := va_S.rf
  have hp5 : 5 ≤ pp := by have := G.1; have := G.2.2.1.1; omega
  have hp := G.2.2.2.2.2.2
  have hq2 : 2 ≤ qq := G.2.2.1.1
  have hq : qq < 2 ^ 31 := by have := G.1; omega
  have hgp : gg < pp := G.2.2.2.2.1
  refine lv_aload_n hx hb d_M_count_0 rfl (lv_at hl 0 rfl) ?_
  refine lv_iconst (v := nI (0)) hx hb d_M_count_1 (by decide) ?_
  refine va_put (D := D) (ci := 1) (v := .int (nI (0))) (ty := .int) (C := R_M) (T := F_M) (N := 4) hx hb hw i_M t_M t_M_ok n_M hown hK hP hD hS 0 rfl rfl 0 (by decide) (hw _ fl_M_25) (fun _ h9 => h9) rfl (by decide +kernel) rfl rfl (Nat.le_of_ble_eq_true rfl) d_M_count_2 (fun H locs hP hD hS => ?_)
  have hP : va_P D classes [(h0, .inr (1, [.int (nI (0)), .long (lN (pp)), .long (lN (qq)), .long (lN (gg))]))] H := hP
  have hD : va_D A [(h0, .inr (1, [.int (nI (0)), .long (lN (pp)), .long (lN (qq)), .long (lN (gg))]))] := hD
  refine lv_aload_n hx hb d_M_count_5 rfl (lv_at hl 0 rfl) ?_
  refine lv_iload_n hx hb d_M_count_6 rfl (lv_at hl 1 rfl) ?_
  refine lv_i2l (v := lN (2)) hx hb d_M_count_7 (nI_l (by omega)) ?_
  refine lv_lconst (v := lN (0)) hx hb d_M_count_8 (by decide) ?_
  refine lv_ldc2 hx hb hown (hw _ kl_M_20) d_M_count_9 ?_
  refine tL (lN (2)) (by decide +kernel) ?_
  refine zS (As := [.long (lN (2)), .long (lN (0)), .long (lN (2))]) (rest := [.ref (h0)]) ⟨hx, hb, hml, hown, hw⟩ (c_M_in l (lN (2)) (lN (0)) (lN (2))) g_M_29 rfl rfl pd_M_in ⟨Nat.le_of_ble_eq_true rfl, Nat.le_of_ble_eq_true rfl⟩ hl.1 rfl (Nat.le_of_ble_eq_true rfl) d_M_count_12 ⟨Nat.zero_le _, Nat.zero_le _⟩ ?_
  refine W.eq (g2 := F0 m 15 ls [.int (bI ((lN (0)).toInt ≤ (lN (2)).toInt ∧ (lN (2)).toInt ≤ (lN (2)).toInt)), .ref (h0)]) rfl ?_
  refine tI (1) (bI_t (by decide)) ?_
  refine lv_if_ne (tgt := 22) hx hb d_M_count_15 (by decide) (fun _ => ?_) (fun z => absurd z (by decide))
  refine lv_iconst (v := nI (0)) hx hb d_M_count_22 (by decide) ?_
  refine lv_iconst (v := nI (1)) hx hb d_M_count_23 (by decide) ?_
  refine W.eq (g2 := F0 m 24 ls [.int (nI (1)), .int (0), .ref (h0)]) (by rw [nI_0]) ?_
  refine zV (b := h0) (As := [.int (0), .int (nI (1))]) (rest := []) ⟨hx, hb, hml, hown, hw⟩ (c_M_fails_no l D h0 (nI (0)) pp qq gg nI_0 (nI (1))) OM_B (OM_at hP hK) (va_recv hK hP (ci := 1) (q0 := 0) rfl rfl) g_M_44 rfl rfl pd_M_fails ⟨Nat.le_of_ble_eq_true rfl, Nat.le_of_ble_eq_true rfl⟩ hl.1 rfl (Nat.le_of_ble_eq_true rfl) d_M_count_24 ⟨Nat.zero_le _, Nat.zero_le _⟩ ?_
  refine W.eq (g2 := F0 m 27 ls [.int (nI (0))]) rfl ?_
  refine lv_if_eq (tgt := 34) hx hb d_M_count_27 (by decide) (fun _ => ?_) (fun z => absurd (rfl) z)
  refine lv_iload_n hx hb d_M_count_34 rfl (lv_at hl 1 rfl) ?_
  refine lv_if_ne (tgt := 45) hx hb d_M_count_35 (by decide) (fun _ => ?_) (fun z => absurd z (by decide))
  refine lv_iload_n hx hb d_M_count_45 rfl (lv_at hl 1 rfl) ?_
  refine lv_iconst (v := nI (1)) hx hb d_M_count_46 (by decide) ?_
  refine lv_icmp_ne (tgt := 57) hx hb d_M_count_47 (by decide) (fun _ => ?_) (fun z => absurd z (by decide))
  refine lv_aload_n hx hb d_M_count_57 rfl (lv_at hl 0 rfl) ?_
  refine va_get (D := D) (ci := 1) (v := .long (lN (gg))) (C := R_M) (T := F_M) (N := 4) hx hb hw i_M hown hK hP 0 rfl rfl 3 (by decide) (hw _ fl_M_22) (fun _ h9 => h9) rfl d_M_count_58 ?_
  refine lv_l2i (v := nI (gg)) hx hb d_M_count_61 (lN_i _) ?_
  rw [hAe] at hS
  exact W.iret hx hb hr (fun t ht _ => ⟨rfl, by rw [ht]; exact hP, hS.F ht⟩) hS.2.2 d_M_count_62
set_option maxHeartbeats 4000000 in
set_option maxRecDepth 100000 in
theorem c_M_count_bad (l : Launch) (D : va_G) (h0 : Nat) (er : Int32) (pp qq gg : Nat) (G : grp pp qq gg) (av : Int32) (hno : ¬ (0 ≤ av.toInt ∧ av.toInt ≤ 2)) : Met l y_M_count (k_M_count :: wall) { frames := 2, cells := 0, slots := 0, locals := 53 } (zP [.ref (h0), .int (av)] (OM D h0 er (lN (pp)) (lN (qq)) (lN (gg)))) (zW (some (.int (nI (0)))) D [(h0, .inr (1, [.int (nI (1)), .long (lN (pp)), .long (lN (qq)), .long (lN (gg))]))] h0) 0 0 (fun q => q = h0) := by
  refine Met.ofW (cc := b_M_count) (maxL := 2) (ret := (some .int)) (by decide) rfl ?_
  intro p e s m args below meth c s₁ B hml hv
  obtain ⟨hv, hP, hK⟩ := hv
  subst hv
  have hx := B.exec
  have hb := B.bytes
  have hr := B.returns
  have hts := atoms_spec (ws := k_M_count :: wall) B.pre
  have hw : ∀ w ∈ wall, w.before _ s = true := fun w h => hts w (List.mem_cons_of_mem _ h)
  have hown : s.vm.findClass R_M = some m.cls := findClass_of_methodNamed B.named
  have hlocks := B.notSynchronized
  have hl := lv_entry ([.ref (h0), .int (av)]) (n := 2) (Nat.le_of_ble_eq_true rfl)
  rw [lg_entry_eq]
  generalize (lg_sl ([.ref (h0), .int (av)]) ++ List.replicate (2 - (lg_sl ([.ref (h0), .int (av)])).length) Slot.unset).toArray = ls at hl ⊢
  have hl : lv_has ls 2 [(0, .ref (h0)), (1, .int (av))] := hl
  generalize ([.ref (h0), .int (av)] : List Value).toArray = args at B hts hw ⊢
  have hD : va_D (fun q => q = h0) [(h0, .inr (1, [.int (er), .long (lN (pp)), .long (lN (qq)), .long (lN (gg))]))] := one_D
  obtain ⟨A, hAe⟩ : ∃ A : Nat → Prop, A = fun q => q = h0 := ⟨_, rfl⟩
  rw [← hAe] at hD
  have hA0 : A h0 := by rw [hAe]
  have hS : va_S A s.heap s.heap [] := va_S.rf
  have hp5 : 5 ≤ pp := by have := G.1; have := G.2.2.1.1; omega
  have hp := G.2.2.2.2.2.2
  have hq2 : 2 ≤ qq := G.2.2.1.1
  have hq : qq < 2 ^ 31 := by have := G.1; omega
  have hgp : gg < pp := G.2.2.2.2.1
  refine lv_aload_n hx hb d_M_count_0 rfl (lv_at hl 0 rfl) ?_
  refine lv_iconst (v := nI (0)) hx hb d_M_count_1 (by decide) ?_
  refine va_put (D := D) (ci := 1) (v := .int (nI (0))) (ty := .int) (C := R_M) (T := F_M) (N := 4) hx hb hw i_M t_M t_M_ok n_M hown hK hP hD hS 0 rfl rfl 0 (by decide) (hw _ fl_M_25) (fun _ h9 => h9) rfl (by decide +kernel) rfl rfl (Nat.le_of_ble_eq_true rfl) d_M_count_2 (fun H locs hP hD hS => ?_)
  have hP : va_P D classes [(h0, .inr (1, [.int (nI (0)), .long (lN (pp)), .long (lN (qq)), .long (lN (gg))]))] H := hP
  have hD : va_D A [(h0, .inr (1, [.int (nI (0)), .long (lN (pp)), .long (lN (qq)), .long (lN (gg))]))] := hD
  refine lv_aload_n hx hb d_M_count_5 rfl (lv_at hl 0 rfl) ?_
  refine lv_iload_n hx hb d_M_count_6 rfl (lv_at hl 1 rfl) ?_
  refine lv_i2l (v := (av).toInt64) hx hb d_M_count_7 (rfl) ?_
  refine lv_lconst (v := lN (0)) hx hb d_M_count_8 (by decide) ?_
  refine lv_ldc2 hx hb hown (hw _ kl_M_20) d_M_count_9 ?_
  refine tL (lN (2)) (by decide +kernel) ?_
  refine zS (As := [.long ((av).toInt64), .long (lN (0)), .long (lN (2))]) (rest := [.ref (h0)]) ⟨hx, hb, hml, hown, hw⟩ (c_M_in l ((av).toInt64) (lN (0)) (lN (2))) g_M_29 rfl rfl pd_M_in ⟨Nat.le_of_ble_eq_true rfl, Nat.le_of_ble_eq_true rfl⟩ hl.1 rfl (Nat.le_of_ble_eq_true rfl) d_M_count_12 ⟨Nat.zero_le _, Nat.zero_le _⟩ ?_
  refine W.eq (g2 := F0 m 15 ls [.int (bI ((lN (0)).toInt ≤ ((av).toInt64).toInt ∧ ((av).toInt64).toInt ≤ (lN (2)).toInt)), .ref (h0)]) rfl ?_
  refine tI (0) (bI_f (by rw [pk_lT (show 0 < 2 ^ 63 by decide), pk_lT (show 2 < 2 ^ 63 by decide), i2lI]; exact hno)) ?_
  refine lv_if_ne (tgt := 22) hx hb d_M_count_15 (by decide) (fun z => absurd (rfl) z) (fun _ => ?_)
  refine lv_iconst (v := nI (1)) hx hb d_M_count_18 (by decide) ?_
  refine lv_goto (tgt := 23) hx hb d_M_count_19 (by decide) ?_
  refine lv_iconst (v := nI (1)) hx hb d_M_count_23 (by decide) ?_
  refine W.eq (g2 := F0 m 24 ls [.int (nI (1)), .int (1), .ref (h0)]) (by rw [nI_one]) ?_
  refine zVW (b := h0) (As := [.int (1), .int (nI (1))]) (rest := []) ⟨hx, hb, hml, hown, hw⟩ (c_M_fails_yes l D h0 (nI (0)) pp qq gg nI_0 (nI (1)) (by decide)) OM_B (OM_at hP hK) (va_recv hK hP (ci := 1) (q0 := 0) rfl rfl) g_M_44 rfl rfl pd_M_fails ⟨Nat.le_of_ble_eq_true rfl, Nat.le_of_ble_eq_true rfl⟩ hl.1 rfl (Nat.le_of_ble_eq_true rfl) d_M_count_24 ⟨Nat.zero_le _, Nat.zero_le _⟩ hS hA0 (fun H locs hP hz hk hS => ?_)
  have hP : va_P D classes [(h0, .inr (1, [.int (nI (1)), .long (lN (pp)), .long (lN (qq)), .long (lN (gg))]))] H := hP
  refine W.eq (g2 := F0 m 27 ls [.int (nI (1))]) rfl ?_
  refine lv_if_eq (tgt := 34) hx hb d_M_count_27 (by decide) (fun z => absurd z (by decide)) (fun _ => ?_)
  refine lv_iconst (v := nI (0)) hx hb d_M_count_30 (by decide) ?_
  refine lv_goto (tgt := 62) hx hb d_M_count_31 (by decide) ?_
  rw [hAe] at hS
  exact W.iret hx hb hr (fun t ht _ => ⟨rfl, by rw [ht]; exact hP, hS.F ht⟩) hS.2.2 d_M_count_62
set_option maxHeartbeats 4000000 in
set_option maxRecDepth 100000 in
theorem c_M_begin_ok (l : Launch) (D : va_G) (h0 : Nat) (er : Int32) (pp qq gg : Nat) (p1 g1 : Nat) (hp1 : p1 < 2 ^ 31) (hg1 : g1 < 2 ^ 31) (hok : okg (p1 : Int) (nI (g1)).toInt) : Met l y_M_begin (k_M_begin :: wall) { frames := 2, cells := 0, slots := 0, locals := 53 } (zP [.ref (h0), .int (nI (p1)), .int (nI (g1))] (OM D h0 er (lN (pp)) (lN (qq)) (lN (gg)))) (zW (some (.int (nI (1)))) D [(h0, .inr (1, [.int (nI (0)), .long (lN (p1)), .long (lN ((p1 - 1) / 2)), .long (lN (g1))]))] h0) 0 0 (fun q => q = h0) := by
  refine Met.ofW (cc := b_M_begin) (maxL := 3) (ret := (some .boolean)) (by decide) rfl ?_
  intro p e s m args below meth c s₁ B hml hv
  obtain ⟨hv, hP, hK⟩ := hv
  subst hv
  have hx := B.exec
  have hb := B.bytes
  have hr := B.returns
  have hts := atoms_spec (ws := k_M_begin :: wall) B.pre
  have hw : ∀ w ∈ wall, w.before _ s = true := fun w h => hts w (List.mem_cons_of_mem _ h)
  have hown : s.vm.findClass R_M = some m.cls := findClass_of_methodNamed B.named
  have hlocks := B.notSynchronized
  have hl := lv_entry ([.ref (h0), .int (nI (p1)), .int (nI (g1))]) (n := 3) (Nat.le_of_ble_eq_true rfl)
  rw [lg_entry_eq]
  generalize (lg_sl ([.ref (h0), .int (nI (p1)), .int (nI (g1))]) ++ List.replicate (3 - (lg_sl ([.ref (h0), .int (nI (p1)), .int (nI (g1))])).length) Slot.unset).toArray = ls at hl ⊢
  have hl : lv_has ls 3 [(0, .ref (h0)), (1, .int (nI (p1))), (2, .int (nI (g1)))] := hl
  generalize ([.ref (h0), .int (nI (p1)), .int (nI (g1))] : List Value).toArray = args at B hts hw ⊢
  have hD : va_D (fun q => q = h0) [(h0, .inr (1, [.int (er), .long (lN (pp)), .long (lN (qq)), .long (lN (gg))]))] := one_D
  obtain ⟨A, hAe⟩ : ∃ A : Nat → Prop, A = fun q => q = h0 := ⟨_, rfl⟩
  rw [← hAe] at hD
  have hA0 : A h0 := by rw [hAe]
  have hS : va_S A s.heap s.heap [] := va_S.rf
  obtain ⟨k1, k2, k3, k4, k5⟩ := hok
  have k5 : zp p1 := k5
  have k4 : zp ((p1 - 1) / 2) := k4
  have k3 : mem (nI (g1)).toInt p1 ((p1 - 1) / 2) := k3
  refine lv_aload_n hx hb d_M_begin_0 rfl (lv_at hl 0 rfl) ?_
  refine lv_iconst (v := nI (0)) hx hb d_M_begin_1 (by decide) ?_
  refine va_put (D := D) (ci := 1) (v := .int (nI (0))) (ty := .int) (C := R_M) (T := F_M) (N := 4) hx hb hw i_M t_M t_M_ok n_M hown hK hP hD hS 0 rfl rfl 0 (by decide) (hw _ fl_M_25) (fun _ h9 => h9) rfl (by decide +kernel) rfl rfl (Nat.le_of_ble_eq_true rfl) d_M_begin_2 (fun H locs hP hD hS => ?_)
  have hP : va_P D classes [(h0, .inr (1, [.int (nI (0)), .long (lN (pp)), .long (lN (qq)), .long (lN (gg))]))] H := hP
  have hD : va_D A [(h0, .inr (1, [.int (nI (0)), .long (lN (pp)), .long (lN (qq)), .long (lN (gg))]))] := hD
  refine lv_iload_n hx hb d_M_begin_5 rfl (lv_at hl 1 rfl) ?_
  refine lv_iconst (v := nI (5)) hx hb d_M_begin_6 (by decide) ?_
  refine lv_icmp_lt (tgt := 51) hx hb d_M_begin_7 (by decide) (fun z => absurd z (nI_nlt (by omega) (by omega))) (fun _ => ?_)
  refine lv_iload_n hx hb d_M_begin_10 rfl (lv_at hl 1 rfl) ?_
  refine lv_i2l (v := lN (p1)) hx hb d_M_begin_11 (nI_l (by omega)) ?_
  refine zS (As := [.long (lN (p1))]) (rest := []) ⟨hx, hb, hml, hown, hw⟩ (c_M_isPrime l p1 hp1) g_M_37 rfl rfl pd_M_isPrime ⟨Nat.le_of_ble_eq_true rfl, Nat.le_of_ble_eq_true rfl⟩ hl.1 rfl (Nat.le_of_ble_eq_true rfl) d_M_begin_12 ⟨Nat.zero_le _, Nat.zero_le _⟩ ?_
  refine W.eq (g2 := F0 m 15 ls [.int (bI (zp p1))]) rfl ?_
  refine tI (1) (bI_t k5) ?_
  refine lv_if_eq (tgt := 51) hx hb d_M_begin_15 (by decide) (fun z => absurd z (by decide)) (fun _ => ?_)
  refine lv_iload_n hx hb d_M_begin_18 rfl (lv_at hl 1 rfl) ?_
  refine lv_iconst (v := nI (1)) hx hb d_M_begin_19 (by decide) ?_
  refine lv_isub hx hb d_M_begin_20 ?_
  refine tI (nI (p1 - 1)) (pk_sub (by omega)) ?_
  refine lv_iconst (v := nI (2)) hx hb d_M_begin_21 (by decide) ?_
  refine lv_idiv hx hb d_M_begin_22 (by first | decide | exact nI_ne0 (by omega) (by omega) | exact lN_ne0 (by omega) (by omega)) ?_
  refine tI (nI ((p1 - 1) / 2)) (pk_div (by omega) (by omega) (by omega)) ?_
  refine lv_i2l (v := lN ((p1 - 1) / 2)) hx hb d_M_begin_23 (nI_l (by omega)) ?_
  refine zS (As := [.long (lN ((p1 - 1) / 2))]) (rest := []) ⟨hx, hb, hml, hown, hw⟩ (c_M_isPrime l ((p1 - 1) / 2) (by omega)) g_M_37 rfl rfl pd_M_isPrime ⟨Nat.le_of_ble_eq_true rfl, Nat.le_of_ble_eq_true rfl⟩ hl.1 rfl (Nat.le_of_ble_eq_true rfl) d_M_begin_24 ⟨Nat.zero_le _, Nat.zero_le _⟩ ?_
  refine W.eq (g2 := F0 m 27 ls [.int (bI (zp ((p1 - 1) / 2)))]) rfl ?_
  refine tI (1) (bI_t k4) ?_
  refine lv_if_eq (tgt := 51) hx hb d_M_begin_27 (by decide) (fun z => absurd z (by decide)) (fun _ => ?_)
  refine lv_iload_n hx hb d_M_begin_30 rfl (lv_at hl 2 rfl) ?_
  refine lv_iconst (v := nI (1)) hx hb d_M_begin_31 (by decide) ?_
  refine lv_icmp_eq (tgt := 51) hx hb d_M_begin_32 (by decide) (fun z => absurd z (fun z => k2 (by rw [z]; decide))) (fun _ => ?_)
  refine lv_iload_n hx hb d_M_begin_35 rfl (lv_at hl 2 rfl) ?_
  refine lv_i2l (v := lN (g1)) hx hb d_M_begin_36 (nI_l (by omega)) ?_
  refine lv_iload_n hx hb d_M_begin_37 rfl (lv_at hl 1 rfl) ?_
  refine lv_i2l (v := lN (p1)) hx hb d_M_begin_38 (nI_l (by omega)) ?_
  refine lv_iload_n hx hb d_M_begin_39 rfl (lv_at hl 1 rfl) ?_
  refine lv_iconst (v := nI (1)) hx hb d_M_begin_40 (by decide) ?_
  refine lv_isub hx hb d_M_begin_41 ?_
  refine tI (nI (p1 - 1)) (pk_sub (by omega)) ?_
  refine lv_iconst (v := nI (2)) hx hb d_M_begin_42 (by decide) ?_
  refine lv_idiv hx hb d_M_begin_43 (by first | decide | exact nI_ne0 (by omega) (by omega) | exact lN_ne0 (by omega) (by omega)) ?_
  refine tI (nI ((p1 - 1) / 2)) (pk_div (by omega) (by omega) (by omega)) ?_
  refine lv_i2l (v := lN ((p1 - 1) / 2)) hx hb d_M_begin_44 (nI_l (by omega)) ?_
  refine zS (As := [.long (lN (g1)), .long (lN (p1)), .long (lN ((p1 - 1) / 2))]) (rest := []) ⟨hx, hb, hml, hown, hw⟩ (c_M_isMember l (lN (g1)) p1 ((p1 - 1) / 2) (by omega) hp1 (by omega)) g_M_41 rfl rfl pd_M_isMember ⟨Nat.le_of_ble_eq_true rfl, Nat.le_of_ble_eq_true rfl⟩ hl.1 rfl (Nat.le_of_ble_eq_true rfl) d_M_begin_45 ⟨Nat.zero_le _, Nat.zero_le _⟩ ?_
  refine W.eq (g2 := F0 m 48 ls [.int (bI (mem (lN (g1)).toInt p1 ((p1 - 1) / 2)))]) rfl ?_
  refine tI (1) (bI_t (memI hg1 k3)) ?_
  refine lv_if_ne (tgt := 53) hx hb d_M_begin_48 (by decide) (fun _ => ?_) (fun z => absurd z (by decide))
  refine lv_aload_n hx hb d_M_begin_53 rfl (lv_at hl 0 rfl) ?_
  refine lv_iload_n hx hb d_M_begin_54 rfl (lv_at hl 1 rfl) ?_
  refine lv_i2l (v := lN (p1)) hx hb d_M_begin_55 (nI_l (by omega)) ?_
  refine va_put (D := D) (ci := 1) (v := .long (lN (p1))) (ty := .long) (C := R_M) (T := F_M) (N := 4) hx hb hw i_M t_M t_M_ok n_M hown hK hP hD hS 0 rfl rfl 1 (by decide) (hw _ fl_M_9) (fun _ h9 => h9) rfl (by decide +kernel) rfl rfl (Nat.le_of_ble_eq_true rfl) d_M_begin_56 (fun H locs hP hD hS => ?_)
  have hP : va_P D classes [(h0, .inr (1, [.int (nI (0)), .long (lN (p1)), .long (lN (qq)), .long (lN (gg))]))] H := hP
  have hD : va_D A [(h0, .inr (1, [.int (nI (0)), .long (lN (p1)), .long (lN (qq)), .long (lN (gg))]))] := hD
  refine lv_aload_n hx hb d_M_begin_59 rfl (lv_at hl 0 rfl) ?_
  refine lv_iload_n hx hb d_M_begin_60 rfl (lv_at hl 1 rfl) ?_
  refine lv_iconst (v := nI (1)) hx hb d_M_begin_61 (by decide) ?_
  refine lv_isub hx hb d_M_begin_62 ?_
  refine tI (nI (p1 - 1)) (pk_sub (by omega)) ?_
  refine lv_iconst (v := nI (2)) hx hb d_M_begin_63 (by decide) ?_
  refine lv_idiv hx hb d_M_begin_64 (by first | decide | exact nI_ne0 (by omega) (by omega) | exact lN_ne0 (by omega) (by omega)) ?_
  refine tI (nI ((p1 - 1) / 2)) (pk_div (by omega) (by omega) (by omega)) ?_
  refine lv_i2l (v := lN ((p1 - 1) / 2)) hx hb d_M_begin_65 (nI_l (by omega)) ?_
  refine va_put (D := D) (ci := 1) (v := .long (lN ((p1 - 1) / 2))) (ty := .long) (C := R_M) (T := F_M) (N := 4) hx hb hw i_M t_M t_M_ok n_M hown hK hP hD hS 0 rfl rfl 2 (by decide) (hw _ fl_M_17) (fun _ h9 => h9) rfl (by decide +kernel) rfl rfl (Nat.le_of_ble_eq_true rfl) d_M_begin_66 (fun H locs hP hD hS => ?_)
  have hP : va_P D classes [(h0, .inr (1, [.int (nI (0)), .long (lN (p1)), .long (lN ((p1 - 1) / 2)), .long (lN (gg))]))] H := hP
  have hD : va_D A [(h0, .inr (1, [.int (nI (0)), .long (lN (p1)), .long (lN ((p1 - 1) / 2)), .long (lN (gg))]))] := hD
  refine lv_aload_n hx hb d_M_begin_69 rfl (lv_at hl 0 rfl) ?_
  refine lv_iload_n hx hb d_M_begin_70 rfl (lv_at hl 2 rfl) ?_
  refine lv_i2l (v := lN (g1)) hx hb d_M_begin_71 (nI_l (by omega)) ?_
  refine va_put (D := D) (ci := 1) (v := .long (lN (g1))) (ty := .long) (C := R_M) (T := F_M) (N := 4) hx hb hw i_M t_M t_M_ok n_M hown hK hP hD hS 0 rfl rfl 3 (by decide) (hw _ fl_M_22) (fun _ h9 => h9) rfl (by decide +kernel) rfl rfl (Nat.le_of_ble_eq_true rfl) d_M_begin_72 (fun H locs hP hD hS => ?_)
  have hP : va_P D classes [(h0, .inr (1, [.int (nI (0)), .long (lN (p1)), .long (lN ((p1 - 1) / 2)), .long (lN (g1))]))] H := hP
  have hD : va_D A [(h0, .inr (1, [.int (nI (0)), .long (lN (p1)), .long (lN ((p1 - 1) / 2)), .long (lN (g1))]))] := hD
  refine lv_iconst (v := nI (1)) hx hb d_M_begin_75 (by decide) ?_
  rw [hAe] at hS
  exact W.zret (ty := .boolean) hx hb hr (by decide) (fun t ht _ => ⟨rfl, by rw [ht]; exact hP, hS.F ht⟩) hS.2.2 d_M_begin_76
set_option maxHeartbeats 4000000 in
set_option maxRecDepth 100000 in
theorem c_M_begin_no (l : Launch) (D : va_G) (h0 : Nat) (er : Int32) (pp qq gg : Nat) (Pv Gv : Int32) (hno : ¬ okg Pv.toInt Gv.toInt) : Met l y_M_begin (k_M_begin :: wall) { frames := 2, cells := 0, slots := 0, locals := 53 } (zP [.ref (h0), .int (Pv), .int (Gv)] (OM D h0 er (lN (pp)) (lN (qq)) (lN (gg)))) (zW (some (.int (nI (0)))) D [(h0, .inr (1, [.int (nI (0)), .long (lN (pp)), .long (lN (qq)), .long (lN (gg))]))] h0) 0 0 (fun q => q = h0) := by
  refine Met.ofW (cc := b_M_begin) (maxL := 3) (ret := (some .boolean)) (by decide) rfl ?_
  intro p e s m args below meth c s₁ B hml hv
  obtain ⟨hv, hP, hK⟩ := hv
  subst hv
  have hx := B.exec
  have hb := B.bytes
  have hr := B.returns
  have hts := atoms_spec (ws := k_M_begin :: wall) B.pre
  have hw : ∀ w ∈ wall, w.before _ s = true := fun w h => hts w (List.mem_cons_of_mem _ h)
  have hown : s.vm.findClass R_M = some m.cls := findClass_of_methodNamed B.named
  have hlocks := B.notSynchronized
  have hl := lv_entry ([.ref (h0), .int (Pv), .int (Gv)]) (n := 3) (Nat.le_of_ble_eq_true rfl)
  rw [lg_entry_eq]
  generalize (lg_sl ([.ref (h0), .int (Pv), .int (Gv)]) ++ List.replicate (3 - (lg_sl ([.ref (h0), .int (Pv), .int (Gv)])).length) Slot.unset).toArray = ls at hl ⊢
  have hl : lv_has ls 3 [(0, .ref (h0)), (1, .int (Pv)), (2, .int (Gv))] := hl
  generalize ([.ref (h0), .int (Pv), .int (Gv)] : List Value).toArray = args at B hts hw ⊢
  have hD : va_D (fun q => q = h0) [(h0, .inr (1, [.int (er), .long (lN (pp)), .long (lN (qq)), .long (lN (gg))]))] := one_D
  obtain ⟨A, hAe⟩ : ∃ A : Nat → Prop, A = fun q => q = h0 := ⟨_, rfl⟩
  rw [← hAe] at hD
  have hA0 : A h0 := by rw [hAe]
  have hS : va_S A s.heap s.heap [] := va_S.rf
  refine lv_aload_n hx hb d_M_begin_0 rfl (lv_at hl 0 rfl) ?_
  refine lv_iconst (v := nI (0)) hx hb d_M_begin_1 (by decide) ?_
  refine va_put (D := D) (ci := 1) (v := .int (nI (0))) (ty := .int) (C := R_M) (T := F_M) (N := 4) hx hb hw i_M t_M t_M_ok n_M hown hK hP hD hS 0 rfl rfl 0 (by decide) (hw _ fl_M_25) (fun _ h9 => h9) rfl (by decide +kernel) rfl rfl (Nat.le_of_ble_eq_true rfl) d_M_begin_2 (fun H locs hP hD hS => ?_)
  have hP : va_P D classes [(h0, .inr (1, [.int (nI (0)), .long (lN (pp)), .long (lN (qq)), .long (lN (gg))]))] H := hP
  have hD : va_D A [(h0, .inr (1, [.int (nI (0)), .long (lN (pp)), .long (lN (qq)), .long (lN (gg))]))] := hD
  refine lv_iload_n hx hb d_M_begin_5 rfl (lv_at hl 1 rfl) ?_
  refine lv_iconst (v := nI (5)) hx hb d_M_begin_6 (by decide) ?_
  refine lv_icmp_lt (tgt := 51) hx hb d_M_begin_7 (by decide) (fun cc => ?_) (fun cc => ?_)
  · refine lv_iconst (v := nI (0)) hx hb d_M_begin_51 (by decide) ?_
    rw [hAe] at hS
    exact W.zret (ty := .boolean) hx hb hr (by decide) (fun t ht _ => ⟨rfl, by rw [ht]; exact hP, hS.F ht⟩) hS.2.2 d_M_begin_52
  · have c1 : 5 ≤ Pv.toInt := Int.not_lt.mp fun z => cc (ilt.mpr (by rw [nI_toInt (by decide)]; exact z))
    obtain ⟨p1, j1, rfl, j3⟩ := ofnn (x := Pv) (by omega)
    rw [j3] at hno
    have hp5 : 5 ≤ p1 := by omega
    refine lv_iload_n hx hb d_M_begin_10 rfl (lv_at hl 1 rfl) ?_
    refine lv_i2l (v := lN (p1)) hx hb d_M_begin_11 (nI_l (by omega)) ?_
    refine zS (As := [.long (lN (p1))]) (rest := []) ⟨hx, hb, hml, hown, hw⟩ (c_M_isPrime l p1 j1) g_M_37 rfl rfl pd_M_isPrime ⟨Nat.le_of_ble_eq_true rfl, Nat.le_of_ble_eq_true rfl⟩ hl.1 rfl (Nat.le_of_ble_eq_true rfl) d_M_begin_12 ⟨Nat.zero_le _, Nat.zero_le _⟩ ?_
    refine W.eq (g2 := F0 m 15 ls [.int (bI (zp p1))]) rfl ?_
    by_cases k5 : zp p1
    · refine tI (1) (bI_t k5) ?_
      refine lv_if_eq (tgt := 51) hx hb d_M_begin_15 (by decide) (fun z => absurd z (by decide)) (fun _ => ?_)
      refine lv_iload_n hx hb d_M_begin_18 rfl (lv_at hl 1 rfl) ?_
      refine lv_iconst (v := nI (1)) hx hb d_M_begin_19 (by decide) ?_
      refine lv_isub hx hb d_M_begin_20 ?_
      refine tI (nI (p1 - 1)) (pk_sub (by omega)) ?_
      refine lv_iconst (v := nI (2)) hx hb d_M_begin_21 (by decide) ?_
      refine lv_idiv hx hb d_M_begin_22 (by first | decide | exact nI_ne0 (by omega) (by omega) | exact lN_ne0 (by omega) (by omega)) ?_
      refine tI (nI ((p1 - 1) / 2)) (pk_div (by omega) (by omega) (by omega)) ?_
      refine lv_i2l (v := lN ((p1 - 1) / 2)) hx hb d_M_begin_23 (nI_l (by omega)) ?_
      refine zS (As := [.long (lN ((p1 - 1) / 2))]) (rest := []) ⟨hx, hb, hml, hown, hw⟩ (c_M_isPrime l ((p1 - 1) / 2) (by omega)) g_M_37 rfl rfl pd_M_isPrime ⟨Nat.le_of_ble_eq_true rfl, Nat.le_of_ble_eq_true rfl⟩ hl.1 rfl (Nat.le_of_ble_eq_true rfl) d_M_begin_24 ⟨Nat.zero_le _, Nat.zero_le _⟩ ?_
      refine W.eq (g2 := F0 m 27 ls [.int (bI (zp ((p1 - 1) / 2)))]) rfl ?_
      by_cases k4 : zp ((p1 - 1) / 2)
      · refine tI (1) (bI_t k4) ?_
        refine lv_if_eq (tgt := 51) hx hb d_M_begin_27 (by decide) (fun z => absurd z (by decide)) (fun _ => ?_)
        refine lv_iload_n hx hb d_M_begin_30 rfl (lv_at hl 2 rfl) ?_
        refine lv_iconst (v := nI (1)) hx hb d_M_begin_31 (by decide) ?_
        refine lv_icmp_eq (tgt := 51) hx hb d_M_begin_32 (by decide) (fun cc => ?_) (fun cc => ?_)
        · refine lv_iconst (v := nI (0)) hx hb d_M_begin_51 (by decide) ?_
          rw [hAe] at hS
          exact W.zret (ty := .boolean) hx hb hr (by decide) (fun t ht _ => ⟨rfl, by rw [ht]; exact hP, hS.F ht⟩) hS.2.2 d_M_begin_52
        · have k2 : Gv.toInt ≠ 1 := fun z => cc (ieq.mpr (by rw [nI_toInt (by decide)]; exact z))
          refine lv_iload_n hx hb d_M_begin_35 rfl (lv_at hl 2 rfl) ?_
          refine lv_i2l (v := (Gv).toInt64) hx hb d_M_begin_36 (rfl) ?_
          refine lv_iload_n hx hb d_M_begin_37 rfl (lv_at hl 1 rfl) ?_
          refine lv_i2l (v := lN (p1)) hx hb d_M_begin_38 (nI_l (by omega)) ?_
          refine lv_iload_n hx hb d_M_begin_39 rfl (lv_at hl 1 rfl) ?_
          refine lv_iconst (v := nI (1)) hx hb d_M_begin_40 (by decide) ?_
          refine lv_isub hx hb d_M_begin_41 ?_
          refine tI (nI (p1 - 1)) (pk_sub (by omega)) ?_
          refine lv_iconst (v := nI (2)) hx hb d_M_begin_42 (by decide) ?_
          refine lv_idiv hx hb d_M_begin_43 (by first | decide | exact nI_ne0 (by omega) (by omega) | exact lN_ne0 (by omega) (by omega)) ?_
          refine tI (nI ((p1 - 1) / 2)) (pk_div (by omega) (by omega) (by omega)) ?_
          refine lv_i2l (v := lN ((p1 - 1) / 2)) hx hb d_M_begin_44 (nI_l (by omega)) ?_
          refine zS (As := [.long ((Gv).toInt64), .long (lN (p1)), .long (lN ((p1 - 1) / 2))]) (rest := []) ⟨hx, hb, hml, hown, hw⟩ (c_M_isMember l ((Gv).toInt64) p1 ((p1 - 1) / 2) (by omega) j1 (by omega)) g_M_41 rfl rfl pd_M_isMember ⟨Nat.le_of_ble_eq_true rfl, Nat.le_of_ble_eq_true rfl⟩ hl.1 rfl (Nat.le_of_ble_eq_true rfl) d_M_begin_45 ⟨Nat.zero_le _, Nat.zero_le _⟩ ?_
          refine W.eq (g2 := F0 m 48 ls [.int (bI (mem ((Gv).toInt64).toInt p1 ((p1 - 1) / 2)))]) rfl ?_
          refine tI (0) (bI_f (fun z => hno ⟨by omega, k2, by rw [i2lI] at z; exact z, k4, k5⟩)) ?_
          refine lv_if_ne (tgt := 53) hx hb d_M_begin_48 (by decide) (fun z => absurd (rfl) z) (fun _ => ?_)
          refine lv_iconst (v := nI (0)) hx hb d_M_begin_51 (by decide) ?_
          rw [hAe] at hS
          exact W.zret (ty := .boolean) hx hb hr (by decide) (fun t ht _ => ⟨rfl, by rw [ht]; exact hP, hS.F ht⟩) hS.2.2 d_M_begin_52
      · refine tI (0) (bI_f k4) ?_
        refine lv_if_eq (tgt := 51) hx hb d_M_begin_27 (by decide) (fun _ => ?_) (fun z => absurd (rfl) z)
        refine lv_iconst (v := nI (0)) hx hb d_M_begin_51 (by decide) ?_
        rw [hAe] at hS
        exact W.zret (ty := .boolean) hx hb hr (by decide) (fun t ht _ => ⟨rfl, by rw [ht]; exact hP, hS.F ht⟩) hS.2.2 d_M_begin_52
    · refine tI (0) (bI_f k5) ?_
      refine lv_if_eq (tgt := 51) hx hb d_M_begin_15 (by decide) (fun _ => ?_) (fun z => absurd (rfl) z)
      refine lv_iconst (v := nI (0)) hx hb d_M_begin_51 (by decide) ?_
      rw [hAe] at hS
      exact W.zret (ty := .boolean) hx hb hr (by decide) (fun t ht _ => ⟨rfl, by rw [ht]; exact hP, hS.F ht⟩) hS.2.2 d_M_begin_52
