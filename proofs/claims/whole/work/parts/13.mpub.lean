/-! the reference: its methods -/
theorem in_res {x : Int32} {n : Nat} (h1 : 1 ≤ n) (h : n < 2 ^ 31) : bI ((lN (0)).toInt ≤ ((x).toInt64).toInt ∧ ((x).toInt64).toInt ≤ (lN (n - 1)).toInt) = bI (res x.toInt n) := by
  apply bI_iff
  rw [pk_lT (show 0 < 2 ^ 63 by decide), pk_lT (show n - 1 < 2 ^ 63 by omega), i2lI]
  unfold res
  omega
theorem in_ok {a n : Nat} (h : a < n) (hn : n < 2 ^ 31) : bI ((lN (0)).toInt ≤ (lN (a)).toInt ∧ (lN (a)).toInt ≤ (lN (n - 1)).toInt) = 1 := by
  apply bI_t
  rw [pk_lT (show 0 < 2 ^ 63 by decide), pk_lT (show n - 1 < 2 ^ 63 by omega), pk_lT (show a < 2 ^ 63 by omega)]
  omega
theorem in_pos {x : Int32} {n : Nat} (h1 : 1 ≤ n) (h : n < 2 ^ 31) : bI ((lN (1)).toInt ≤ ((x).toInt64).toInt ∧ ((x).toInt64).toInt ≤ (lN (n - 1)).toInt) = bI (1 ≤ x.toInt ∧ x.toInt < n) := by
  apply bI_iff
  rw [pk_lT (show 1 < 2 ^ 63 by decide), pk_lT (show n - 1 < 2 ^ 63 by omega), i2lI]
  omega
theorem resl {a n : Nat} (h : a < n) (hn : n < 2 ^ 31) : res (lN (a)).toInt n := by
  rw [pk_lT (by omega)]
  exact ⟨by omega, by omega⟩
theorem lsub_add {a b c : Nat} (h : b ≤ a + c) : lN a - lN b + lN c = lN (a + c - b) := by
  rw [← lN_sub h, ← lN_add, Int64.sub_eq_add_neg, Int64.sub_eq_add_neg, Int64.add_assoc, Int64.add_assoc, Int64.add_comm (-lN b)]
theorem memI {j n q : Nat} (hj : j < 2 ^ 31) (h : mem (nI (j)).toInt n q) : mem (lN (j)).toInt n q := by
  rw [nI_toInt hj] at h
  rw [pk_lT (by omega)]
  exact h
theorem mem_nat {j n q : Nat} (hj : j < 2 ^ 31) (h : mem (nI (j)).toInt n q) : 1 ≤ j ∧ j < n ∧ j ^ q % n = 1 := by
  rw [nI_toInt hj] at h
  exact ⟨by have := h.1; omega, by have := h.2.1; omega, h.2.2⟩
theorem diff_ne {a b md : Nat} (ha : a < md) (hb : b < md) (h : a ≠ b) : (a + md - b) % md % md ≠ 0 := by
  rw [Nat.mod_mod, diff_val ha hb]
  split <;> omega
theorem feign_inv {y c p q : Nat} (hy : y ^ q % p = 1) (hc : c ≤ q) : (y ^ c % p) * (y ^ (q - c) % p) % p = 1 := by
  rw [← Nat.mul_mod, ← Nat.pow_add, show c + (q - c) = q by omega]
  exact hy
set_option maxHeartbeats 4000000 in
set_option maxRecDepth 100000 in
theorem c_M_thrown (l : Launch) (D : va_G) (h0 : Nat) (er : Int32) (pp qq gg : Nat)  : Met l y_M_thrown (k_M_thrown :: wall) { frames := 0, cells := 0, slots := 0, locals := 0 } (zP [.ref (h0)] (OM D h0 er (lN (pp)) (lN (qq)) (lN (gg)))) (zR (some (.int (er)))) 0 0 (fun _ => False) := by
  refine Met.ofW (cc := b_M_thrown) (maxL := 1) (ret := (some .int)) (by decide) rfl ?_
  intro p e s m args below meth c s₁ B hml hv
  obtain ⟨hv, hP, hK⟩ := hv
  subst hv
  have hx := B.exec
  have hb := B.bytes
  have hr := B.returns
  have hts := atoms_spec (ws := k_M_thrown :: wall) B.pre
  have hw : ∀ w ∈ wall, w.before _ s = true := fun w h => hts w (List.mem_cons_of_mem _ h)
  have hown : s.vm.findClass R_M = some m.cls := findClass_of_methodNamed B.named
  have hlocks := B.notSynchronized
  have hl := lv_entry ([.ref (h0)]) (n := 1) (Nat.le_of_ble_eq_true rfl)
  rw [lg_entry_eq]
  generalize (lg_sl ([.ref (h0)]) ++ List.replicate (1 - (lg_sl ([.ref (h0)])).length) Slot.unset).toArray = ls at hl ⊢
  have hl : lv_has ls 1 [(0, .ref (h0))] := hl
  generalize ([.ref (h0)] : List Value).toArray = args at B hts hw ⊢
  refine lv_aload_n hx hb d_M_thrown_0 rfl (lv_at hl 0 rfl) ?_
  refine va_get (D := D) (ci := 1) (v := .int (er)) (C := R_M) (T := F_M) (N := 4) hx hb hw i_M hown hK hP 0 rfl rfl 0 (by decide) (hw _ fl_M_25) (fun _ h9 => h9) rfl d_M_thrown_1 ?_
  exact W.iret hx hb hr (fun t ht _ => ⟨rfl, ht⟩) (fun _ h => nomatch h) d_M_thrown_4
set_option maxHeartbeats 4000000 in
set_option maxRecDepth 100000 in
theorem c_M_isExponent (l : Launch) (D : va_G) (h0 : Nat) (er : Int32) (pp qq gg : Nat) (hq1 : 1 ≤ qq) (hq : qq < 2 ^ 31) (ev : Int64) : Met l y_M_isExponent (k_M_isExponent :: wall) { frames := 1, cells := 0, slots := 0, locals := 25 } (zP [.ref (h0), .long (ev)] (OM D h0 er (lN (pp)) (lN (qq)) (lN (gg)))) (zR (some (.int (bI (res ev.toInt qq))))) 0 0 (fun _ => False) := by
  refine Met.ofW (cc := b_M_isExponent) (maxL := 3) (ret := (some .boolean)) (by decide) rfl ?_
  intro p e s m args below meth c s₁ B hml hv
  obtain ⟨hv, hP, hK⟩ := hv
  subst hv
  have hx := B.exec
  have hb := B.bytes
  have hr := B.returns
  have hts := atoms_spec (ws := k_M_isExponent :: wall) B.pre
  have hw : ∀ w ∈ wall, w.before _ s = true := fun w h => hts w (List.mem_cons_of_mem _ h)
  have hown : s.vm.findClass R_M = some m.cls := findClass_of_methodNamed B.named
  have hlocks := B.notSynchronized
  have hl := lv_entry ([.ref (h0), .long (ev)]) (n := 3) (Nat.le_of_ble_eq_true rfl)
  rw [lg_entry_eq]
  generalize (lg_sl ([.ref (h0), .long (ev)]) ++ List.replicate (3 - (lg_sl ([.ref (h0), .long (ev)])).length) Slot.unset).toArray = ls at hl ⊢
  have hl : lv_has ls 3 [(0, .ref (h0)), (1, .long (ev))] := hl
  generalize ([.ref (h0), .long (ev)] : List Value).toArray = args at B hts hw ⊢
  refine lv_lload_n hx hb d_M_isExponent_0 rfl (lv_at hl 1 rfl) ?_
  refine lv_lconst (v := lN (0)) hx hb d_M_isExponent_1 (by decide) ?_
  refine lv_aload_n hx hb d_M_isExponent_2 rfl (lv_at hl 0 rfl) ?_
  refine va_get (D := D) (ci := 1) (v := .long (lN (qq))) (C := R_M) (T := F_M) (N := 4) hx hb hw i_M hown hK hP 0 rfl rfl 2 (by decide) (hw _ fl_M_17) (fun _ h9 => h9) rfl d_M_isExponent_3 ?_
  refine lv_lconst (v := lN (1)) hx hb d_M_isExponent_6 (by decide) ?_
  refine lv_lsub hx hb d_M_isExponent_7 ?_
  refine tL (lN (qq - 1)) (lN_sub (by omega)) ?_
  refine zS (As := [.long (ev), .long (lN (0)), .long (lN (qq - 1))]) (rest := []) ⟨hx, hb, hml, hown, hw⟩ (c_M_in l ev (lN (0)) (lN (qq - 1))) g_M_29 rfl rfl pd_M_in ⟨Nat.le_of_ble_eq_true rfl, Nat.le_of_ble_eq_true rfl⟩ hl.1 rfl (Nat.le_of_ble_eq_true rfl) d_M_isExponent_8 ⟨Nat.zero_le _, Nat.zero_le _⟩ ?_
  refine W.eq (g2 := F0 m 11 ls [.int (bI ((lN (0)).toInt ≤ ev.toInt ∧ ev.toInt ≤ (lN (qq - 1)).toInt))]) rfl ?_
  refine tI (bI (res ev.toInt qq)) (bI_iff (by rw [pk_lT (show 0 < 2 ^ 63 by decide), pk_lT (show qq - 1 < 2 ^ 63 by omega)]; unfold res; omega)) ?_
  exact W.zret (ty := .boolean) hx hb hr (bI_n _) (fun t ht _ => ⟨rfl, ht⟩) (fun _ h => nomatch h) d_M_isExponent_11
set_option maxHeartbeats 4000000 in
set_option maxRecDepth 100000 in
theorem c_M_fails_no (l : Launch) (D : va_G) (h0 : Nat) (er : Int32) (pp qq gg : Nat) (he : er = 0) (cv : Int32) : Met l y_M_fails (k_M_fails :: wall) { frames := 0, cells := 0, slots := 0, locals := 0 } (zP [.ref (h0), .int (0), .int (cv)] (OM D h0 er (lN (pp)) (lN (qq)) (lN (gg)))) (zR (some (.int (nI (0))))) 0 0 (fun _ => False) := by
  refine Met.ofW (cc := b_M_fails) (maxL := 3) (ret := (some .boolean)) (by decide) rfl ?_
  intro p e s m args below meth c s₁ B hml hv
  obtain ⟨hv, hP, hK⟩ := hv
  subst hv
  have hx := B.exec
  have hb := B.bytes
  have hr := B.returns
  have hts := atoms_spec (ws := k_M_fails :: wall) B.pre
  have hw : ∀ w ∈ wall, w.before _ s = true := fun w h => hts w (List.mem_cons_of_mem _ h)
  have hown : s.vm.findClass R_M = some m.cls := findClass_of_methodNamed B.named
  have hlocks := B.notSynchronized
  have hl := lv_entry ([.ref (h0), .int (0), .int (cv)]) (n := 3) (Nat.le_of_ble_eq_true rfl)
  rw [lg_entry_eq]
  generalize (lg_sl ([.ref (h0), .int (0), .int (cv)]) ++ List.replicate (3 - (lg_sl ([.ref (h0), .int (0), .int (cv)])).length) Slot.unset).toArray = ls at hl ⊢
  have hl : lv_has ls 3 [(0, .ref (h0)), (1, .int (0)), (2, .int (cv))] := hl
  generalize ([.ref (h0), .int (0), .int (cv)] : List Value).toArray = args at B hts hw ⊢
  refine lv_iload_n hx hb d_M_fails_0 rfl (lv_at hl 1 rfl) ?_
  refine lv_if_eq (tgt := 16) hx hb d_M_fails_1 (by decide) (fun _ => ?_) (fun z => absurd (rfl) z)
  refine lv_aload_n hx hb d_M_fails_16 rfl (lv_at hl 0 rfl) ?_
  refine va_get (D := D) (ci := 1) (v := .int (er)) (C := R_M) (T := F_M) (N := 4) hx hb hw i_M hown hK hP 0 rfl rfl 0 (by decide) (hw _ fl_M_25) (fun _ h9 => h9) rfl d_M_fails_17 ?_
  refine lv_if_eq (tgt := 27) hx hb d_M_fails_20 (by decide) (fun _ => ?_) (fun z => absurd (he) z)
  refine lv_iconst (v := nI (0)) hx hb d_M_fails_27 (by decide) ?_
  exact W.zret (ty := .boolean) hx hb hr (by decide) (fun t ht _ => ⟨rfl, ht⟩) (fun _ h => nomatch h) d_M_fails_28
set_option maxHeartbeats 4000000 in
set_option maxRecDepth 100000 in
theorem c_M_fails_yes (l : Launch) (D : va_G) (h0 : Nat) (er : Int32) (pp qq gg : Nat) (he : er = 0) (cv : Int32) (hc : cv ≠ 0) : Met l y_M_fails (k_M_fails :: wall) { frames := 0, cells := 0, slots := 0, locals := 0 } (zP [.ref (h0), .int (1), .int (cv)] (OM D h0 er (lN (pp)) (lN (qq)) (lN (gg)))) (zW (some (.int (nI (1)))) D [(h0, .inr (1, [.int (cv), .long (lN (pp)), .long (lN (qq)), .long (lN (gg))]))] h0) 0 0 (fun q => q = h0) := by
  refine Met.ofW (cc := b_M_fails) (maxL := 3) (ret := (some .boolean)) (by decide) rfl ?_
  intro p e s m args below meth c s₁ B hml hv
  obtain ⟨hv, hP, hK⟩ := hv
  subst hv
  have hx := B.exec
  have hb := B.bytes
  have hr := B.returns
  have hts := atoms_spec (ws := k_M_fails :: wall) B.pre
  have hw : ∀ w ∈ wall, w.before _ s = true := fun w h => hts w (List.mem_cons_of_mem _ h)
  have hown : s.vm.findClass R_M = some m.cls := findClass_of_methodNamed B.named
  have hlocks := B.notSynchronized
  have hl := lv_entry ([.ref (h0), .int (1), .int (cv)]) (n := 3) (Nat.le_of_ble_eq_true rfl)
  rw [lg_entry_eq]
  generalize (lg_sl ([.ref (h0), .int (1), .int (cv)]) ++ List.replicate (3 - (lg_sl ([.ref (h0), .int (1), .int (cv)])).length) Slot.unset).toArray = ls at hl ⊢
  have hl : lv_has ls 3 [(0, .ref (h0)), (1, .int (1)), (2, .int (cv))] := hl
  generalize ([.ref (h0), .int (1), .int (cv)] : List Value).toArray = args at B hts hw ⊢
  have hD : va_D (fun q => q = h0) [(h0, .inr (1, [.int (er), .long (lN (pp)), .long (lN (qq)), .long (lN (gg))]))] := one_D
  obtain ⟨A, hAe⟩ : ∃ A : Nat → Prop, A = fun q => q = h0 := ⟨_, rfl⟩
  rw [← hAe] at hD
  have hA0 : A h0 := by rw [hAe]
  have hS : va_S A s.heap s.heap [] := va_S.rf
  refine lv_iload_n hx hb d_M_fails_0 rfl (lv_at hl 1 rfl) ?_
  refine lv_if_eq (tgt := 16) hx hb d_M_fails_1 (by decide) (fun z => absurd z (by decide)) (fun _ => ?_)
  refine lv_aload_n hx hb d_M_fails_4 rfl (lv_at hl 0 rfl) ?_
  refine va_get (D := D) (ci := 1) (v := .int (er)) (C := R_M) (T := F_M) (N := 4) hx hb hw i_M hown hK hP 0 rfl rfl 0 (by decide) (hw _ fl_M_25) (fun _ h9 => h9) rfl d_M_fails_5 ?_
  refine lv_if_ne (tgt := 16) hx hb d_M_fails_8 (by decide) (fun z => absurd (he) z) (fun _ => ?_)
  refine lv_aload_n hx hb d_M_fails_11 rfl (lv_at hl 0 rfl) ?_
  refine lv_iload_n hx hb d_M_fails_12 rfl (lv_at hl 2 rfl) ?_
  refine va_put (D := D) (ci := 1) (v := .int (cv)) (ty := .int) (C := R_M) (T := F_M) (N := 4) hx hb hw i_M t_M t_M_ok n_M hown hK hP hD hS 0 rfl rfl 0 (by decide) (hw _ fl_M_25) (fun _ h9 => h9) rfl (by decide +kernel) rfl rfl (Nat.le_of_ble_eq_true rfl) d_M_fails_13 (fun H locs hP hD hS => ?_)
  have hP : va_P D classes [(h0, .inr (1, [.int (cv), .long (lN (pp)), .long (lN (qq)), .long (lN (gg))]))] H := hP
  have hD : va_D A [(h0, .inr (1, [.int (cv), .long (lN (pp)), .long (lN (qq)), .long (lN (gg))]))] := hD
  refine lv_aload_n hx hb d_M_fails_16 rfl (lv_at hl 0 rfl) ?_
  refine va_get (D := D) (ci := 1) (v := .int (cv)) (C := R_M) (T := F_M) (N := 4) hx hb hw i_M hown hK hP 0 rfl rfl 0 (by decide) (hw _ fl_M_25) (fun _ h9 => h9) rfl d_M_fails_17 ?_
  refine lv_if_eq (tgt := 27) hx hb d_M_fails_20 (by decide) (fun z => absurd z (hc)) (fun _ => ?_)
  refine lv_iconst (v := nI (1)) hx hb d_M_fails_23 (by decide) ?_
  refine lv_goto (tgt := 28) hx hb d_M_fails_24 (by decide) ?_
  rw [hAe] at hS
  exact W.zret (ty := .boolean) hx hb hr (by decide) (fun t ht _ => ⟨rfl, by rw [ht]; exact hP, hS.F ht⟩) hS.2.2 d_M_fails_28
set_option maxHeartbeats 4000000 in
set_option maxRecDepth 100000 in
theorem c_M_init (l : Launch) (D : va_G) (h0 : Nat)  : Met l y_M_init (k_M_init :: wall) { frames := 1, cells := 0, slots := 0, locals := 12 } (zP [.ref (h0)] (OM D h0 0 0 0 0)) (zW none D [(h0, .inr (1, [.int (0), .long (lN (23)), .long (lN (11)), .long (lN (2))]))] h0) 0 0 (fun q => q = h0) := by
  refine Met.ofW (cc := b_M_init) (maxL := 1) (ret := none) (by decide) rfl ?_
  intro p e s m args below meth c s₁ B hml hv
  obtain ⟨hv, hP, hK⟩ := hv
  subst hv
  have hx := B.exec
  have hb := B.bytes
  have hr := B.returns
  have hts := atoms_spec (ws := k_M_init :: wall) B.pre
  have hw : ∀ w ∈ wall, w.before _ s = true := fun w h => hts w (List.mem_cons_of_mem _ h)
  have hown : s.vm.findClass R_M = some m.cls := findClass_of_methodNamed B.named
  have hlocks := B.notSynchronized
  have hl := lv_entry ([.ref (h0)]) (n := 1) (Nat.le_of_ble_eq_true rfl)
  rw [lg_entry_eq]
  generalize (lg_sl ([.ref (h0)]) ++ List.replicate (1 - (lg_sl ([.ref (h0)])).length) Slot.unset).toArray = ls at hl ⊢
  have hl : lv_has ls 1 [(0, .ref (h0))] := hl
  generalize ([.ref (h0)] : List Value).toArray = args at B hts hw ⊢
  have hD : va_D (fun q => q = h0) [(h0, .inr (1, [.int (0), .long (0), .long (0), .long (0)]))] := one_D
  obtain ⟨A, hAe⟩ : ∃ A : Nat → Prop, A = fun q => q = h0 := ⟨_, rfl⟩
  rw [← hAe] at hD
  have hA0 : A h0 := by rw [hAe]
  have hS : va_S A s.heap s.heap [] := va_S.rf
  refine lv_aload_n hx hb d_M_init_0 rfl (lv_at hl 0 rfl) ?_
  refine W.objInit hx hb hown (hw _ ml_M_1) (hw _ im_objectInit) (hw _ cw_objectInit) rfl (by rw [hml]; exact hl.1) rfl d_M_init_1 (Nat.le_of_ble_eq_true rfl) (Nat.le_of_ble_eq_true rfl) ?_
  refine W.eq (g2 := F0 m 4 ls []) rfl ?_
  refine lv_aload_n hx hb d_M_init_4 rfl (lv_at hl 0 rfl) ?_
  refine lv_ldc2 hx hb hown (hw _ kl_M_7) d_M_init_5 ?_
  refine tL (lN (23)) (by decide +kernel) ?_
  refine va_put (D := D) (ci := 1) (v := .long (lN (23))) (ty := .long) (C := R_M) (T := F_M) (N := 4) hx hb hw i_M t_M t_M_ok n_M hown hK hP hD hS 0 rfl rfl 1 (by decide) (hw _ fl_M_9) (fun _ h9 => h9) rfl (by decide +kernel) rfl rfl (Nat.le_of_ble_eq_true rfl) d_M_init_8 (fun H locs hP hD hS => ?_)
  have hP : va_P D classes [(h0, .inr (1, [.int (0), .long (lN (23)), .long (0), .long (0)]))] H := hP
  have hD : va_D A [(h0, .inr (1, [.int (0), .long (lN (23)), .long (0), .long (0)]))] := hD
  refine lv_aload_n hx hb d_M_init_11 rfl (lv_at hl 0 rfl) ?_
  refine lv_ldc2 hx hb hown (hw _ kl_M_15) d_M_init_12 ?_
  refine tL (lN (11)) (by decide +kernel) ?_
  refine va_put (D := D) (ci := 1) (v := .long (lN (11))) (ty := .long) (C := R_M) (T := F_M) (N := 4) hx hb hw i_M t_M t_M_ok n_M hown hK hP hD hS 0 rfl rfl 2 (by decide) (hw _ fl_M_17) (fun _ h9 => h9) rfl (by decide +kernel) rfl rfl (Nat.le_of_ble_eq_true rfl) d_M_init_15 (fun H locs hP hD hS => ?_)
  have hP : va_P D classes [(h0, .inr (1, [.int (0), .long (lN (23)), .long (lN (11)), .long (0)]))] H := hP
  have hD : va_D A [(h0, .inr (1, [.int (0), .long (lN (23)), .long (lN (11)), .long (0)]))] := hD
  refine lv_aload_n hx hb d_M_init_18 rfl (lv_at hl 0 rfl) ?_
  refine lv_ldc2 hx hb hown (hw _ kl_M_20) d_M_init_19 ?_
  refine tL (lN (2)) (by decide +kernel) ?_
  refine va_put (D := D) (ci := 1) (v := .long (lN (2))) (ty := .long) (C := R_M) (T := F_M) (N := 4) hx hb hw i_M t_M t_M_ok n_M hown hK hP hD hS 0 rfl rfl 3 (by decide) (hw _ fl_M_22) (fun _ h9 => h9) rfl (by decide +kernel) rfl rfl (Nat.le_of_ble_eq_true rfl) d_M_init_22 (fun H locs hP hD hS => ?_)
  have hP : va_P D classes [(h0, .inr (1, [.int (0), .long (lN (23)), .long (lN (11)), .long (lN (2))]))] H := hP
  have hD : va_D A [(h0, .inr (1, [.int (0), .long (lN (23)), .long (lN (11)), .long (lN (2))]))] := hD
  rw [hAe] at hS
  exact W.vret hx hb hr (fun t ht _ => ⟨rfl, by rw [ht]; exact hP, hS.F ht⟩) hS.2.2 d_M_init_25
set_option maxHeartbeats 4000000 in
set_option maxRecDepth 100000 in
theorem c_M_member (l : Launch) (D : va_G) (h0 : Nat) (er : Int32) (pp qq gg : Nat) (G : grp pp qq gg) (av : Int32) : Met l y_M_member (k_M_member :: wall) { frames := 2, cells := 0, slots := 0, locals := 53 } (zP [.ref (h0), .int (av)] (OM D h0 er (lN (pp)) (lN (qq)) (lN (gg)))) (zW (some (.int (bI (mem av.toInt pp qq)))) D [(h0, .inr (1, [.int (nI (0)), .long (lN (pp)), .long (lN (qq)), .long (lN (gg))]))] h0) 0 0 (fun q => q = h0) := by
  refine Met.ofW (cc := b_M_member) (maxL := 2) (ret := (some .boolean)) (by decide) rfl ?_
  intro p e s m args below meth c s₁ B hml hv
  obtain ⟨hv, hP, hK⟩ := hv
  subst hv
  have hx := B.exec
  have hb := B.bytes
  have hr := B.returns
  have hts := atoms_spec (ws := k_M_member :: wall) B.pre
  have hw : ∀ w ∈ wall, w.before _ s = true := fun w h => hts w (List.mem_cons_of_mem _ h)
  have hown : s.vm.findClass R_M = some m.cls := findClass_of_methodNamed B.named
  have hlocks := B.notSynchronized
  have hl := lv_entry ([.ref (h0), .int (av)]) (n := 2) (Nat.le_of_ble_eq_true rfl)
  rw [lg_entry_eq]
  generalize (lg_sl ([.ref (h0), .int (av)]) ++ List.replicate (2 - (lg_sl ([.ref (h0), .int (av)])).length) Slot.unset).toArray = ls at hl ⊢
  have hl : lv_has ls 2 [(0, .ref (h0)), (1, .int (av))] := hl
  generalize ([.ref (h0), .int (av)] : List Value).toArray = args at B hts hw ⊢
  have hD : va_D (fun q => q = h0) [(h0, .inr (1, [.int (er), .long (lN (pp)), .long (lN (qq)), .long (lN (gg))]))] := one_D
  obtain ⟨A, hAe⟩ : ∃ A : Nat → Prop, A = fun q => q = h0 := ⟨_, rfl⟩
  rw [← hAe] at hD
  have hA0 : A h0 := by rw [hAe]
  have hS : va_S A s.heap s.heap [] := va_S.rf
  have hp5 : 5 ≤ pp := by have := G.1; have := G.2.2.1.1; omega
  have hp := G.2.2.2.2.2.2
  have hq2 : 2 ≤ qq := G.2.2.1.1
  have hq : qq < 2 ^ 31 := by have := G.1; omega
  have hgp : gg < pp := G.2.2.2.2.1
  refine lv_aload_n hx hb d_M_member_0 rfl (lv_at hl 0 rfl) ?_
  refine lv_iconst (v := nI (0)) hx hb d_M_member_1 (by decide) ?_
  refine va_put (D := D) (ci := 1) (v := .int (nI (0))) (ty := .int) (C := R_M) (T := F_M) (N := 4) hx hb hw i_M t_M t_M_ok n_M hown hK hP hD hS 0 rfl rfl 0 (by decide) (hw _ fl_M_25) (fun _ h9 => h9) rfl (by decide +kernel) rfl rfl (Nat.le_of_ble_eq_true rfl) d_M_member_2 (fun H locs hP hD hS => ?_)
  have hP : va_P D classes [(h0, .inr (1, [.int (nI (0)), .long (lN (pp)), .long (lN (qq)), .long (lN (gg))]))] H := hP
  have hD : va_D A [(h0, .inr (1, [.int (nI (0)), .long (lN (pp)), .long (lN (qq)), .long (lN (gg))]))] := hD
  refine lv_iload_n hx hb d_M_member_5 rfl (lv_at hl 1 rfl) ?_
  refine lv_i2l (v := (av).toInt64) hx hb d_M_member_6 (rfl) ?_
  refine lv_aload_n hx hb d_M_member_7 rfl (lv_at hl 0 rfl) ?_
  refine va_get (D := D) (ci := 1) (v := .long (lN (pp))) (C := R_M) (T := F_M) (N := 4) hx hb hw i_M hown hK hP 0 rfl rfl 1 (by decide) (hw _ fl_M_9) (fun _ h9 => h9) rfl d_M_member_8 ?_
  refine lv_aload_n hx hb d_M_member_11 rfl (lv_at hl 0 rfl) ?_
  refine va_get (D := D) (ci := 1) (v := .long (lN (qq))) (C := R_M) (T := F_M) (N := 4) hx hb hw i_M hown hK hP 0 rfl rfl 2 (by decide) (hw _ fl_M_17) (fun _ h9 => h9) rfl d_M_member_12 ?_
  refine zS (As := [.long ((av).toInt64), .long (lN (pp)), .long (lN (qq))]) (rest := []) ⟨hx, hb, hml, hown, hw⟩ (c_M_isMember l ((av).toInt64) pp qq (by omega) hp (by omega)) g_M_41 rfl rfl pd_M_isMember ⟨Nat.le_of_ble_eq_true rfl, Nat.le_of_ble_eq_true rfl⟩ hl.1 rfl (Nat.le_of_ble_eq_true rfl) d_M_member_15 ⟨Nat.zero_le _, Nat.zero_le _⟩ ?_
  refine W.eq (g2 := F0 m 18 ls [.int (bI (mem ((av).toInt64).toInt pp qq))]) rfl ?_
  refine tI (bI (mem av.toInt pp qq)) (by rw [i2lI]) ?_
  rw [hAe] at hS
  exact W.zret (ty := .boolean) hx hb hr (bI_n _) (fun t ht _ => ⟨rfl, by rw [ht]; exact hP, hS.F ht⟩) hS.2.2 d_M_member_18
set_option maxHeartbeats 4000000 in
set_option maxRecDepth 100000 in
theorem c_M_product_ok (l : Launch) (D : va_G) (h0 : Nat) (er : Int32) (pp qq gg : Nat) (G : grp pp qq gg) (aa bb : Nat) (h1 : aa < pp) (h2 : bb < pp) : Met l y_M_product (k_M_product :: wall) { frames := 2, cells := 0, slots := 0, locals := 53 } (zP [.ref (h0), .int (nI (aa)), .int (nI (bb))] (OM D h0 er (lN (pp)) (lN (qq)) (lN (gg)))) (zW (some (.int (nI (aa * bb % pp)))) D [(h0, .inr (1, [.int (nI (0)), .long (lN (pp)), .long (lN (qq)), .long (lN (gg))]))] h0) 0 0 (fun q => q = h0) := by
  refine Met.ofW (cc := b_M_product) (maxL := 3) (ret := (some .int)) (by decide) rfl ?_
  intro p e s m args below meth c s₁ B hml hv
  obtain ⟨hv, hP, hK⟩ := hv
  subst hv
  have hx := B.exec
  have hb := B.bytes
  have hr := B.returns
  have hts := atoms_spec (ws := k_M_product :: wall) B.pre
  have hw : ∀ w ∈ wall, w.before _ s = true := fun w h => hts w (List.mem_cons_of_mem _ h)
  have hown : s.vm.findClass R_M = some m.cls := findClass_of_methodNamed B.named
  have hlocks := B.notSynchronized
  have hl := lv_entry ([.ref (h0), .int (nI (aa)), .int (nI (bb))]) (n := 3) (Nat.le_of_ble_eq_true rfl)
  rw [lg_entry_eq]
  generalize (lg_sl ([.ref (h0), .int (nI (aa)), .int (nI (bb))]) ++ List.replicate (3 - (lg_sl ([.ref (h0), .int (nI (aa)), .int (nI (bb))])).length) Slot.unset).toArray = ls at hl ⊢
  have hl : lv_has ls 3 [(0, .ref (h0)), (1, .int (nI (aa))), (2, .int (nI (bb)))] := hl
  generalize ([.ref (h0), .int (nI (aa)), .int (nI (bb))] : List Value).toArray = args at B hts hw ⊢
  have hD : va_D (fun q => q = h0) [(h0, .inr (1, [.int (er), .long (lN (pp)), .long (lN (qq)), .long (lN (gg))]))] := one_D
  obtain ⟨A, hAe⟩ : ∃ A : Nat → Prop, A = fun q => q = h0 := ⟨_, rfl⟩
  rw [← hAe] at hD
  have hA0 : A h0 := by rw [hAe]
  have hS : va_S A s.heap s.heap [] := va_S.rf
  have hp5 : 5 ≤ pp := by have := G.1; have := G.2.2.1.1; omega
  have hp := G.2.2.2.2.2.2
  have hq2 : 2 ≤ qq := G.2.2.1.1
  have hq : qq < 2 ^ 31 := by have := G.1; omega
  have hgp : gg < pp := G.2.2.2.2.1
  have hab : aa * bb < 2 ^ 62 := mulb (by omega) (by omega)
  refine lv_aload_n hx hb d_M_product_0 rfl (lv_at hl 0 rfl) ?_
  refine lv_iconst (v := nI (0)) hx hb d_M_product_1 (by decide) ?_
  refine va_put (D := D) (ci := 1) (v := .int (nI (0))) (ty := .int) (C := R_M) (T := F_M) (N := 4) hx hb hw i_M t_M t_M_ok n_M hown hK hP hD hS 0 rfl rfl 0 (by decide) (hw _ fl_M_25) (fun _ h9 => h9) rfl (by decide +kernel) rfl rfl (Nat.le_of_ble_eq_true rfl) d_M_product_2 (fun H locs hP hD hS => ?_)
  have hP : va_P D classes [(h0, .inr (1, [.int (nI (0)), .long (lN (pp)), .long (lN (qq)), .long (lN (gg))]))] H := hP
  have hD : va_D A [(h0, .inr (1, [.int (nI (0)), .long (lN (pp)), .long (lN (qq)), .long (lN (gg))]))] := hD
  refine lv_aload_n hx hb d_M_product_5 rfl (lv_at hl 0 rfl) ?_
  refine lv_iload_n hx hb d_M_product_6 rfl (lv_at hl 1 rfl) ?_
  refine lv_i2l (v := lN (aa)) hx hb d_M_product_7 (nI_l (by omega)) ?_
  refine lv_lconst (v := lN (0)) hx hb d_M_product_8 (by decide) ?_
  refine lv_aload_n hx hb d_M_product_9 rfl (lv_at hl 0 rfl) ?_
  refine va_get (D := D) (ci := 1) (v := .long (lN (pp))) (C := R_M) (T := F_M) (N := 4) hx hb hw i_M hown hK hP 0 rfl rfl 1 (by decide) (hw _ fl_M_9) (fun _ h9 => h9) rfl d_M_product_10 ?_
  refine lv_lconst (v := lN (1)) hx hb d_M_product_13 (by decide) ?_
  refine lv_lsub hx hb d_M_product_14 ?_
  refine tL (lN (pp - 1)) (lN_sub (by omega)) ?_
  refine zS (As := [.long (lN (aa)), .long (lN (0)), .long (lN (pp - 1))]) (rest := [.ref (h0)]) ⟨hx, hb, hml, hown, hw⟩ (c_M_in l (lN (aa)) (lN (0)) (lN (pp - 1))) g_M_29 rfl rfl pd_M_in ⟨Nat.le_of_ble_eq_true rfl, Nat.le_of_ble_eq_true rfl⟩ hl.1 rfl (Nat.le_of_ble_eq_true rfl) d_M_product_15 ⟨Nat.zero_le _, Nat.zero_le _⟩ ?_
  refine W.eq (g2 := F0 m 18 ls [.int (bI ((lN (0)).toInt ≤ (lN (aa)).toInt ∧ (lN (aa)).toInt ≤ (lN (pp - 1)).toInt)), .ref (h0)]) rfl ?_
  refine tI (1) (in_ok (by omega) hp) ?_
  refine lv_if_eq (tgt := 36) hx hb d_M_product_18 (by decide) (fun z => absurd z (by decide)) (fun _ => ?_)
  refine lv_iload_n hx hb d_M_product_21 rfl (lv_at hl 2 rfl) ?_
  refine lv_i2l (v := lN (bb)) hx hb d_M_product_22 (nI_l (by omega)) ?_
  refine lv_lconst (v := lN (0)) hx hb d_M_product_23 (by decide) ?_
  refine lv_aload_n hx hb d_M_product_24 rfl (lv_at hl 0 rfl) ?_
  refine va_get (D := D) (ci := 1) (v := .long (lN (pp))) (C := R_M) (T := F_M) (N := 4) hx hb hw i_M hown hK hP 0 rfl rfl 1 (by decide) (hw _ fl_M_9) (fun _ h9 => h9) rfl d_M_product_25 ?_
  refine lv_lconst (v := lN (1)) hx hb d_M_product_28 (by decide) ?_
  refine lv_lsub hx hb d_M_product_29 ?_
  refine tL (lN (pp - 1)) (lN_sub (by omega)) ?_
  refine zS (As := [.long (lN (bb)), .long (lN (0)), .long (lN (pp - 1))]) (rest := [.ref (h0)]) ⟨hx, hb, hml, hown, hw⟩ (c_M_in l (lN (bb)) (lN (0)) (lN (pp - 1))) g_M_29 rfl rfl pd_M_in ⟨Nat.le_of_ble_eq_true rfl, Nat.le_of_ble_eq_true rfl⟩ hl.1 rfl (Nat.le_of_ble_eq_true rfl) d_M_product_30 ⟨Nat.zero_le _, Nat.zero_le _⟩ ?_
  refine W.eq (g2 := F0 m 33 ls [.int (bI ((lN (0)).toInt ≤ (lN (bb)).toInt ∧ (lN (bb)).toInt ≤ (lN (pp - 1)).toInt)), .ref (h0)]) rfl ?_
  refine tI (1) (in_ok (by omega) hp) ?_
  refine lv_if_ne (tgt := 40) hx hb d_M_product_33 (by decide) (fun _ => ?_) (fun z => absurd z (by decide))
  refine lv_iconst (v := nI (0)) hx hb d_M_product_40 (by decide) ?_
  refine lv_iconst (v := nI (1)) hx hb d_M_product_41 (by decide) ?_
  refine W.eq (g2 := F0 m 42 ls [.int (nI (1)), .int (0), .ref (h0)]) (by rw [nI_0]) ?_
  refine zV (b := h0) (As := [.int (0), .int (nI (1))]) (rest := []) ⟨hx, hb, hml, hown, hw⟩ (c_M_fails_no l D h0 (nI (0)) pp qq gg nI_0 (nI (1))) OM_B (OM_at hP hK) (va_recv hK hP (ci := 1) (q0 := 0) rfl rfl) g_M_44 rfl rfl pd_M_fails ⟨Nat.le_of_ble_eq_true rfl, Nat.le_of_ble_eq_true rfl⟩ hl.1 rfl (Nat.le_of_ble_eq_true rfl) d_M_product_42 ⟨Nat.zero_le _, Nat.zero_le _⟩ ?_
  refine W.eq (g2 := F0 m 45 ls [.int (nI (0))]) rfl ?_
  refine lv_if_eq (tgt := 52) hx hb d_M_product_45 (by decide) (fun _ => ?_) (fun z => absurd (rfl) z)
  refine lv_iload_n hx hb d_M_product_52 rfl (lv_at hl 1 rfl) ?_
  refine lv_i2l (v := lN (aa)) hx hb d_M_product_53 (nI_l (by omega)) ?_
  refine lv_iload_n hx hb d_M_product_54 rfl (lv_at hl 2 rfl) ?_
  refine lv_i2l (v := lN (bb)) hx hb d_M_product_55 (nI_l (by omega)) ?_
  refine lv_lmul hx hb d_M_product_56 ?_
  refine tL (lN (aa * bb)) (lN_mul _ _) ?_
  refine lv_aload_n hx hb d_M_product_57 rfl (lv_at hl 0 rfl) ?_
  refine va_get (D := D) (ci := 1) (v := .long (lN (pp))) (C := R_M) (T := F_M) (N := 4) hx hb hw i_M hown hK hP 0 rfl rfl 1 (by decide) (hw _ fl_M_9) (fun _ h9 => h9) rfl d_M_product_58 ?_
  refine lv_lrem hx hb d_M_product_61 (by first | decide | exact nI_ne0 (by omega) (by omega) | exact lN_ne0 (by omega) (by omega)) ?_
  refine tL (lN ((aa * bb) % pp)) (pk_lRem (by omega) (by omega) (by omega)) ?_
  refine lv_l2i (v := nI ((aa * bb) % pp)) hx hb d_M_product_62 (lN_i _) ?_
  rw [hAe] at hS
  exact W.iret hx hb hr (fun t ht _ => ⟨rfl, by rw [ht]; exact hP, hS.F ht⟩) hS.2.2 d_M_product_63
set_option maxHeartbeats 4000000 in
set_option maxRecDepth 100000 in
theorem c_M_product_bad (l : Launch) (D : va_G) (h0 : Nat) (er : Int32) (pp qq gg : Nat) (G : grp pp qq gg) (av bv : Int32) (hno : ¬ (res av.toInt pp ∧ res bv.toInt pp)) : Met l y_M_product (k_M_product :: wall) { frames := 2, cells := 0, slots := 0, locals := 53 } (zP [.ref (h0), .int (av), .int (bv)] (OM D h0 er (lN (pp)) (lN (qq)) (lN (gg)))) (zW (some (.int (nI (0)))) D [(h0, .inr (1, [.int (nI (1)), .long (lN (pp)), .long (lN (qq)), .long (lN (gg))]))] h0) 0 0 (fun q => q = h0) := by
  refine Met.ofW (cc := b_M_product) (maxL := 3) (ret := (some .int)) (by decide) rfl ?_
  intro p e s m args below meth c s₁ B hml hv
  obtain ⟨hv, hP, hK⟩ := hv
  subst hv
  have hx := B.exec
  have hb := B.bytes
  have hr := B.returns
  have hts := atoms_spec (ws := k_M_product :: wall) B.pre
  have hw : ∀ w ∈ wall, w.before _ s = true := fun w h => hts w (List.mem_cons_of_mem _ h)
  have hown : s.vm.findClass R_M = some m.cls := findClass_of_methodNamed B.named
  have hlocks := B.notSynchronized
  have hl := lv_entry ([.ref (h0), .int (av), .int (bv)]) (n := 3) (Nat.le_of_ble_eq_true rfl)
  rw [lg_entry_eq]
  generalize (lg_sl ([.ref (h0), .int (av), .int (bv)]) ++ List.replicate (3 - (lg_sl ([.ref (h0), .int (av), .int (bv)])).length) Slot.unset).toArray = ls at hl ⊢
  have hl : lv_has ls 3 [(0, .ref (h0)), (1, .int (av)), (2, .int (bv))] := hl
  generalize ([.ref (h0), .int (av), .int (bv)] : List Value).toArray = args at B hts hw ⊢
  have hD : va_D (fun q => q = h0) [(h0, .inr (1, [.int (er), .long (lN (pp)), .long (lN (qq)), .long (lN (gg))]))] := one_D
  obtain ⟨A, hAe⟩ : ∃ A : Nat → Prop, A = fun q => q = h0 := ⟨_, rfl⟩
  rw [← hAe] at hD
  have hA0 : A h0 := by rw [hAe]
  have hS : va_S A s.heap s.heap [] := va_S.rf
  have hp5 : 5 ≤ pp := by have := G.1; have := G.2.2.1.1; omega
  have hp := G.2.2.2.2.2.2
  have hq2 : 2 ≤ qq := G.2.2.1.1
  have hq : qq < 2 ^ 31 := by have := G.1; omega
  have hgp : gg < pp := G.2.2.2.2.1
  refine lv_aload_n hx hb d_M_product_0 rfl (lv_at hl 0 rfl) ?_
  refine lv_iconst (v := nI (0)) hx hb d_M_product_1 (by decide) ?_
  refine va_put (D := D) (ci := 1) (v := .int (nI (0))) (ty := .int) (C := R_M) (T := F_M) (N := 4) hx hb hw i_M t_M t_M_ok n_M hown hK hP hD hS 0 rfl rfl 0 (by decide) (hw _ fl_M_25) (fun _ h9 => h9) rfl (by decide +kernel) rfl rfl (Nat.le_of_ble_eq_true rfl) d_M_product_2 (fun H locs hP hD hS => ?_)
  have hP : va_P D classes [(h0, .inr (1, [.int (nI (0)), .long (lN (pp)), .long (lN (qq)), .long (lN (gg))]))] H := hP
  have hD : va_D A [(h0, .inr (1, [.int (nI (0)), .long (lN (pp)), .long (lN (qq)), .long (lN (gg))]))] := hD
  refine lv_aload_n hx hb d_M_product_5 rfl (lv_at hl 0 rfl) ?_
  refine lv_iload_n hx hb d_M_product_6 rfl (lv_at hl 1 rfl) ?_
  refine lv_i2l (v := (av).toInt64) hx hb d_M_product_7 (rfl) ?_
  refine lv_lconst (v := lN (0)) hx hb d_M_product_8 (by decide) ?_
  refine lv_aload_n hx hb d_M_product_9 rfl (lv_at hl 0 rfl) ?_
  refine va_get (D := D) (ci := 1) (v := .long (lN (pp))) (C := R_M) (T := F_M) (N := 4) hx hb hw i_M hown hK hP 0 rfl rfl 1 (by decide) (hw _ fl_M_9) (fun _ h9 => h9) rfl d_M_product_10 ?_
  refine lv_lconst (v := lN (1)) hx hb d_M_product_13 (by decide) ?_
  refine lv_lsub hx hb d_M_product_14 ?_
  refine tL (lN (pp - 1)) (lN_sub (by omega)) ?_
  refine zS (As := [.long ((av).toInt64), .long (lN (0)), .long (lN (pp - 1))]) (rest := [.ref (h0)]) ⟨hx, hb, hml, hown, hw⟩ (c_M_in l ((av).toInt64) (lN (0)) (lN (pp - 1))) g_M_29 rfl rfl pd_M_in ⟨Nat.le_of_ble_eq_true rfl, Nat.le_of_ble_eq_true rfl⟩ hl.1 rfl (Nat.le_of_ble_eq_true rfl) d_M_product_15 ⟨Nat.zero_le _, Nat.zero_le _⟩ ?_
  refine W.eq (g2 := F0 m 18 ls [.int (bI ((lN (0)).toInt ≤ ((av).toInt64).toInt ∧ ((av).toInt64).toInt ≤ (lN (pp - 1)).toInt)), .ref (h0)]) rfl ?_
  refine tI (bI (res av.toInt pp)) (in_res (by omega) hp) ?_
  by_cases h1 : res av.toInt pp
  · refine tI (1) (bI_t h1) ?_
    refine lv_if_eq (tgt := 36) hx hb d_M_product_18 (by decide) (fun z => absurd z (by decide)) (fun _ => ?_)
    refine lv_iload_n hx hb d_M_product_21 rfl (lv_at hl 2 rfl) ?_
    refine lv_i2l (v := (bv).toInt64) hx hb d_M_product_22 (rfl) ?_
    refine lv_lconst (v := lN (0)) hx hb d_M_product_23 (by decide) ?_
    refine lv_aload_n hx hb d_M_product_24 rfl (lv_at hl 0 rfl) ?_
    refine va_get (D := D) (ci := 1) (v := .long (lN (pp))) (C := R_M) (T := F_M) (N := 4) hx hb hw i_M hown hK hP 0 rfl rfl 1 (by decide) (hw _ fl_M_9) (fun _ h9 => h9) rfl d_M_product_25 ?_
    refine lv_lconst (v := lN (1)) hx hb d_M_product_28 (by decide) ?_
    refine lv_lsub hx hb d_M_product_29 ?_
    refine tL (lN (pp - 1)) (lN_sub (by omega)) ?_
    refine zS (As := [.long ((bv).toInt64), .long (lN (0)), .long (lN (pp - 1))]) (rest := [.ref (h0)]) ⟨hx, hb, hml, hown, hw⟩ (c_M_in l ((bv).toInt64) (lN (0)) (lN (pp - 1))) g_M_29 rfl rfl pd_M_in ⟨Nat.le_of_ble_eq_true rfl, Nat.le_of_ble_eq_true rfl⟩ hl.1 rfl (Nat.le_of_ble_eq_true rfl) d_M_product_30 ⟨Nat.zero_le _, Nat.zero_le _⟩ ?_
    refine W.eq (g2 := F0 m 33 ls [.int (bI ((lN (0)).toInt ≤ ((bv).toInt64).toInt ∧ ((bv).toInt64).toInt ≤ (lN (pp - 1)).toInt)), .ref (h0)]) rfl ?_
    refine tI (bI (res bv.toInt pp)) (in_res (by omega) hp) ?_
    refine tI (0) (bI_f (fun z => hno ⟨h1, z⟩)) ?_
    refine lv_if_ne (tgt := 40) hx hb d_M_product_33 (by decide) (fun z => absurd (rfl) z) (fun _ => ?_)
    refine lv_iconst (v := nI (1)) hx hb d_M_product_36 (by decide) ?_
    refine lv_goto (tgt := 41) hx hb d_M_product_37 (by decide) ?_
    refine lv_iconst (v := nI (1)) hx hb d_M_product_41 (by decide) ?_
    refine W.eq (g2 := F0 m 42 ls [.int (nI (1)), .int (1), .ref (h0)]) (by rw [nI_one]) ?_
    refine zVW (b := h0) (As := [.int (1), .int (nI (1))]) (rest := []) ⟨hx, hb, hml, hown, hw⟩ (c_M_fails_yes l D h0 (nI (0)) pp qq gg nI_0 (nI (1)) (by decide)) OM_B (OM_at hP hK) (va_recv hK hP (ci := 1) (q0 := 0) rfl rfl) g_M_44 rfl rfl pd_M_fails ⟨Nat.le_of_ble_eq_true rfl, Nat.le_of_ble_eq_true rfl⟩ hl.1 rfl (Nat.le_of_ble_eq_true rfl) d_M_product_42 ⟨Nat.zero_le _, Nat.zero_le _⟩ hS hA0 (fun H locs hP hz hk hS => ?_)
    have hP : va_P D classes [(h0, .inr (1, [.int (nI (1)), .long (lN (pp)), .long (lN (qq)), .long (lN (gg))]))] H := hP
    refine W.eq (g2 := F0 m 45 ls [.int (nI (1))]) rfl ?_
    refine lv_if_eq (tgt := 52) hx hb d_M_product_45 (by decide) (fun z => absurd z (by decide)) (fun _ => ?_)
    refine lv_iconst (v := nI (0)) hx hb d_M_product_48 (by decide) ?_
    refine lv_goto (tgt := 63) hx hb d_M_product_49 (by decide) ?_
    rw [hAe] at hS
    exact W.iret hx hb hr (fun t ht _ => ⟨rfl, by rw [ht]; exact hP, hS.F ht⟩) hS.2.2 d_M_product_63
  · refine tI (0) (bI_f h1) ?_
    refine lv_if_eq (tgt := 36) hx hb d_M_product_18 (by decide) (fun _ => ?_) (fun z => absurd (rfl) z)
    refine lv_iconst (v := nI (1)) hx hb d_M_product_36 (by decide) ?_
    refine lv_goto (tgt := 41) hx hb d_M_product_37 (by decide) ?_
    refine lv_iconst (v := nI (1)) hx hb d_M_product_41 (by decide) ?_
    refine W.eq (g2 := F0 m 42 ls [.int (nI (1)), .int (1), .ref (h0)]) (by rw [nI_one]) ?_
    refine zVW (b := h0) (As := [.int (1), .int (nI (1))]) (rest := []) ⟨hx, hb, hml, hown, hw⟩ (c_M_fails_yes l D h0 (nI (0)) pp qq gg nI_0 (nI (1)) (by decide)) OM_B (OM_at hP hK) (va_recv hK hP (ci := 1) (q0 := 0) rfl rfl) g_M_44 rfl rfl pd_M_fails ⟨Nat.le_of_ble_eq_true rfl, Nat.le_of_ble_eq_true rfl⟩ hl.1 rfl (Nat.le_of_ble_eq_true rfl) d_M_product_42 ⟨Nat.zero_le _, Nat.zero_le _⟩ hS hA0 (fun H locs hP hz hk hS => ?_)
    have hP : va_P D classes [(h0, .inr (1, [.int (nI (1)), .long (lN (pp)), .long (lN (qq)), .long (lN (gg))]))] H := hP
    refine W.eq (g2 := F0 m 45 ls [.int (nI (1))]) rfl ?_
    refine lv_if_eq (tgt := 52) hx hb d_M_product_45 (by decide) (fun z => absurd z (by decide)) (fun _ => ?_)
    refine lv_iconst (v := nI (0)) hx hb d_M_product_48 (by decide) ?_
    refine lv_goto (tgt := 63) hx hb d_M_product_49 (by decide) ?_
    rw [hAe] at hS
    exact W.iret hx hb hr (fun t ht _ => ⟨rfl, by rw [ht]; exact hP, hS.F ht⟩) hS.2.2 d_M_product_63
set_option maxHeartbeats 4000000 in
set_option maxRecDepth 100000 in
theorem c_M_power_IJ_ok (l : Launch) (D : va_G) (h0 : Nat) (er : Int32) (pp qq gg : Nat) (G : grp pp qq gg) (aa ee : Nat) (h1 : aa < pp) (h2 : ee < 2 ^ 63) : Met l y_M_power_IJ (k_M_power_IJ :: wall) { frames := 2, cells := 0, slots := 0, locals := 53 } (zP [.ref (h0), .int (nI (aa)), .long (lN (ee))] (OM D h0 er (lN (pp)) (lN (qq)) (lN (gg)))) (zW (some (.int (nI (aa ^ ee % pp)))) D [(h0, .inr (1, [.int (nI (0)), .long (lN (pp)), .long (lN (qq)), .long (lN (gg))]))] h0) 0 0 (fun q => q = h0) := by
  refine Met.ofW (cc := b_M_power_IJ) (maxL := 4) (ret := (some .int)) (by decide) rfl ?_
  intro p e s m args below meth c s₁ B hml hv
  obtain ⟨hv, hP, hK⟩ := hv
  subst hv
  have hx := B.exec
  have hb := B.bytes
  have hr := B.returns
  have hts := atoms_spec (ws := k_M_power_IJ :: wall) B.pre
  have hw : ∀ w ∈ wall, w.before _ s = true := fun w h => hts w (List.mem_cons_of_mem _ h)
  have hown : s.vm.findClass R_M = some m.cls := findClass_of_methodNamed B.named
  have hlocks := B.notSynchronized
  have hl := lv_entry ([.ref (h0), .int (nI (aa)), .long (lN (ee))]) (n := 4) (Nat.le_of_ble_eq_true rfl)
  rw [lg_entry_eq]
  generalize (lg_sl ([.ref (h0), .int (nI (aa)), .long (lN (ee))]) ++ List.replicate (4 - (lg_sl ([.ref (h0), .int (nI (aa)), .long (lN (ee))])).length) Slot.unset).toArray = ls at hl ⊢
  have hl : lv_has ls 4 [(0, .ref (h0)), (1, .int (nI (aa))), (2, .long (lN (ee)))] := hl
  generalize ([.ref (h0), .int (nI (aa)), .long (lN (ee))] : List Value).toArray = args at B hts hw ⊢
  have hD : va_D (fun q => q = h0) [(h0, .inr (1, [.int (er), .long (lN (pp)), .long (lN (qq)), .long (lN (gg))]))] := one_D
  obtain ⟨A, hAe⟩ : ∃ A : Nat → Prop, A = fun q => q = h0 := ⟨_, rfl⟩
  rw [← hAe] at hD
  have hA0 : A h0 := by rw [hAe]
  have hS : va_S A s.heap s.heap [] := va_S.rf
  have hp5 : 5 ≤ pp := by have := G.1; have := G.2.2.1.1; omega
  have hp := G.2.2.2.2.2.2
  have hq2 : 2 ≤ qq := G.2.2.1.1
  have hq : qq < 2 ^ 31 := by have := G.1; omega
  have hgp : gg < pp := G.2.2.2.2.1
  refine lv_aload_n hx hb d_M_power_IJ_0 rfl (lv_at hl 0 rfl) ?_
  refine lv_iconst (v := nI (0)) hx hb d_M_power_IJ_1 (by decide) ?_
  refine va_put (D := D) (ci := 1) (v := .int (nI (0))) (ty := .int) (C := R_M) (T := F_M) (N := 4) hx hb hw i_M t_M t_M_ok n_M hown hK hP hD hS 0 rfl rfl 0 (by decide) (hw _ fl_M_25) (fun _ h9 => h9) rfl (by decide +kernel) rfl rfl (Nat.le_of_ble_eq_true rfl) d_M_power_IJ_2 (fun H locs hP hD hS => ?_)
  have hP : va_P D classes [(h0, .inr (1, [.int (nI (0)), .long (lN (pp)), .long (lN (qq)), .long (lN (gg))]))] H := hP
  have hD : va_D A [(h0, .inr (1, [.int (nI (0)), .long (lN (pp)), .long (lN (qq)), .long (lN (gg))]))] := hD
  refine lv_aload_n hx hb d_M_power_IJ_5 rfl (lv_at hl 0 rfl) ?_
  refine lv_iload_n hx hb d_M_power_IJ_6 rfl (lv_at hl 1 rfl) ?_
  refine lv_i2l (v := lN (aa)) hx hb d_M_power_IJ_7 (nI_l (by omega)) ?_
  refine lv_lconst (v := lN (0)) hx hb d_M_power_IJ_8 (by decide) ?_
  refine lv_aload_n hx hb d_M_power_IJ_9 rfl (lv_at hl 0 rfl) ?_
  refine va_get (D := D) (ci := 1) (v := .long (lN (pp))) (C := R_M) (T := F_M) (N := 4) hx hb hw i_M hown hK hP 0 rfl rfl 1 (by decide) (hw _ fl_M_9) (fun _ h9 => h9) rfl d_M_power_IJ_10 ?_
  refine lv_lconst (v := lN (1)) hx hb d_M_power_IJ_13 (by decide) ?_
  refine lv_lsub hx hb d_M_power_IJ_14 ?_
  refine tL (lN (pp - 1)) (lN_sub (by omega)) ?_
  refine zS (As := [.long (lN (aa)), .long (lN (0)), .long (lN (pp - 1))]) (rest := [.ref (h0)]) ⟨hx, hb, hml, hown, hw⟩ (c_M_in l (lN (aa)) (lN (0)) (lN (pp - 1))) g_M_29 rfl rfl pd_M_in ⟨Nat.le_of_ble_eq_true rfl, Nat.le_of_ble_eq_true rfl⟩ hl.1 rfl (Nat.le_of_ble_eq_true rfl) d_M_power_IJ_15 ⟨Nat.zero_le _, Nat.zero_le _⟩ ?_
  refine W.eq (g2 := F0 m 18 ls [.int (bI ((lN (0)).toInt ≤ (lN (aa)).toInt ∧ (lN (aa)).toInt ≤ (lN (pp - 1)).toInt)), .ref (h0)]) rfl ?_
  refine tI (1) (in_ok (by omega) hp) ?_
  refine lv_if_eq (tgt := 27) hx hb d_M_power_IJ_18 (by decide) (fun z => absurd z (by decide)) (fun _ => ?_)
  refine lv_lload_n hx hb d_M_power_IJ_21 rfl (lv_at hl 2 rfl) ?_
  refine lv_lconst (v := lN (0)) hx hb d_M_power_IJ_22 (by decide) ?_
  refine W.lcmp hx hb d_M_power_IJ_23 ?_
  refine lv_if_ge (tgt := 31) hx hb d_M_power_IJ_24 (by decide) (fun _ => ?_) (fun z => absurd ((lg_cmp_ge _ _).mpr ((pk_lLE (by decide) h2).mpr (by omega))) z)
  refine lv_iconst (v := nI (0)) hx hb d_M_power_IJ_31 (by decide) ?_
  refine lv_iconst (v := nI (1)) hx hb d_M_power_IJ_32 (by decide) ?_
  refine W.eq (g2 := F0 m 33 ls [.int (nI (1)), .int (0), .ref (h0)]) (by rw [nI_0]) ?_
  refine zV (b := h0) (As := [.int (0), .int (nI (1))]) (rest := []) ⟨hx, hb, hml, hown, hw⟩ (c_M_fails_no l D h0 (nI (0)) pp qq gg nI_0 (nI (1))) OM_B (OM_at hP hK) (va_recv hK hP (ci := 1) (q0 := 0) rfl rfl) g_M_44 rfl rfl pd_M_fails ⟨Nat.le_of_ble_eq_true rfl, Nat.le_of_ble_eq_true rfl⟩ hl.1 rfl (Nat.le_of_ble_eq_true rfl) d_M_power_IJ_33 ⟨Nat.zero_le _, Nat.zero_le _⟩ ?_
  refine W.eq (g2 := F0 m 36 ls [.int (nI (0))]) rfl ?_
  refine lv_if_eq (tgt := 43) hx hb d_M_power_IJ_36 (by decide) (fun _ => ?_) (fun z => absurd (rfl) z)
  refine lv_iload_n hx hb d_M_power_IJ_43 rfl (lv_at hl 1 rfl) ?_
  refine lv_i2l (v := lN (aa)) hx hb d_M_power_IJ_44 (nI_l (by omega)) ?_
  refine lv_lload_n hx hb d_M_power_IJ_45 rfl (lv_at hl 2 rfl) ?_
  refine lv_aload_n hx hb d_M_power_IJ_46 rfl (lv_at hl 0 rfl) ?_
  refine va_get (D := D) (ci := 1) (v := .long (lN (pp))) (C := R_M) (T := F_M) (N := 4) hx hb hw i_M hown hK hP 0 rfl rfl 1 (by decide) (hw _ fl_M_9) (fun _ h9 => h9) rfl d_M_power_IJ_47 ?_
  refine zS (As := [.long (lN (aa)), .long (lN (ee)), .long (lN (pp))]) (rest := []) ⟨hx, hb, hml, hown, hw⟩ (c_M_power_JJJ l aa ee pp (by omega) h2 (by omega) hp) g_M_33 rfl rfl pd_M_power_JJJ ⟨Nat.le_of_ble_eq_true rfl, Nat.le_of_ble_eq_true rfl⟩ hl.1 rfl (Nat.le_of_ble_eq_true rfl) d_M_power_IJ_50 ⟨Nat.zero_le _, Nat.zero_le _⟩ ?_
  refine W.eq (g2 := F0 m 53 ls [.long (lN (aa ^ ee % pp))]) rfl ?_
  refine lv_l2i (v := nI (aa ^ ee % pp)) hx hb d_M_power_IJ_53 (lN_i _) ?_
  rw [hAe] at hS
  exact W.iret hx hb hr (fun t ht _ => ⟨rfl, by rw [ht]; exact hP, hS.F ht⟩) hS.2.2 d_M_power_IJ_54
set_option maxHeartbeats 4000000 in
set_option maxRecDepth 100000 in
theorem c_M_power_IJ_bad (l : Launch) (D : va_G) (h0 : Nat) (er : Int32) (pp qq gg : Nat) (G : grp pp qq gg) (av : Int32) (ev : Int64) (hno : ¬ (res av.toInt pp ∧ 0 ≤ ev.toInt)) : Met l y_M_power_IJ (k_M_power_IJ :: wall) { frames := 2, cells := 0, slots := 0, locals := 53 } (zP [.ref (h0), .int (av), .long (ev)] (OM D h0 er (lN (pp)) (lN (qq)) (lN (gg)))) (zW (some (.int (nI (0)))) D [(h0, .inr (1, [.int (nI (1)), .long (lN (pp)), .long (lN (qq)), .long (lN (gg))]))] h0) 0 0 (fun q => q = h0) := by
  refine Met.ofW (cc := b_M_power_IJ) (maxL := 4) (ret := (some .int)) (by decide) rfl ?_
  intro p e s m args below meth c s₁ B hml hv
  obtain ⟨hv, hP, hK⟩ := hv
  subst hv
  have hx := B.exec
  have hb := B.bytes
  have hr := B.returns
  have hts := atoms_spec (ws := k_M_power_IJ :: wall) B.pre
  have hw : ∀ w ∈ wall, w.before _ s = true := fun w h => hts w (List.mem_cons_of_mem _ h)
  have hown : s.vm.findClass R_M = some m.cls := findClass_of_methodNamed B.named
  have hlocks := B.notSynchronized
  have hl := lv_entry ([.ref (h0), .int (av), .long (ev)]) (n := 4) (Nat.le_of_ble_eq_true rfl)
  rw [lg_entry_eq]
  generalize (lg_sl ([.ref (h0), .int (av), .long (ev)]) ++ List.replicate (4 - (lg_sl ([.ref (h0), .int (av), .long (ev)])).length) Slot.unset).toArray = ls at hl ⊢
  have hl : lv_has ls 4 [(0, .ref (h0)), (1, .int (av)), (2, .long (ev))] := hl
  generalize ([.ref (h0), .int (av), .long (ev)] : List Value).toArray = args at B hts hw ⊢
  have hD : va_D (fun q => q = h0) [(h0, .inr (1, [.int (er), .long (lN (pp)), .long (lN (qq)), .long (lN (gg))]))] := one_D
  obtain ⟨A, hAe⟩ : ∃ A : Nat → Prop, A = fun q => q = h0 := ⟨_, rfl⟩
  rw [← hAe] at hD
  have hA0 : A h0 := by rw [hAe]
  have hS : va_S A s.heap s.heap [] := va_S.rf
  have hp5 : 5 ≤ pp := by have := G.1; have := G.2.2.1.1; omega
  have hp := G.2.2.2.2.2.2
  have hq2 : 2 ≤ qq := G.2.2.1.1
  have hq : qq < 2 ^ 31 := by have := G.1; omega
  have hgp : gg < pp := G.2.2.2.2.1
  refine lv_aload_n hx hb d_M_power_IJ_0 rfl (lv_at hl 0 rfl) ?_
  refine lv_iconst (v := nI (0)) hx hb d_M_power_IJ_1 (by decide) ?_
  refine va_put (D := D) (ci := 1) (v := .int (nI (0))) (ty := .int) (C := R_M) (T := F_M) (N := 4) hx hb hw i_M t_M t_M_ok n_M hown hK hP hD hS 0 rfl rfl 0 (by decide) (hw _ fl_M_25) (fun _ h9 => h9) rfl (by decide +kernel) rfl rfl (Nat.le_of_ble_eq_true rfl) d_M_power_IJ_2 (fun H locs hP hD hS => ?_)
  have hP : va_P D classes [(h0, .inr (1, [.int (nI (0)), .long (lN (pp)), .long (lN (qq)), .long (lN (gg))]))] H := hP
  have hD : va_D A [(h0, .inr (1, [.int (nI (0)), .long (lN (pp)), .long (lN (qq)), .long (lN (gg))]))] := hD
  refine lv_aload_n hx hb d_M_power_IJ_5 rfl (lv_at hl 0 rfl) ?_
  refine lv_iload_n hx hb d_M_power_IJ_6 rfl (lv_at hl 1 rfl) ?_
  refine lv_i2l (v := (av).toInt64) hx hb d_M_power_IJ_7 (rfl) ?_
  refine lv_lconst (v := lN (0)) hx hb d_M_power_IJ_8 (by decide) ?_
  refine lv_aload_n hx hb d_M_power_IJ_9 rfl (lv_at hl 0 rfl) ?_
  refine va_get (D := D) (ci := 1) (v := .long (lN (pp))) (C := R_M) (T := F_M) (N := 4) hx hb hw i_M hown hK hP 0 rfl rfl 1 (by decide) (hw _ fl_M_9) (fun _ h9 => h9) rfl d_M_power_IJ_10 ?_
  refine lv_lconst (v := lN (1)) hx hb d_M_power_IJ_13 (by decide) ?_
  refine lv_lsub hx hb d_M_power_IJ_14 ?_
  refine tL (lN (pp - 1)) (lN_sub (by omega)) ?_
  refine zS (As := [.long ((av).toInt64), .long (lN (0)), .long (lN (pp - 1))]) (rest := [.ref (h0)]) ⟨hx, hb, hml, hown, hw⟩ (c_M_in l ((av).toInt64) (lN (0)) (lN (pp - 1))) g_M_29 rfl rfl pd_M_in ⟨Nat.le_of_ble_eq_true rfl, Nat.le_of_ble_eq_true rfl⟩ hl.1 rfl (Nat.le_of_ble_eq_true rfl) d_M_power_IJ_15 ⟨Nat.zero_le _, Nat.zero_le _⟩ ?_
  refine W.eq (g2 := F0 m 18 ls [.int (bI ((lN (0)).toInt ≤ ((av).toInt64).toInt ∧ ((av).toInt64).toInt ≤ (lN (pp - 1)).toInt)), .ref (h0)]) rfl ?_
  refine tI (bI (res av.toInt pp)) (in_res (by omega) hp) ?_
  by_cases h1 : res av.toInt pp
  · refine tI (1) (bI_t h1) ?_
    refine lv_if_eq (tgt := 27) hx hb d_M_power_IJ_18 (by decide) (fun z => absurd z (by decide)) (fun _ => ?_)
    refine lv_lload_n hx hb d_M_power_IJ_21 rfl (lv_at hl 2 rfl) ?_
    refine lv_lconst (v := lN (0)) hx hb d_M_power_IJ_22 (by decide) ?_
    refine W.lcmp hx hb d_M_power_IJ_23 ?_
    refine lv_if_ge (tgt := 31) hx hb d_M_power_IJ_24 (by decide) (fun z => absurd z (fun z9 => (fun z => hno ⟨h1, by have := lle.mp z; exact this⟩) ((lg_cmp_ge _ _).mp z9))) (fun _ => ?_)
    refine lv_iconst (v := nI (1)) hx hb d_M_power_IJ_27 (by decide) ?_
    refine lv_goto (tgt := 32) hx hb d_M_power_IJ_28 (by decide) ?_
    refine lv_iconst (v := nI (1)) hx hb d_M_power_IJ_32 (by decide) ?_
    refine W.eq (g2 := F0 m 33 ls [.int (nI (1)), .int (1), .ref (h0)]) (by rw [nI_one]) ?_
    refine zVW (b := h0) (As := [.int (1), .int (nI (1))]) (rest := []) ⟨hx, hb, hml, hown, hw⟩ (c_M_fails_yes l D h0 (nI (0)) pp qq gg nI_0 (nI (1)) (by decide)) OM_B (OM_at hP hK) (va_recv hK hP (ci := 1) (q0 := 0) rfl rfl) g_M_44 rfl rfl pd_M_fails ⟨Nat.le_of_ble_eq_true rfl, Nat.le_of_ble_eq_true rfl⟩ hl.1 rfl (Nat.le_of_ble_eq_true rfl) d_M_power_IJ_33 ⟨Nat.zero_le _, Nat.zero_le _⟩ hS hA0 (fun H locs hP hz hk hS => ?_)
    have hP : va_P D classes [(h0, .inr (1, [.int (nI (1)), .long (lN (pp)), .long (lN (qq)), .long (lN (gg))]))] H := hP
    refine W.eq (g2 := F0 m 36 ls [.int (nI (1))]) rfl ?_
    refine lv_if_eq (tgt := 43) hx hb d_M_power_IJ_36 (by decide) (fun z => absurd z (by decide)) (fun _ => ?_)
    refine lv_iconst (v := nI (0)) hx hb d_M_power_IJ_39 (by decide) ?_
    refine lv_goto (tgt := 54) hx hb d_M_power_IJ_40 (by decide) ?_
    rw [hAe] at hS
    exact W.iret hx hb hr (fun t ht _ => ⟨rfl, by rw [ht]; exact hP, hS.F ht⟩) hS.2.2 d_M_power_IJ_54
  · refine tI (0) (bI_f h1) ?_
    refine lv_if_eq (tgt := 27) hx hb d_M_power_IJ_18 (by decide) (fun _ => ?_) (fun z => absurd (rfl) z)
    refine lv_iconst (v := nI (1)) hx hb d_M_power_IJ_27 (by decide) ?_
    refine lv_goto (tgt := 32) hx hb d_M_power_IJ_28 (by decide) ?_
    refine lv_iconst (v := nI (1)) hx hb d_M_power_IJ_32 (by decide) ?_
    refine W.eq (g2 := F0 m 33 ls [.int (nI (1)), .int (1), .ref (h0)]) (by rw [nI_one]) ?_
    refine zVW (b := h0) (As := [.int (1), .int (nI (1))]) (rest := []) ⟨hx, hb, hml, hown, hw⟩ (c_M_fails_yes l D h0 (nI (0)) pp qq gg nI_0 (nI (1)) (by decide)) OM_B (OM_at hP hK) (va_recv hK hP (ci := 1) (q0 := 0) rfl rfl) g_M_44 rfl rfl pd_M_fails ⟨Nat.le_of_ble_eq_true rfl, Nat.le_of_ble_eq_true rfl⟩ hl.1 rfl (Nat.le_of_ble_eq_true rfl) d_M_power_IJ_33 ⟨Nat.zero_le _, Nat.zero_le _⟩ hS hA0 (fun H locs hP hz hk hS => ?_)
    have hP : va_P D classes [(h0, .inr (1, [.int (nI (1)), .long (lN (pp)), .long (lN (qq)), .long (lN (gg))]))] H := hP
    refine W.eq (g2 := F0 m 36 ls [.int (nI (1))]) rfl ?_
    refine lv_if_eq (tgt := 43) hx hb d_M_power_IJ_36 (by decide) (fun z => absurd z (by decide)) (fun _ => ?_)
    refine lv_iconst (v := nI (0)) hx hb d_M_power_IJ_39 (by decide) ?_
    refine lv_goto (tgt := 54) hx hb d_M_power_IJ_40 (by decide) ?_
    rw [hAe] at hS
    exact W.iret hx hb hr (fun t ht _ => ⟨rfl, by rw [ht]; exact hP, hS.F ht⟩) hS.2.2 d_M_power_IJ_54
set_option maxHeartbeats 4000000 in
set_option maxRecDepth 100000 in
theorem c_M_inverse_I_ok (l : Launch) (D : va_G) (h0 : Nat) (er : Int32) (pp qq gg : Nat) (G : grp pp qq gg) (aa : Nat) (h0a : 1 ≤ aa) (h1 : aa < pp) : Met l y_M_inverse_I (k_M_inverse_I :: wall) { frames := 2, cells := 0, slots := 0, locals := 53 } (zP [.ref (h0), .int (nI (aa))] (OM D h0 er (lN (pp)) (lN (qq)) (lN (gg)))) (zW (some (.int (nI (aa ^ (pp - 2) % pp)))) D [(h0, .inr (1, [.int (nI (0)), .long (lN (pp)), .long (lN (qq)), .long (lN (gg))]))] h0) 0 0 (fun q => q = h0) := by
  refine Met.ofW (cc := b_M_inverse_I) (maxL := 2) (ret := (some .int)) (by decide) rfl ?_
  intro p e s m args below meth c s₁ B hml hv
  obtain ⟨hv, hP, hK⟩ := hv
  subst hv
  have hx := B.exec
  have hb := B.bytes
  have hr := B.returns
  have hts := atoms_spec (ws := k_M_inverse_I :: wall) B.pre
  have hw : ∀ w ∈ wall, w.before _ s = true := fun w h => hts w (List.mem_cons_of_mem _ h)
  have hown : s.vm.findClass R_M = some m.cls := findClass_of_methodNamed B.named
  have hlocks := B.notSynchronized
  have hl := lv_entry ([.ref (h0), .int (nI (aa))]) (n := 2) (Nat.le_of_ble_eq_true rfl)
  rw [lg_entry_eq]
  generalize (lg_sl ([.ref (h0), .int (nI (aa))]) ++ List.replicate (2 - (lg_sl ([.ref (h0), .int (nI (aa))])).length) Slot.unset).toArray = ls at hl ⊢
  have hl : lv_has ls 2 [(0, .ref (h0)), (1, .int (nI (aa)))] := hl
  generalize ([.ref (h0), .int (nI (aa))] : List Value).toArray = args at B hts hw ⊢
  have hD : va_D (fun q => q = h0) [(h0, .inr (1, [.int (er), .long (lN (pp)), .long (lN (qq)), .long (lN (gg))]))] := one_D
  obtain ⟨A, hAe⟩ : ∃ A : Nat → Prop, A = fun q => q = h0 := ⟨_, rfl⟩
  rw [← hAe] at hD
  have hA0 : A h0 := by rw [hAe]
  have hS : va_S A s.heap s.heap [] := va_S.rf
  have hp5 : 5 ≤ pp := by have := G.1; have := G.2.2.1.1; omega
  have hp := G.2.2.2.2.2.2
  have hq2 : 2 ≤ qq := G.2.2.1.1
  have hq : qq < 2 ^ 31 := by have := G.1; omega
  have hgp : gg < pp := G.2.2.2.2.1
  have hin : aa * (aa ^ (pp - 2) % pp) % pp = 1 := inv_pow G.2.1 (by rw [Nat.mod_eq_of_lt h1]; omega)
  have hlt : aa ^ (pp - 2) % pp < pp := Nat.mod_lt _ (by omega)
  refine lv_aload_n hx hb d_M_inverse_I_0 rfl (lv_at hl 0 rfl) ?_
  refine lv_iconst (v := nI (0)) hx hb d_M_inverse_I_1 (by decide) ?_
  refine va_put (D := D) (ci := 1) (v := .int (nI (0))) (ty := .int) (C := R_M) (T := F_M) (N := 4) hx hb hw i_M t_M t_M_ok n_M hown hK hP hD hS 0 rfl rfl 0 (by decide) (hw _ fl_M_25) (fun _ h9 => h9) rfl (by decide +kernel) rfl rfl (Nat.le_of_ble_eq_true rfl) d_M_inverse_I_2 (fun H locs hP hD hS => ?_)
  have hP : va_P D classes [(h0, .inr (1, [.int (nI (0)), .long (lN (pp)), .long (lN (qq)), .long (lN (gg))]))] H := hP
  have hD : va_D A [(h0, .inr (1, [.int (nI (0)), .long (lN (pp)), .long (lN (qq)), .long (lN (gg))]))] := hD
  refine lv_aload_n hx hb d_M_inverse_I_5 rfl (lv_at hl 0 rfl) ?_
  refine lv_iload_n hx hb d_M_inverse_I_6 rfl (lv_at hl 1 rfl) ?_
  refine lv_i2l (v := lN (aa)) hx hb d_M_inverse_I_7 (nI_l (by omega)) ?_
  refine lv_lconst (v := lN (1)) hx hb d_M_inverse_I_8 (by decide) ?_
  refine lv_aload_n hx hb d_M_inverse_I_9 rfl (lv_at hl 0 rfl) ?_
  refine va_get (D := D) (ci := 1) (v := .long (lN (pp))) (C := R_M) (T := F_M) (N := 4) hx hb hw i_M hown hK hP 0 rfl rfl 1 (by decide) (hw _ fl_M_9) (fun _ h9 => h9) rfl d_M_inverse_I_10 ?_
  refine lv_lconst (v := lN (1)) hx hb d_M_inverse_I_13 (by decide) ?_
  refine lv_lsub hx hb d_M_inverse_I_14 ?_
  refine tL (lN (pp - 1)) (lN_sub (by omega)) ?_
  refine zS (As := [.long (lN (aa)), .long (lN (1)), .long (lN (pp - 1))]) (rest := [.ref (h0)]) ⟨hx, hb, hml, hown, hw⟩ (c_M_in l (lN (aa)) (lN (1)) (lN (pp - 1))) g_M_29 rfl rfl pd_M_in ⟨Nat.le_of_ble_eq_true rfl, Nat.le_of_ble_eq_true rfl⟩ hl.1 rfl (Nat.le_of_ble_eq_true rfl) d_M_inverse_I_15 ⟨Nat.zero_le _, Nat.zero_le _⟩ ?_
  refine W.eq (g2 := F0 m 18 ls [.int (bI ((lN (1)).toInt ≤ (lN (aa)).toInt ∧ (lN (aa)).toInt ≤ (lN (pp - 1)).toInt)), .ref (h0)]) rfl ?_
  refine tI (1) (bI_t (by rw [pk_lT (show 1 < 2 ^ 63 by decide), pk_lT (show pp - 1 < 2 ^ 63 by omega), pk_lT (show aa < 2 ^ 63 by omega)]; omega)) ?_
  refine lv_if_ne (tgt := 25) hx hb d_M_inverse_I_18 (by decide) (fun _ => ?_) (fun z => absurd z (by decide))
  refine lv_iconst (v := nI (0)) hx hb d_M_inverse_I_25 (by decide) ?_
  refine lv_iconst (v := nI (1)) hx hb d_M_inverse_I_26 (by decide) ?_
  refine W.eq (g2 := F0 m 27 ls [.int (nI (1)), .int (0), .ref (h0)]) (by rw [nI_0]) ?_
  refine zV (b := h0) (As := [.int (0), .int (nI (1))]) (rest := []) ⟨hx, hb, hml, hown, hw⟩ (c_M_fails_no l D h0 (nI (0)) pp qq gg nI_0 (nI (1))) OM_B (OM_at hP hK) (va_recv hK hP (ci := 1) (q0 := 0) rfl rfl) g_M_44 rfl rfl pd_M_fails ⟨Nat.le_of_ble_eq_true rfl, Nat.le_of_ble_eq_true rfl⟩ hl.1 rfl (Nat.le_of_ble_eq_true rfl) d_M_inverse_I_27 ⟨Nat.zero_le _, Nat.zero_le _⟩ ?_
  refine W.eq (g2 := F0 m 30 ls [.int (nI (0))]) rfl ?_
  refine lv_if_eq (tgt := 37) hx hb d_M_inverse_I_30 (by decide) (fun _ => ?_) (fun z => absurd (rfl) z)
  refine lv_iload_n hx hb d_M_inverse_I_37 rfl (lv_at hl 1 rfl) ?_
  refine lv_i2l (v := lN (aa)) hx hb d_M_inverse_I_38 (nI_l (by omega)) ?_
  refine lv_aload_n hx hb d_M_inverse_I_39 rfl (lv_at hl 0 rfl) ?_
  refine va_get (D := D) (ci := 1) (v := .long (lN (pp))) (C := R_M) (T := F_M) (N := 4) hx hb hw i_M hown hK hP 0 rfl rfl 1 (by decide) (hw _ fl_M_9) (fun _ h9 => h9) rfl d_M_inverse_I_40 ?_
  refine zS (As := [.long (lN (aa)), .long (lN (pp))]) (rest := []) ⟨hx, hb, hml, hown, hw⟩ (c_M_inverse_JJ l aa pp (aa ^ (pp - 2) % pp) h1 (by omega) hp hlt hin) g_M_48 rfl rfl pd_M_inverse_JJ ⟨Nat.le_of_ble_eq_true rfl, Nat.le_of_ble_eq_true rfl⟩ hl.1 rfl (Nat.le_of_ble_eq_true rfl) d_M_inverse_I_43 ⟨Nat.zero_le _, Nat.zero_le _⟩ ?_
  refine W.eq (g2 := F0 m 46 ls [.long (lN (aa ^ (pp - 2) % pp))]) rfl ?_
  refine lv_l2i (v := nI (aa ^ (pp - 2) % pp)) hx hb d_M_inverse_I_46 (lN_i _) ?_
  rw [hAe] at hS
  exact W.iret hx hb hr (fun t ht _ => ⟨rfl, by rw [ht]; exact hP, hS.F ht⟩) hS.2.2 d_M_inverse_I_47
set_option maxHeartbeats 4000000 in
set_option maxRecDepth 100000 in
theorem c_M_inverse_I_bad (l : Launch) (D : va_G) (h0 : Nat) (er : Int32) (pp qq gg : Nat) (G : grp pp qq gg) (av : Int32) (hno : ¬ (1 ≤ av.toInt ∧ av.toInt < pp)) : Met l y_M_inverse_I (k_M_inverse_I :: wall) { frames := 2, cells := 0, slots := 0, locals := 53 } (zP [.ref (h0), .int (av)] (OM D h0 er (lN (pp)) (lN (qq)) (lN (gg)))) (zW (some (.int (nI (0)))) D [(h0, .inr (1, [.int (nI (1)), .long (lN (pp)), .long (lN (qq)), .long (lN (gg))]))] h0) 0 0 (fun q => q = h0) := by
  refine Met.ofW (cc := b_M_inverse_I) (maxL := 2) (ret := (some .int)) (by decide) rfl ?_
  intro p e s m args below meth c s₁ B hml hv
  obtain ⟨hv, hP, hK⟩ := hv
  subst hv
  have hx := B.exec
  have hb := B.bytes
  have hr := B.returns
  have hts := atoms_spec (ws := k_M_inverse_I :: wall) B.pre
  have hw : ∀ w ∈ wall, w.before _ s = true := fun w h => hts w (List.mem_cons_of_mem _ h)
  have hown : s.vm.findClass R_M = some m.cls := findClass_of_methodNamed B.named
  have hlocks := B.notSynchronized
  have hl := lv_entry ([.ref (h0), .int (av)]) (n := 2) (Nat.le_of_ble_eq_true rfl)
  rw [lg_entry_eq]
  generalize (lg_sl ([.ref (h0), .int (av)]) ++ List.replicate (2 - (lg_sl ([.ref (h0), .int (av)])).length) Slot.unset).toArray = ls at hl ⊢
  have hl : lv_has ls 2 [(0, .ref (h0)), (1, .int (av))] := hl
  generalize ([.ref (h0), .int (av)] : List Value).toArray = args at B hts hw ⊢
  have hD : va_D (fun q => q = h0) [(h0, .inr (1, [.int (er), .long (lN (pp)), .long (lN (qq)), .long (lN (gg))]))] := one_D
  obtain ⟨A, hAe⟩ : ∃ A : Nat → Prop, A = fun q => q = h0 := ⟨_, rfl⟩
  rw [← hAe] at hD
  have hA0 : A h0 := by rw [hAe]
  have hS : va_S A s.heap s.heap [] := va_S.rf
  have hp5 : 5 ≤ pp := by have := G.1; have := G.2.2.1.1; omega
  have hp := G.2.2.2.2.2.2
  have hq2 : 2 ≤ qq := G.2.2.1.1
  have hq : qq < 2 ^ 31 := by have := G.1; omega
  have hgp : gg < pp := G.2.2.2.2.1
  refine lv_aload_n hx hb d_M_inverse_I_0 rfl (lv_at hl 0 rfl) ?_
  refine lv_iconst (v := nI (0)) hx hb d_M_inverse_I_1 (by decide) ?_
  refine va_put (D := D) (ci := 1) (v := .int (nI (0))) (ty := .int) (C := R_M) (T := F_M) (N := 4) hx hb hw i_M t_M t_M_ok n_M hown hK hP hD hS 0 rfl rfl 0 (by decide) (hw _ fl_M_25) (fun _ h9 => h9) rfl (by decide +kernel) rfl rfl (Nat.le_of_ble_eq_true rfl) d_M_inverse_I_2 (fun H locs hP hD hS => ?_)
  have hP : va_P D classes [(h0, .inr (1, [.int (nI (0)), .long (lN (pp)), .long (lN (qq)), .long (lN (gg))]))] H := hP
  have hD : va_D A [(h0, .inr (1, [.int (nI (0)), .long (lN (pp)), .long (lN (qq)), .long (lN (gg))]))] := hD
  refine lv_aload_n hx hb d_M_inverse_I_5 rfl (lv_at hl 0 rfl) ?_
  refine lv_iload_n hx hb d_M_inverse_I_6 rfl (lv_at hl 1 rfl) ?_
  refine lv_i2l (v := (av).toInt64) hx hb d_M_inverse_I_7 (rfl) ?_
  refine lv_lconst (v := lN (1)) hx hb d_M_inverse_I_8 (by decide) ?_
  refine lv_aload_n hx hb d_M_inverse_I_9 rfl (lv_at hl 0 rfl) ?_
  refine va_get (D := D) (ci := 1) (v := .long (lN (pp))) (C := R_M) (T := F_M) (N := 4) hx hb hw i_M hown hK hP 0 rfl rfl 1 (by decide) (hw _ fl_M_9) (fun _ h9 => h9) rfl d_M_inverse_I_10 ?_
  refine lv_lconst (v := lN (1)) hx hb d_M_inverse_I_13 (by decide) ?_
  refine lv_lsub hx hb d_M_inverse_I_14 ?_
  refine tL (lN (pp - 1)) (lN_sub (by omega)) ?_
  refine zS (As := [.long ((av).toInt64), .long (lN (1)), .long (lN (pp - 1))]) (rest := [.ref (h0)]) ⟨hx, hb, hml, hown, hw⟩ (c_M_in l ((av).toInt64) (lN (1)) (lN (pp - 1))) g_M_29 rfl rfl pd_M_in ⟨Nat.le_of_ble_eq_true rfl, Nat.le_of_ble_eq_true rfl⟩ hl.1 rfl (Nat.le_of_ble_eq_true rfl) d_M_inverse_I_15 ⟨Nat.zero_le _, Nat.zero_le _⟩ ?_
  refine W.eq (g2 := F0 m 18 ls [.int (bI ((lN (1)).toInt ≤ ((av).toInt64).toInt ∧ ((av).toInt64).toInt ≤ (lN (pp - 1)).toInt)), .ref (h0)]) rfl ?_
  refine tI (0) ((in_pos (by omega) hp).trans (bI_f hno)) ?_
  refine lv_if_ne (tgt := 25) hx hb d_M_inverse_I_18 (by decide) (fun z => absurd (rfl) z) (fun _ => ?_)
  refine lv_iconst (v := nI (1)) hx hb d_M_inverse_I_21 (by decide) ?_
  refine lv_goto (tgt := 26) hx hb d_M_inverse_I_22 (by decide) ?_
  refine lv_iconst (v := nI (1)) hx hb d_M_inverse_I_26 (by decide) ?_
  refine W.eq (g2 := F0 m 27 ls [.int (nI (1)), .int (1), .ref (h0)]) (by rw [nI_one]) ?_
  refine zVW (b := h0) (As := [.int (1), .int (nI (1))]) (rest := []) ⟨hx, hb, hml, hown, hw⟩ (c_M_fails_yes l D h0 (nI (0)) pp qq gg nI_0 (nI (1)) (by decide)) OM_B (OM_at hP hK) (va_recv hK hP (ci := 1) (q0 := 0) rfl rfl) g_M_44 rfl rfl pd_M_fails ⟨Nat.le_of_ble_eq_true rfl, Nat.le_of_ble_eq_true rfl⟩ hl.1 rfl (Nat.le_of_ble_eq_true rfl) d_M_inverse_I_27 ⟨Nat.zero_le _, Nat.zero_le _⟩ hS hA0 (fun H locs hP hz hk hS => ?_)
  have hP : va_P D classes [(h0, .inr (1, [.int (nI (1)), .long (lN (pp)), .long (lN (qq)), .long (lN (gg))]))] H := hP
  refine W.eq (g2 := F0 m 30 ls [.int (nI (1))]) rfl ?_
  refine lv_if_eq (tgt := 37) hx hb d_M_inverse_I_30 (by decide) (fun z => absurd z (by decide)) (fun _ => ?_)
  refine lv_iconst (v := nI (0)) hx hb d_M_inverse_I_33 (by decide) ?_
  refine lv_goto (tgt := 47) hx hb d_M_inverse_I_34 (by decide) ?_
  rw [hAe] at hS
  exact W.iret hx hb hr (fun t ht _ => ⟨rfl, by rw [ht]; exact hP, hS.F ht⟩) hS.2.2 d_M_inverse_I_47
