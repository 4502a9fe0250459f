/-! the throws of the class; its private guards -/
def exN : List String := ["java/lang/RuntimeException", "java/lang/Exception"]
def exB (cls : String) : List Cond := Cond.castable cls cls :: decls.map (fun C => Cond.declares (Bundle.initS C))
theorem at_IAE : ∀ w ∈ (vx_atS R_X 42 IAE exN).filter goodWord, w ∈ wall := by decide +kernel
theorem at_ISE : ∀ w ∈ (vx_atS R_X 62 ISE exN).filter goodWord, w ∈ wall := by decide +kernel
theorem an_IAE : ∀ w ∈ (vx_atS R_X 42 IAE exN).filter (fun w => !goodWord w), w ∈ exB IAE := by decide +kernel
theorem an_ISE : ∀ w ∈ (vx_atS R_X 62 ISE exN).filter (fun w => !goodWord w), w ∈ exB ISE := by decide +kernel
theorem ao_IAE : ∀ w ∈ Cond.classLink R_X 38 IAE :: Cond.initialized IAE :: vx_atS R_X 42 IAE exN, vx_ot w = true := by decide +kernel
theorem ao_ISE : ∀ w ∈ Cond.classLink R_X 58 ISE :: Cond.initialized ISE :: vx_atS R_X 62 ISE exN, vx_ot w = true := by decide +kernel
set_option maxHeartbeats 1000000 in
theorem zThr {p : Program} {l : Launch} {e : Env} {R : Room} {s : State} {m : MethodId} {args : Array Value} {below : List Frame} {meth : Method} {c : Code} {Qc : Array Value → State → Outcome → State → Prop} {cc : ByteArray} {pc : Nat} {ls : Array Slot} {rest : List Value}
    {cls text : String} {ik is ic nL : Nat} (hx : p.tables.exec = Jvm.exec) (hb : c.code = cc) (hL : l.stackTraces = false) (hown : s.vm.findClass R_X = some m.cls) (hw : ∀ w ∈ wall, w.before args s = true) (hT : TW s)
    (hfit : Bundle.fit cls = true) (h1 : ∀ w ∈ (vx_atS R_X ic cls exN).filter goodWord, w ∈ wall) (h2 : ∀ w ∈ (vx_atS R_X ic cls exN).filter (fun w => !goodWord w), w ∈ exB cls) (h3 : va_Nw (.castable cls cls) s) (h4 : ∀ w ∈ Cond.classLink R_X ik cls :: Cond.initialized cls :: vx_atS R_X ic cls exN, vx_ot w = true)
    (hk : Cond.classLink R_X ik cls ∈ wall) (hi : Cond.initialized cls ∈ wall) (hs : (is, text) ∈ strs) (hml : c.maxLocals = nL) (hsize : ls.size = nL) (ht : ∀ x ∈ c.exceptionTable.toList, False) (hlocks : meth.locks = false)
    (d0 : decode cc pc = .ok (.new ik, 3)) (d3 : decode cc (pc + 3) = .ok (.dup, 1)) (d4 : decode cc (pc + 4) = .ok (.ldc is, 2)) (d6 : decode cc (pc + 6) = .ok (.invokespecial ic, 3)) (d9 : decode cc (pc + 9) = .ok (.athrow, 1))
    (hRf : 5 < R.frames) (hRl : (rest.map fun v => v.category).sum + 82 ≤ R.locals) (hRc : 1 ≤ R.cells) (hRs : 6 ≤ R.slots) :
    W p l e R s m args below meth c s.heap [] 0 0 (vx_MQ below Qc (zT cls) args s 1 6 (fun _ => False)) (F0 m pc ls rest) := by
  obtain ⟨sa, hsa⟩ := hT.2.2.2.2.1 (is, text) hs
  exact vx_throwS (names := exN) (A := fun _ => False) hx hb hL hown hfit (by decide +kernel) (hw _ hk) (hw _ hi) hsa (vx_hat (fun w hm => hw w (h1 w hm)) h2 (vx_c (va_Nw.use rfl h3) (fun w hm => by
    obtain ⟨C, hC, rfl⟩ := List.mem_map.mp hm
    exact va_Nw.use rfl (hT.2.2.2.2.2 C hC)))) h4 hT.2.2.1 hT.2.2.2.1 va_S.rf (hsize.trans hml.symm) d0 d3 d4 d6 d9
    (fun x hx => (ht x hx).elim) hRf hRl (by omega) (by omega) hlocks (fun t _ g1 g2 => ⟨rfl, g1, g2⟩) (fun z hz => nomatch hz) (by omega) (by omega)
/-- from 0 to n - 1 -/
def res (z : Int) (n : Nat) : Prop := 0 ≤ z ∧ z < n
theorem res_of {x : Int32} {n : Nat} (h : res x.toInt n) : ∃ j : Nat, j < n ∧ j < 2 ^ 31 ∧ x = nI j ∧ x.toInt = (j : Int) := by
  obtain ⟨j, h1, h2, h3⟩ := ofnn h.1
  exact ⟨j, by have := h.2; omega, h1, h2, h3⟩
theorem mem_of {x : Int32} {n q : Nat} (h : mem x.toInt n q) : ∃ j : Nat, 1 ≤ j ∧ j < n ∧ j < 2 ^ 31 ∧ x = nI j ∧ x.toInt = (j : Int) ∧ j ^ q % n = 1 := by
  obtain ⟨j, h1, h2, h3⟩ := ofnn (x := x) (by have := h.1; omega)
  have a := h.1
  have b := h.2.1
  have d := h.2.2
  rw [h3] at a b d
  exact ⟨j, by omega, by omega, h1, h2, h3, d⟩
theorem grp_half {p q g : Nat} (G : grp p q g) : (p - 1) / 2 = q := by
  have := G.1
  omega
set_option maxHeartbeats 4000000 in
set_option maxRecDepth 100000 in
theorem c_X_requireResidue_ok (l : Launch) (D : va_G) (h0 pp qq gg : Nat) (hp : pp < 2 ^ 31) (av : Int32) (hv1 : res av.toInt pp) : Met l y_X_requireResidue (k_X_requireResidue :: wall) { frames := 6, cells := 0, slots := 0, locals := 82 } (zP [.ref (h0), .int (av)] (OX D h0 (nI (pp)) (nI (qq)) (nI (gg)))) (zR none) 0 0 (fun _ => False) := by
  refine Met.ofW (cc := b_X_requireResidue) (maxL := 2) (ret := none) (by decide) rfl ?_
  intro p e s m args below meth c s₁ B hml hv
  obtain ⟨hv, hP, hK, hT⟩ := hv
  subst hv
  have hx := B.exec
  have hb := B.bytes
  have hr := B.returns
  have hts := atoms_spec (ws := k_X_requireResidue :: wall) B.pre
  have hw : ∀ w ∈ wall, w.before _ s = true := fun w h => hts w (List.mem_cons_of_mem _ h)
  have hown : s.vm.findClass R_X = some m.cls := findClass_of_methodNamed B.named
  have hlocks := B.notSynchronized
  have hl := lv_entry ([.ref (h0), .int (av)]) (n := 2) (Nat.le_of_ble_eq_true rfl)
  rw [lg_entry_eq]
  generalize (lg_sl ([.ref (h0), .int (av)]) ++ List.replicate (2 - (lg_sl ([.ref (h0), .int (av)])).length) Slot.unset).toArray = ls at hl ⊢
  have hl : lv_has ls 2 [(0, .ref (h0)), (1, .int (av))] := hl
  generalize ([.ref (h0), .int (av)] : List Value).toArray = args at B hts hw ⊢
  refine lv_iload_n hx hb d_X_requireResidue_0 rfl (lv_at hl 1 rfl) ?_
  refine lv_if_lt (tgt := 12) hx hb d_X_requireResidue_1 (by decide) (fun z => absurd z (fun z => by have := ilt.mp z; rw [i0] at this; have := hv1.1; omega)) (fun _ => ?_)
  refine lv_iload_n hx hb d_X_requireResidue_4 rfl (lv_at hl 1 rfl) ?_
  refine lv_aload_n hx hb d_X_requireResidue_5 rfl (lv_at hl 0 rfl) ?_
  refine va_get (D := D) (ci := 0) (v := .int (nI (pp))) (C := R_X) (T := F_X) (N := 3) hx hb hw i_X hown hK hP 0 rfl rfl 0 (by decide) (hw _ fl_X_7) (fun _ h9 => h9) rfl d_X_requireResidue_6 ?_
  refine lv_icmp_lt (tgt := 22) hx hb d_X_requireResidue_9 (by decide) (fun _ => ?_) (fun z => absurd (ilt.mpr (by rw [nI_toInt hp]; exact hv1.2)) z)
  exact W.vret hx hb hr (fun t ht _ => ⟨rfl, ht⟩) (fun _ h => nomatch h) d_X_requireResidue_22
set_option maxHeartbeats 4000000 in
set_option maxRecDepth 100000 in
theorem c_X_requireResidue_bad (l : Launch) (hL : l.stackTraces = false) (D : va_G) (h0 pp qq gg : Nat) (hp : pp < 2 ^ 31) (av : Int32) (hv1 : ¬ res av.toInt pp) : vx_Met l y_X_requireResidue (k_X_requireResidue :: wall) { frames := 6, cells := 1, slots := 6, locals := 82 } (zP [.ref (h0), .int (av)] (OX D h0 (nI (pp)) (nI (qq)) (nI (gg)))) (fun _ _ _ _ => False) (zT IAE) 1 6 (fun _ => False) := by
  refine vx_ofW (cc := b_X_requireResidue) (maxL := 2) (ret := none) (by decide) rfl ?_
  intro p e s m args below meth c s₁ B hml ht hv
  obtain ⟨hv, hP, hK, hT⟩ := hv
  subst hv
  have hx := B.exec
  have hb := B.bytes
  have hr := B.returns
  have hts := atoms_spec (ws := k_X_requireResidue :: wall) B.pre
  have hw : ∀ w ∈ wall, w.before _ s = true := fun w h => hts w (List.mem_cons_of_mem _ h)
  have hown : s.vm.findClass R_X = some m.cls := findClass_of_methodNamed B.named
  have hlocks := B.notSynchronized
  have hl := lv_entry ([.ref (h0), .int (av)]) (n := 2) (Nat.le_of_ble_eq_true rfl)
  rw [lg_entry_eq]
  generalize (lg_sl ([.ref (h0), .int (av)]) ++ List.replicate (2 - (lg_sl ([.ref (h0), .int (av)])).length) Slot.unset).toArray = ls at hl ⊢
  have hl : lv_has ls 2 [(0, .ref (h0)), (1, .int (av))] := hl
  generalize ([.ref (h0), .int (av)] : List Value).toArray = args at B hts hw ⊢
  refine lv_iload_n hx hb d_X_requireResidue_0 rfl (lv_at hl 1 rfl) ?_
  refine lv_if_lt (tgt := 12) hx hb d_X_requireResidue_1 (by decide) (fun cc => ?_) (fun cc => ?_)
  · exact zThr (cls := IAE) (text := "a number is not 0 to p - 1") (ik := 38) (is := 80) (ic := 42) hx hb hL hown hw hT (by decide +kernel) at_IAE an_IAE hT.1 ao_IAE cl_X_38 in_IllegalArgumentException (by decide +kernel) hml hl.1 ht hlocks d_X_requireResidue_12 d_X_requireResidue_15 d_X_requireResidue_16 d_X_requireResidue_18 d_X_requireResidue_21 (Nat.le_of_ble_eq_true rfl) (Nat.le_of_ble_eq_true rfl) (Nat.le_of_ble_eq_true rfl) (Nat.le_of_ble_eq_true rfl)
  · have c1 : 0 ≤ av.toInt := Int.not_lt.mp fun z => cc (ilt.mpr (by rw [i0]; exact z))
    refine lv_iload_n hx hb d_X_requireResidue_4 rfl (lv_at hl 1 rfl) ?_
    refine lv_aload_n hx hb d_X_requireResidue_5 rfl (lv_at hl 0 rfl) ?_
    refine va_get (D := D) (ci := 0) (v := .int (nI (pp))) (C := R_X) (T := F_X) (N := 3) hx hb hw i_X hown hK hP 0 rfl rfl 0 (by decide) (hw _ fl_X_7) (fun _ h9 => h9) rfl d_X_requireResidue_6 ?_
    refine lv_icmp_lt (tgt := 22) hx hb d_X_requireResidue_9 (by decide) (fun z => absurd z (fun z => hv1 ⟨c1, by have := ilt.mp z; rw [nI_toInt hp] at this; exact this⟩)) (fun _ => ?_)
    exact zThr (cls := IAE) (text := "a number is not 0 to p - 1") (ik := 38) (is := 80) (ic := 42) hx hb hL hown hw hT (by decide +kernel) at_IAE an_IAE hT.1 ao_IAE cl_X_38 in_IllegalArgumentException (by decide +kernel) hml hl.1 ht hlocks d_X_requireResidue_12 d_X_requireResidue_15 d_X_requireResidue_16 d_X_requireResidue_18 d_X_requireResidue_21 (Nat.le_of_ble_eq_true rfl) (Nat.le_of_ble_eq_true rfl) (Nat.le_of_ble_eq_true rfl) (Nat.le_of_ble_eq_true rfl)
set_option maxHeartbeats 4000000 in
set_option maxRecDepth 100000 in
theorem c_X_isExponent (l : Launch) (D : va_G) (h0 pp qq gg : Nat) (hq : qq < 2 ^ 31) (av : Int32) : Met l y_X_isExponent (k_X_isExponent :: wall) { frames := 0, cells := 0, slots := 0, locals := 0 } (zP [.ref (h0), .int (av)] (OX D h0 (nI (pp)) (nI (qq)) (nI (gg)))) (zR (some (.int (bI (res av.toInt qq))))) 0 0 (fun _ => False) := by
  refine Met.ofW (cc := b_X_isExponent) (maxL := 2) (ret := (some .boolean)) (by decide) rfl ?_
  intro p e s m args below meth c s₁ B hml hv
  obtain ⟨hv, hP, hK, hT⟩ := hv
  subst hv
  have hx := B.exec
  have hb := B.bytes
  have hr := B.returns
  have hts := atoms_spec (ws := k_X_isExponent :: wall) B.pre
  have hw : ∀ w ∈ wall, w.before _ s = true := fun w h => hts w (List.mem_cons_of_mem _ h)
  have hown : s.vm.findClass R_X = some m.cls := findClass_of_methodNamed B.named
  have hlocks := B.notSynchronized
  have hl := lv_entry ([.ref (h0), .int (av)]) (n := 2) (Nat.le_of_ble_eq_true rfl)
  rw [lg_entry_eq]
  generalize (lg_sl ([.ref (h0), .int (av)]) ++ List.replicate (2 - (lg_sl ([.ref (h0), .int (av)])).length) Slot.unset).toArray = ls at hl ⊢
  have hl : lv_has ls 2 [(0, .ref (h0)), (1, .int (av))] := hl
  generalize ([.ref (h0), .int (av)] : List Value).toArray = args at B hts hw ⊢
  refine lv_iload_n hx hb d_X_isExponent_0 rfl (lv_at hl 1 rfl) ?_
  refine lv_if_lt (tgt := 16) hx hb d_X_isExponent_1 (by decide) (fun cc => ?_) (fun cc => ?_)
  · have cc := ilt.mp cc
    rw [i0] at cc
    rw [bI_f (fun z : res av.toInt qq => by have := z.1; omega)]
    refine lv_iconst (v := nI (0)) hx hb d_X_isExponent_16 (by decide) ?_
    exact W.zret (ty := .boolean) hx hb hr (by decide) (fun t ht _ => ⟨rfl, ht⟩) (fun _ h => nomatch h) d_X_isExponent_17
  · have c1 : 0 ≤ av.toInt := Int.not_lt.mp fun z => cc (ilt.mpr (by rw [i0]; exact z))
    refine lv_iload_n hx hb d_X_isExponent_4 rfl (lv_at hl 1 rfl) ?_
    refine lv_aload_n hx hb d_X_isExponent_5 rfl (lv_at hl 0 rfl) ?_
    refine va_get (D := D) (ci := 0) (v := .int (nI (qq))) (C := R_X) (T := F_X) (N := 3) hx hb hw i_X hown hK hP 0 rfl rfl 1 (by decide) (hw _ fl_X_13) (fun _ h9 => h9) rfl d_X_isExponent_6 ?_
    refine lv_icmp_ge (tgt := 16) hx hb d_X_isExponent_9 (by decide) (fun cc => ?_) (fun cc => ?_)
    · have cc := ile.mp cc
      rw [nI_toInt hq] at cc
      rw [bI_f (fun z : res av.toInt qq => by have := z.2; omega)]
      refine lv_iconst (v := nI (0)) hx hb d_X_isExponent_16 (by decide) ?_
      exact W.zret (ty := .boolean) hx hb hr (by decide) (fun t ht _ => ⟨rfl, ht⟩) (fun _ h => nomatch h) d_X_isExponent_17
    · have c2 : av.toInt < qq := Int.not_le.mp fun z => cc (ile.mpr (by rw [nI_toInt hq]; exact z))
      rw [bI_t (show res av.toInt qq from ⟨c1, c2⟩)]
      refine lv_iconst (v := nI (1)) hx hb d_X_isExponent_12 (by decide) ?_
      refine lv_goto (tgt := 17) hx hb d_X_isExponent_13 (by decide) ?_
      exact W.zret (ty := .boolean) hx hb hr (by decide) (fun t ht _ => ⟨rfl, ht⟩) (fun _ h => nomatch h) d_X_isExponent_17
set_option maxHeartbeats 4000000 in
set_option maxRecDepth 100000 in
theorem c_X_requireExponent_ok (l : Launch) (D : va_G) (h0 pp qq gg : Nat) (hq : qq < 2 ^ 31) (av : Int32) (hv1 : res av.toInt qq) : Met l y_X_requireExponent (k_X_requireExponent :: wall) { frames := 6, cells := 0, slots := 0, locals := 82 } (zP [.ref (h0), .int (av)] (OX D h0 (nI (pp)) (nI (qq)) (nI (gg)))) (zR none) 0 0 (fun _ => False) := by
  refine Met.ofW (cc := b_X_requireExponent) (maxL := 2) (ret := none) (by decide) rfl ?_
  intro p e s m args below meth c s₁ B hml hv
  obtain ⟨hv, hP, hK, hT⟩ := hv
  subst hv
  have hx := B.exec
  have hb := B.bytes
  have hr := B.returns
  have hts := atoms_spec (ws := k_X_requireExponent :: wall) B.pre
  have hw : ∀ w ∈ wall, w.before _ s = true := fun w h => hts w (List.mem_cons_of_mem _ h)
  have hown : s.vm.findClass R_X = some m.cls := findClass_of_methodNamed B.named
  have hlocks := B.notSynchronized
  have hl := lv_entry ([.ref (h0), .int (av)]) (n := 2) (Nat.le_of_ble_eq_true rfl)
  rw [lg_entry_eq]
  generalize (lg_sl ([.ref (h0), .int (av)]) ++ List.replicate (2 - (lg_sl ([.ref (h0), .int (av)])).length) Slot.unset).toArray = ls at hl ⊢
  have hl : lv_has ls 2 [(0, .ref (h0)), (1, .int (av))] := hl
  generalize ([.ref (h0), .int (av)] : List Value).toArray = args at B hts hw ⊢
  refine lv_aload_n hx hb d_X_requireExponent_0 rfl (lv_at hl 0 rfl) ?_
  refine lv_iload_n hx hb d_X_requireExponent_1 rfl (lv_at hl 1 rfl) ?_
  refine zV (b := h0) (As := [.int (av)]) (rest := []) ⟨hx, hb, hml, hown, hw⟩ (c_X_isExponent l D h0 pp qq gg hq av) OX_B (OX_at hP hK hT (fun _ _ => rfl)) (va_recv hK hP (ci := 0) (q0 := 0) rfl rfl) g_X_63 rfl rfl pd_X_isExponent ⟨Nat.le_of_ble_eq_true rfl, Nat.le_of_ble_eq_true rfl⟩ hl.1 rfl (Nat.le_of_ble_eq_true rfl) d_X_requireExponent_2 ⟨Nat.zero_le _, Nat.zero_le _⟩ ?_
  refine W.eq (g2 := F0 m 5 ls [.int (bI (res av.toInt qq))]) rfl ?_
  refine tI (1) (bI_t hv1) ?_
  refine lv_if_ne (tgt := 18) hx hb d_X_requireExponent_5 (by decide) (fun _ => ?_) (fun z => absurd z (by decide))
  exact W.vret hx hb hr (fun t ht _ => ⟨rfl, ht⟩) (fun _ h => nomatch h) d_X_requireExponent_18
set_option maxHeartbeats 4000000 in
set_option maxRecDepth 100000 in
theorem c_X_requireExponent_bad (l : Launch) (hL : l.stackTraces = false) (D : va_G) (h0 pp qq gg : Nat) (hq : qq < 2 ^ 31) (av : Int32) (hv1 : ¬ res av.toInt qq) : vx_Met l y_X_requireExponent (k_X_requireExponent :: wall) { frames := 6, cells := 1, slots := 6, locals := 82 } (zP [.ref (h0), .int (av)] (OX D h0 (nI (pp)) (nI (qq)) (nI (gg)))) (fun _ _ _ _ => False) (zT IAE) 1 6 (fun _ => False) := by
  refine vx_ofW (cc := b_X_requireExponent) (maxL := 2) (ret := none) (by decide) rfl ?_
  intro p e s m args below meth c s₁ B hml ht hv
  obtain ⟨hv, hP, hK, hT⟩ := hv
  subst hv
  have hx := B.exec
  have hb := B.bytes
  have hr := B.returns
  have hts := atoms_spec (ws := k_X_requireExponent :: wall) B.pre
  have hw : ∀ w ∈ wall, w.before _ s = true := fun w h => hts w (List.mem_cons_of_mem _ h)
  have hown : s.vm.findClass R_X = some m.cls := findClass_of_methodNamed B.named
  have hlocks := B.notSynchronized
  have hl := lv_entry ([.ref (h0), .int (av)]) (n := 2) (Nat.le_of_ble_eq_true rfl)
  rw [lg_entry_eq]
  generalize (lg_sl ([.ref (h0), .int (av)]) ++ List.replicate (2 - (lg_sl ([.ref (h0), .int (av)])).length) Slot.unset).toArray = ls at hl ⊢
  have hl : lv_has ls 2 [(0, .ref (h0)), (1, .int (av))] := hl
  generalize ([.ref (h0), .int (av)] : List Value).toArray = args at B hts hw ⊢
  refine lv_aload_n hx hb d_X_requireExponent_0 rfl (lv_at hl 0 rfl) ?_
  refine lv_iload_n hx hb d_X_requireExponent_1 rfl (lv_at hl 1 rfl) ?_
  refine zV (b := h0) (As := [.int (av)]) (rest := []) ⟨hx, hb, hml, hown, hw⟩ (c_X_isExponent l D h0 pp qq gg hq av) OX_B (OX_at hP hK hT (fun _ _ => rfl)) (va_recv hK hP (ci := 0) (q0 := 0) rfl rfl) g_X_63 rfl rfl pd_X_isExponent ⟨Nat.le_of_ble_eq_true rfl, Nat.le_of_ble_eq_true rfl⟩ hl.1 rfl (Nat.le_of_ble_eq_true rfl) d_X_requireExponent_2 ⟨Nat.zero_le _, Nat.zero_le _⟩ ?_
  refine W.eq (g2 := F0 m 5 ls [.int (bI (res av.toInt qq))]) rfl ?_
  refine tI (0) (bI_f hv1) ?_
  refine lv_if_ne (tgt := 18) hx hb d_X_requireExponent_5 (by decide) (fun z => absurd (rfl) z) (fun _ => ?_)
  exact zThr (cls := IAE) (text := "a number is not 0 to q - 1") (ik := 38) (is := 84) (ic := 42) hx hb hL hown hw hT (by decide +kernel) at_IAE an_IAE hT.1 ao_IAE cl_X_38 in_IllegalArgumentException (by decide +kernel) hml hl.1 ht hlocks d_X_requireExponent_8 d_X_requireExponent_11 d_X_requireExponent_12 d_X_requireExponent_14 d_X_requireExponent_17 (Nat.le_of_ble_eq_true rfl) (Nat.le_of_ble_eq_true rfl) (Nat.le_of_ble_eq_true rfl) (Nat.le_of_ble_eq_true rfl)
set_option maxHeartbeats 4000000 in
set_option maxRecDepth 100000 in
theorem c_X_requireMember_ok (l : Launch) (D : va_G) (h0 pp qq gg : Nat) (G : grp pp qq gg) (av : Int32) (hv1 : mem av.toInt pp qq) : Met l y_X_requireMember (k_X_requireMember :: wall) { frames := 6, cells := 0, slots := 0, locals := 82 } (zP [.ref (h0), .int (av)] (OX D h0 (nI (pp)) (nI (qq)) (nI (gg)))) (zR none) 0 0 (fun _ => False) := by
  refine Met.ofW (cc := b_X_requireMember) (maxL := 2) (ret := none) (by decide) rfl ?_
  intro p e s m args below meth c s₁ B hml hv
  obtain ⟨hv, hP, hK, hT⟩ := hv
  subst hv
  have hx := B.exec
  have hb := B.bytes
  have hr := B.returns
  have hts := atoms_spec (ws := k_X_requireMember :: wall) B.pre
  have hw : ∀ w ∈ wall, w.before _ s = true := fun w h => hts w (List.mem_cons_of_mem _ h)
  have hown : s.vm.findClass R_X = some m.cls := findClass_of_methodNamed B.named
  have hlocks := B.notSynchronized
  have hl := lv_entry ([.ref (h0), .int (av)]) (n := 2) (Nat.le_of_ble_eq_true rfl)
  rw [lg_entry_eq]
  generalize (lg_sl ([.ref (h0), .int (av)]) ++ List.replicate (2 - (lg_sl ([.ref (h0), .int (av)])).length) Slot.unset).toArray = ls at hl ⊢
  have hl : lv_has ls 2 [(0, .ref (h0)), (1, .int (av))] := hl
  generalize ([.ref (h0), .int (av)] : List Value).toArray = args at B hts hw ⊢
  have hp5 : 5 ≤ pp := by have := G.1; have := G.2.2.1.1; omega
  have hp := G.2.2.2.2.2.2
  refine lv_iload_n hx hb d_X_requireMember_0 rfl (lv_at hl 1 rfl) ?_
  refine lv_aload_n hx hb d_X_requireMember_1 rfl (lv_at hl 0 rfl) ?_
  refine va_get (D := D) (ci := 0) (v := .int (nI (pp))) (C := R_X) (T := F_X) (N := 3) hx hb hw i_X hown hK hP 0 rfl rfl 0 (by decide) (hw _ fl_X_7) (fun _ h9 => h9) rfl d_X_requireMember_2 ?_
  refine zS (As := [.int (av), .int (nI (pp))]) (rest := []) ⟨hx, hb, hml, hown, hw⟩ (c_X_isMember l av pp (by omega) hp) g_X_27 rfl rfl pd_X_isMember ⟨Nat.le_of_ble_eq_true rfl, Nat.le_of_ble_eq_true rfl⟩ hl.1 rfl (Nat.le_of_ble_eq_true rfl) d_X_requireMember_5 ⟨Nat.zero_le _, Nat.zero_le _⟩ ?_
  refine W.eq (g2 := F0 m 8 ls [.int (bI (mem av.toInt pp ((pp - 1) / 2)))]) rfl ?_
  refine tI (1) (bI_t (by rw [grp_half G]; exact hv1)) ?_
  refine lv_if_ne (tgt := 21) hx hb d_X_requireMember_8 (by decide) (fun _ => ?_) (fun z => absurd z (by decide))
  exact W.vret hx hb hr (fun t ht _ => ⟨rfl, ht⟩) (fun _ h => nomatch h) d_X_requireMember_21
set_option maxHeartbeats 4000000 in
set_option maxRecDepth 100000 in
theorem c_X_requireMember_bad (l : Launch) (hL : l.stackTraces = false) (D : va_G) (h0 pp qq gg : Nat) (G : grp pp qq gg) (av : Int32) (hv1 : ¬ mem av.toInt pp qq) : vx_Met l y_X_requireMember (k_X_requireMember :: wall) { frames := 6, cells := 1, slots := 6, locals := 82 } (zP [.ref (h0), .int (av)] (OX D h0 (nI (pp)) (nI (qq)) (nI (gg)))) (fun _ _ _ _ => False) (zT IAE) 1 6 (fun _ => False) := by
  refine vx_ofW (cc := b_X_requireMember) (maxL := 2) (ret := none) (by decide) rfl ?_
  intro p e s m args below meth c s₁ B hml ht hv
  obtain ⟨hv, hP, hK, hT⟩ := hv
  subst hv
  have hx := B.exec
  have hb := B.bytes
  have hr := B.returns
  have hts := atoms_spec (ws := k_X_requireMember :: wall) B.pre
  have hw : ∀ w ∈ wall, w.before _ s = true := fun w h => hts w (List.mem_cons_of_mem _ h)
  have hown : s.vm.findClass R_X = some m.cls := findClass_of_methodNamed B.named
  have hlocks := B.notSynchronized
  have hl := lv_entry ([.ref (h0), .int (av)]) (n := 2) (Nat.le_of_ble_eq_true rfl)
  rw [lg_entry_eq]
  generalize (lg_sl ([.ref (h0), .int (av)]) ++ List.replicate (2 - (lg_sl ([.ref (h0), .int (av)])).length) Slot.unset).toArray = ls at hl ⊢
  have hl : lv_has ls 2 [(0, .ref (h0)), (1, .int (av))] := hl
  generalize ([.ref (h0), .int (av)] : List Value).toArray = args at B hts hw ⊢
  have hp5 : 5 ≤ pp := by have := G.1; have := G.2.2.1.1; omega
  have hp := G.2.2.2.2.2.2
  refine lv_iload_n hx hb d_X_requireMember_0 rfl (lv_at hl 1 rfl) ?_
  refine lv_aload_n hx hb d_X_requireMember_1 rfl (lv_at hl 0 rfl) ?_
  refine va_get (D := D) (ci := 0) (v := .int (nI (pp))) (C := R_X) (T := F_X) (N := 3) hx hb hw i_X hown hK hP 0 rfl rfl 0 (by decide) (hw _ fl_X_7) (fun _ h9 => h9) rfl d_X_requireMember_2 ?_
  refine zS (As := [.int (av), .int (nI (pp))]) (rest := []) ⟨hx, hb, hml, hown, hw⟩ (c_X_isMember l av pp (by omega) hp) g_X_27 rfl rfl pd_X_isMember ⟨Nat.le_of_ble_eq_true rfl, Nat.le_of_ble_eq_true rfl⟩ hl.1 rfl (Nat.le_of_ble_eq_true rfl) d_X_requireMember_5 ⟨Nat.zero_le _, Nat.zero_le _⟩ ?_
  refine W.eq (g2 := F0 m 8 ls [.int (bI (mem av.toInt pp ((pp - 1) / 2)))]) rfl ?_
  refine tI (0) (bI_f (by rw [grp_half G]; exact hv1)) ?_
  refine lv_if_ne (tgt := 21) hx hb d_X_requireMember_8 (by decide) (fun z => absurd (rfl) z) (fun _ => ?_)
  exact zThr (cls := IAE) (text := "a number is no member") (ik := 38) (is := 82) (ic := 42) hx hb hL hown hw hT (by decide +kernel) at_IAE an_IAE hT.1 ao_IAE cl_X_38 in_IllegalArgumentException (by decide +kernel) hml hl.1 ht hlocks d_X_requireMember_11 d_X_requireMember_14 d_X_requireMember_15 d_X_requireMember_17 d_X_requireMember_20 (Nat.le_of_ble_eq_true rfl) (Nat.le_of_ble_eq_true rfl) (Nat.le_of_ble_eq_true rfl) (Nat.le_of_ble_eq_true rfl)
