/-! methods that change one object; the class's constructor and begin -/
theorem one_D {h : Nat} {e : va_E} : va_D (fun q => q = h) [(h, e)] := by
  refine ⟨fun i j p q hi hj _ => ?_, fun k q hk => ?_⟩
  · cases i with
    | zero => cases j with
      | zero => rfl
      | succ j => simp at hj
    | succ i => simp at hi
  · cases k with
    | zero => simp at hk; rw [← hk]
    | succ k => simp at hk
/-- the answer is v, the one object at h now is ws, nothing else has changed -/
def zW (v : Option Value) (D : va_G) (ws : va_W) (h : Nat) : Array Value → State → Outcome → State → Prop := fun _ st oc t => oc = .returned v ∧ va_P D classes ws t.heap ∧ va_F (fun q => q = h) st t
section ZW
variable {p : Program} {l : Launch} {e : Env} {R : Room} {s : State} {m : MethodId} {args : Array Value} {below : List Frame} {meth : Method} {c : Code} {H : Heap} {locs : List Loc} {cells slots : Nat} {Q : State → Prop} {pc : Nat} {ls : Array Slot} {rest st0 : List Value}
theorem zWc {v : Option Value} {D : va_G} {ws : va_W} {h : Nat} {a : Array Value} {A0 : Nat → Prop} {H0 : Heap} (hr : va_Run p l e R s m args below meth c H locs cells slots 0 0 (F0 m pc ls st0) rest (zW v D ws h a) (fun q => q = h)) (hS : va_S A0 H0 H locs) (hA : A0 h)
    (kk : ∀ (H1 : Heap) (locs1 : List Loc), va_P D classes ws H1 → H.size ≤ H1.size → (∀ q : Nat, q < H.size → q ≠ h → H1[q]? = H[q]?) → va_S A0 H0 H1 locs1 → W p l e R s m args below meth c H1 locs1 cells slots Q (F0 m (pc + 3) ls (v.toList ++ rest))) : W p l e R s m args below meth c H locs cells slots Q (F0 m pc ls st0) := by
  intro T hT X
  obtain ⟨v', st₀, t, T', L, h0, X', hL, e1, e2, ⟨hv, hp, hz, hk⟩, st⟩ := hr T hT X
  cases hv
  rw [h0] at hz hk
  obtain ⟨t2, a1, b1⟩ := kk T'.heap (locs ++ L) (by rw [e1]; exact hp) (by rw [e1]; exact hz) (fun q h1 h2 => by rw [e1]; exact hk q h1 h2)
    ⟨Nat.le_trans hS.1 (by rw [e1]; exact hz), fun q h1 h2 => by
      rw [e1, hk q (Nat.lt_of_lt_of_le h1 hS.1) (fun z => h2 (by rw [z]; exact hA))]; exact hS.2.1 q h1 h2, fun q hq => by
      rcases List.mem_append.mp hq with g | g
      · exact hS.2.2 q g
      · rw [show q.base = h from hL q g]; exact hA⟩ T' rfl X'
  exact ⟨t2, st t2 a1, b1⟩
theorem zVW {own C : String} {ix nL maxL : Nat} {y : MethodName} {cc bytes : ByteArray} {ret : Option FieldType} {rm : Room} {As : List Value} {v : Option Value} {I : State → Prop} {b : Nat} {D : va_G} {ws : va_W} {A0 : Nat → Prop} {H0 : Heap} (S : CallFix p m c cc nL s args wall own)
    (hM : Met l y (.code y bytes maxL ret :: wall) rm (zP (.ref b :: As) I) (zW v D ws b) 0 0 (fun q => q = b)) (hB : zB I) (hI : ∀ U : State, U.heap = H → s.WarmedH U.vm → I U) (hcell : ∃ cellB : Cell, H[b]? = some cellB ∧ cellB.vm.isStatics = false ∧ s.vm.findClass C = some cellB.cls)
    (g : GoodIn wall (wsV own ix C y (.code y bytes maxL ret :: wall))) (hrc : rm.cells = 0) (hrs : rm.slots = 0)
    (hd : y.cls = C ∧ y.cls ≠ "java/lang/invoke/MethodHandle" ∧ y.cls ≠ "java/lang/invoke/VarHandle" ∧ (parseMethodDescriptor y.desc).map (fun d => d.parameters.length) = some As.length) (hR : rm.frames + 1 ≤ R.frames ∧ 8 + (maxL + 11) + rm.locals ≤ R.locals)
    (hsize : ls.size = nL) (hst : st0 = As.reverse ++ .ref b :: rest) (hW : (rest.map fun v => v.category).sum ≤ 8) (hdg : decode cc pc = .ok (.invokevirtual ix, 3)) (hcs : cells ≤ R.cells ∧ slots ≤ R.slots) (hS : va_S A0 H0 H locs) (hA : A0 b)
    (kk : ∀ (H1 : Heap) (locs1 : List Loc), va_P D classes ws H1 → H.size ≤ H1.size → (∀ q : Nat, q < H.size → q ≠ b → H1[q]? = H[q]?) → va_S A0 H0 H1 locs1 → W p l e R s m args below meth c H1 locs1 cells slots Q (F0 m (pc + 3) ls (v.toList ++ rest))) : W p l e R s m args below meth c H locs cells slots Q (F0 m pc ls st0) := by
  subst hst
  exact zWc (va_runV (As := As) (rest := rest) S hM (cwV As.length S.2.2.2.2 g rfl hrc hrs hd hR) ⟨hB.blind _, hcell, fun U h1 h2 => ⟨rfl, hI U h1 h2⟩⟩ rfl rfl hsize rfl (lv_room hW) hdg hcs) hS hA kk
theorem zIW {own : String} {ix nL maxL : Nat} {y : MethodName} {cc bytes : ByteArray} {rm : Room} {v : Option Value} {I : State → Prop} {b : Nat} {D : va_G} {ws : va_W} {A0 : Nat → Prop} {H0 : Heap} (S : CallFix p m c cc nL s args wall own)
    (hM : Met l y (.code y bytes maxL none :: wall) rm (zP [.ref b] I) (zW v D ws b) 0 0 (fun q => q = b)) (hB : zB I) (hI : ∀ U : State, U.heap = H → s.WarmedH U.vm → I U)
    (hk : Cond.code y bytes maxL none ∈ wall) (hi : Cond.initialized y.cls ∈ wall) (hl : Cond.methodLink own ix y ∈ wall) (him : Cond.instanceMethod y ∈ wall) (hn : y.name = "<init>") (hrc : rm.cells = 0) (hrs : rm.slots = 0)
    (hd : y.cls ≠ "java/lang/invoke/MethodHandle" ∧ y.cls ≠ "java/lang/invoke/VarHandle" ∧ (parseMethodDescriptor y.desc).map (fun d => d.parameters.length) = some 0) (hR : rm.frames + 1 ≤ R.frames ∧ 8 + (maxL + 11) + rm.locals ≤ R.locals)
    (hsize : ls.size = nL) (hst : st0 = .ref b :: rest) (hW : (rest.map fun v => v.category).sum ≤ 8) (hdg : decode cc pc = .ok (.invokespecial ix, 3)) (hcs : cells ≤ R.cells ∧ slots ≤ R.slots) (hS : va_S A0 H0 H locs) (hA : A0 b)
    (kk : ∀ (H1 : Heap) (locs1 : List Loc), va_P D classes ws H1 → H.size ≤ H1.size → (∀ q : Nat, q < H.size → q ≠ b → H1[q]? = H[q]?) → va_S A0 H0 H1 locs1 → W p l e R s m args below meth c H1 locs1 cells slots Q (F0 m (pc + 3) ls (v.toList ++ rest))) : W p l e R s m args below meth c H locs cells slots Q (F0 m pc ls st0) := by
  subst hst
  exact zWc (va_runI (As := []) (rest := rest) S hM (cwI 0 S.2.2.2.2 (gd_all hk) rfl hrc hrs (S.2.2.2.2 _ hi) (S.2.2.2.2 _ hl) (S.2.2.2.2 _ him) hn hd hR) ⟨hB.blind _, fun U h1 h2 => ⟨rfl, hI U h1 h2⟩⟩ rfl rfl hsize rfl (lv_room hW) hdg hcs) hS hA kk
end ZW
/-- the reference's object -/
abbrev oM (h0 : Nat) (er : Int32) (P Qv G : Int64) : va_W := [(h0, .inr (1, [.int er, .long P, .long Qv, .long G]))]
def OM (D : va_G) (h0 : Nat) (er : Int32) (P Qv G : Int64) (U : State) : Prop := va_P D classes (oM h0 er P Qv G) U.heap ∧ va_K D classes [] U
theorem OM_B {D : va_G} {h0 : Nat} {er : Int32} {P Qv G : Int64} : zB (OM D h0 er P Qv G) := fun U g mk a ⟨h1, h2⟩ => ⟨h1, va_K.moved (u := U) (U := U.calling g mk a) (Vm.Alike.refl U.vm) h2⟩
theorem OM_at {D : va_G} {h0 : Nat} {er : Int32} {P Qv G : Int64} {s : State} {H : Heap} {tys : List (ClassId × FieldType)} (hP : va_P D classes (oM h0 er P Qv G) H) (hK : va_K D classes tys s) : ∀ U : State, U.heap = H → s.WarmedH U.vm → OM D h0 er P Qv G U :=
  fun U hU hW => ⟨by rw [hU]; exact hP, va_K.moved hW.alike (hK.sub (tys' := []) [] rfl)⟩
/-- the class's object, without the world of the throws -/
def OY (D : va_G) (h0 : Nat) (P Qv G : Int32) (U : State) : Prop := va_P D classes (oX h0 P Qv G) U.heap ∧ va_K D classes [] U
theorem OY_B {D : va_G} {h0 : Nat} {P Qv G : Int32} : zB (OY D h0 P Qv G) := fun U g mk a ⟨h1, h2⟩ => ⟨h1, va_K.moved (u := U) (U := U.calling g mk a) (Vm.Alike.refl U.vm) h2⟩
theorem OY_at {D : va_G} {h0 : Nat} {P Qv G : Int32} {s : State} {H : Heap} {tys : List (ClassId × FieldType)} (hP : va_P D classes (oX h0 P Qv G) H) (hK : va_K D classes tys s) : ∀ U : State, U.heap = H → s.WarmedH U.vm → OY D h0 P Qv G U :=
  fun U hU hW => ⟨by rw [hU]; exact hP, va_K.moved hW.alike (hK.sub (tys' := []) [] rfl)⟩
set_option maxHeartbeats 4000000 in
set_option maxRecDepth 100000 in
theorem c_X_init (l : Launch) (D : va_G) (h0 : Nat)  : Met l y_X_init (k_X_init :: wall) { frames := 1, cells := 0, slots := 0, locals := 12 } (zP [.ref (h0)] (OY D h0 0 0 0)) (zW none D [(h0, .inr (0, [.int (nI (23)), .int (nI (11)), .int (nI (2))]))] h0) 0 0 (fun q => q = h0) := by
  refine Met.ofW (cc := b_X_init) (maxL := 1) (ret := none) (by decide) rfl ?_
  intro p e s m args below meth c s₁ B hml hv
  obtain ⟨hv, hP, hK⟩ := hv
  subst hv
  have hx := B.exec
  have hb := B.bytes
  have hr := B.returns
  have hts := atoms_spec (ws := k_X_init :: wall) B.pre
  have hw : ∀ w ∈ wall, w.before _ s = true := fun w h => hts w (List.mem_cons_of_mem _ h)
  have hown : s.vm.findClass R_X = some m.cls := findClass_of_methodNamed B.named
  have hlocks := B.notSynchronized
  have hl := lv_entry ([.ref (h0)]) (n := 1) (Nat.le_of_ble_eq_true rfl)
  rw [lg_entry_eq]
  generalize (lg_sl ([.ref (h0)]) ++ List.replicate (1 - (lg_sl ([.ref (h0)])).length) Slot.unset).toArray = ls at hl ⊢
  have hl : lv_has ls 1 [(0, .ref (h0))] := hl
  generalize ([.ref (h0)] : List Value).toArray = args at B hts hw ⊢
  have hD : va_D (fun q => q = h0) [(h0, .inr (0, [.int (0), .int (0), .int (0)]))] := one_D
  obtain ⟨A, hAe⟩ : ∃ A : Nat → Prop, A = fun q => q = h0 := ⟨_, rfl⟩
  rw [← hAe] at hD
  have hA0 : A h0 := by rw [hAe]
  have hS : va_S A s.heap s.heap [] := va_S.rf
  refine lv_aload_n hx hb d_X_init_0 rfl (lv_at hl 0 rfl) ?_
  refine W.objInit hx hb hown (hw _ ml_X_1) (hw _ im_objectInit) (hw _ cw_objectInit) rfl (by rw [hml]; exact hl.1) rfl d_X_init_1 (Nat.le_of_ble_eq_true rfl) (Nat.le_of_ble_eq_true rfl) ?_
  refine W.eq (g2 := F0 m 4 ls []) rfl ?_
  refine lv_aload_n hx hb d_X_init_4 rfl (lv_at hl 0 rfl) ?_
  refine lv_bipush (v := nI (23)) hx hb d_X_init_5 (by decide) ?_
  refine va_put (D := D) (ci := 0) (v := .int (nI (23))) (ty := .int) (C := R_X) (T := F_X) (N := 3) hx hb hw i_X t_X t_X_ok n_X hown hK hP hD hS 0 rfl rfl 0 (by decide) (hw _ fl_X_7) (fun _ h9 => h9) rfl (by decide +kernel) rfl rfl (Nat.le_of_ble_eq_true rfl) d_X_init_7 (fun H locs hP hD hS => ?_)
  have hP : va_P D classes [(h0, .inr (0, [.int (nI (23)), .int (0), .int (0)]))] H := hP
  have hD : va_D A [(h0, .inr (0, [.int (nI (23)), .int (0), .int (0)]))] := hD
  refine lv_aload_n hx hb d_X_init_10 rfl (lv_at hl 0 rfl) ?_
  refine lv_bipush (v := nI (11)) hx hb d_X_init_11 (by decide) ?_
  refine va_put (D := D) (ci := 0) (v := .int (nI (11))) (ty := .int) (C := R_X) (T := F_X) (N := 3) hx hb hw i_X t_X t_X_ok n_X hown hK hP hD hS 0 rfl rfl 1 (by decide) (hw _ fl_X_13) (fun _ h9 => h9) rfl (by decide +kernel) rfl rfl (Nat.le_of_ble_eq_true rfl) d_X_init_13 (fun H locs hP hD hS => ?_)
  have hP : va_P D classes [(h0, .inr (0, [.int (nI (23)), .int (nI (11)), .int (0)]))] H := hP
  have hD : va_D A [(h0, .inr (0, [.int (nI (23)), .int (nI (11)), .int (0)]))] := hD
  refine lv_aload_n hx hb d_X_init_16 rfl (lv_at hl 0 rfl) ?_
  refine lv_iconst (v := nI (2)) hx hb d_X_init_17 (by decide) ?_
  refine va_put (D := D) (ci := 0) (v := .int (nI (2))) (ty := .int) (C := R_X) (T := F_X) (N := 3) hx hb hw i_X t_X t_X_ok n_X hown hK hP hD hS 0 rfl rfl 2 (by decide) (hw _ fl_X_16) (fun _ h9 => h9) rfl (by decide +kernel) rfl rfl (Nat.le_of_ble_eq_true rfl) d_X_init_18 (fun H locs hP hD hS => ?_)
  have hP : va_P D classes [(h0, .inr (0, [.int (nI (23)), .int (nI (11)), .int (nI (2))]))] H := hP
  have hD : va_D A [(h0, .inr (0, [.int (nI (23)), .int (nI (11)), .int (nI (2))]))] := hD
  rw [hAe] at hS
  exact W.vret hx hb hr (fun t ht _ => ⟨rfl, by rw [ht]; exact hP, hS.F ht⟩) hS.2.2 d_X_init_21
set_option maxHeartbeats 4000000 in
set_option maxRecDepth 100000 in
theorem c_X_begin_ok (l : Launch) (D : va_G) (h0 : Nat) (P0 Q0 G0 : Int32) (pp gg : Nat) (hp : pp < 2 ^ 31) (hok : okg (pp : Int) (nI (gg)).toInt) : Met l y_X_begin (k_X_begin :: wall) { frames := 4, cells := 0, slots := 0, locals := 91 } (zP [.ref (h0), .int (nI (pp)), .int (nI (gg))] (OY D h0 P0 Q0 G0)) (zW (some (.int (nI (1)))) D [(h0, .inr (0, [.int (nI (pp)), .int (nI ((pp - 1) / 2)), .int (nI (gg))]))] h0) 0 0 (fun q => q = h0) := by
  refine Met.ofW (cc := b_X_begin) (maxL := 3) (ret := (some .boolean)) (by decide) rfl ?_
  intro p e s m args below meth c s₁ B hml hv
  obtain ⟨hv, hP, hK⟩ := hv
  subst hv
  have hx := B.exec
  have hb := B.bytes
  have hr := B.returns
  have hts := atoms_spec (ws := k_X_begin :: wall) B.pre
  have hw : ∀ w ∈ wall, w.before _ s = true := fun w h => hts w (List.mem_cons_of_mem _ h)
  have hown : s.vm.findClass R_X = some m.cls := findClass_of_methodNamed B.named
  have hlocks := B.notSynchronized
  have hl := lv_entry ([.ref (h0), .int (nI (pp)), .int (nI (gg))]) (n := 3) (Nat.le_of_ble_eq_true rfl)
  rw [lg_entry_eq]
  generalize (lg_sl ([.ref (h0), .int (nI (pp)), .int (nI (gg))]) ++ List.replicate (3 - (lg_sl ([.ref (h0), .int (nI (pp)), .int (nI (gg))])).length) Slot.unset).toArray = ls at hl ⊢
  have hl : lv_has ls 3 [(0, .ref (h0)), (1, .int (nI (pp))), (2, .int (nI (gg)))] := hl
  generalize ([.ref (h0), .int (nI (pp)), .int (nI (gg))] : List Value).toArray = args at B hts hw ⊢
  have hD : va_D (fun q => q = h0) [(h0, .inr (0, [.int (P0), .int (Q0), .int (G0)]))] := one_D
  obtain ⟨A, hAe⟩ : ∃ A : Nat → Prop, A = fun q => q = h0 := ⟨_, rfl⟩
  rw [← hAe] at hD
  have hA0 : A h0 := by rw [hAe]
  have hS : va_S A s.heap s.heap [] := va_S.rf
  have hp5 : 5 ≤ pp := by have := hok.1; omega
  refine lv_iload_n hx hb d_X_begin_0 rfl (lv_at hl 1 rfl) ?_
  refine lv_iload_n hx hb d_X_begin_1 rfl (lv_at hl 2 rfl) ?_
  refine zS (As := [.int (nI (pp)), .int (nI (gg))]) (rest := []) ⟨hx, hb, hml, hown, hw⟩ (c_X_isGroup l (nI (pp)) (nI (gg))) g_X_19 rfl rfl pd_X_isGroup ⟨Nat.le_of_ble_eq_true rfl, Nat.le_of_ble_eq_true rfl⟩ hl.1 rfl (Nat.le_of_ble_eq_true rfl) d_X_begin_2 ⟨Nat.zero_le _, Nat.zero_le _⟩ ?_
  refine W.eq (g2 := F0 m 5 ls [.int (bI (okg (nI (pp)).toInt (nI (gg)).toInt))]) rfl ?_
  refine tI (1) (bI_t (by rw [nI_toInt hp]; exact hok)) ?_
  refine lv_if_ne (tgt := 10) hx hb d_X_begin_5 (by decide) (fun _ => ?_) (fun z => absurd z (by decide))
  refine lv_aload_n hx hb d_X_begin_10 rfl (lv_at hl 0 rfl) ?_
  refine lv_iload_n hx hb d_X_begin_11 rfl (lv_at hl 1 rfl) ?_
  refine va_put (D := D) (ci := 0) (v := .int (nI (pp))) (ty := .int) (C := R_X) (T := F_X) (N := 3) hx hb hw i_X t_X t_X_ok n_X hown hK hP hD hS 0 rfl rfl 0 (by decide) (hw _ fl_X_7) (fun _ h9 => h9) rfl (by decide +kernel) rfl rfl (Nat.le_of_ble_eq_true rfl) d_X_begin_12 (fun H locs hP hD hS => ?_)
  have hP : va_P D classes [(h0, .inr (0, [.int (nI (pp)), .int (Q0), .int (G0)]))] H := hP
  have hD : va_D A [(h0, .inr (0, [.int (nI (pp)), .int (Q0), .int (G0)]))] := hD
  refine lv_aload_n hx hb d_X_begin_15 rfl (lv_at hl 0 rfl) ?_
  refine lv_iload_n hx hb d_X_begin_16 rfl (lv_at hl 1 rfl) ?_
  refine zS (As := [.int (nI (pp))]) (rest := [.ref (h0)]) ⟨hx, hb, hml, hown, hw⟩ (c_X_halfOf l pp (by omega) hp) g_X_23 rfl rfl pd_X_halfOf ⟨Nat.le_of_ble_eq_true rfl, Nat.le_of_ble_eq_true rfl⟩ hl.1 rfl (Nat.le_of_ble_eq_true rfl) d_X_begin_17 ⟨Nat.zero_le _, Nat.zero_le _⟩ ?_
  refine W.eq (g2 := F0 m 20 ls [.int (nI ((pp - 1) / 2)), .ref (h0)]) rfl ?_
  refine va_put (D := D) (ci := 0) (v := .int (nI ((pp - 1) / 2))) (ty := .int) (C := R_X) (T := F_X) (N := 3) hx hb hw i_X t_X t_X_ok n_X hown hK hP hD hS 0 rfl rfl 1 (by decide) (hw _ fl_X_13) (fun _ h9 => h9) rfl (by decide +kernel) rfl rfl (Nat.le_of_ble_eq_true rfl) d_X_begin_20 (fun H locs hP hD hS => ?_)
  have hP : va_P D classes [(h0, .inr (0, [.int (nI (pp)), .int (nI ((pp - 1) / 2)), .int (G0)]))] H := hP
  have hD : va_D A [(h0, .inr (0, [.int (nI (pp)), .int (nI ((pp - 1) / 2)), .int (G0)]))] := hD
  refine lv_aload_n hx hb d_X_begin_23 rfl (lv_at hl 0 rfl) ?_
  refine lv_iload_n hx hb d_X_begin_24 rfl (lv_at hl 2 rfl) ?_
  refine va_put (D := D) (ci := 0) (v := .int (nI (gg))) (ty := .int) (C := R_X) (T := F_X) (N := 3) hx hb hw i_X t_X t_X_ok n_X hown hK hP hD hS 0 rfl rfl 2 (by decide) (hw _ fl_X_16) (fun _ h9 => h9) rfl (by decide +kernel) rfl rfl (Nat.le_of_ble_eq_true rfl) d_X_begin_25 (fun H locs hP hD hS => ?_)
  have hP : va_P D classes [(h0, .inr (0, [.int (nI (pp)), .int (nI ((pp - 1) / 2)), .int (nI (gg))]))] H := hP
  have hD : va_D A [(h0, .inr (0, [.int (nI (pp)), .int (nI ((pp - 1) / 2)), .int (nI (gg))]))] := hD
  refine lv_iconst (v := nI (1)) hx hb d_X_begin_28 (by decide) ?_
  rw [hAe] at hS
  exact W.zret (ty := .boolean) hx hb hr (by decide) (fun t ht _ => ⟨rfl, by rw [ht]; exact hP, hS.F ht⟩) hS.2.2 d_X_begin_29
set_option maxHeartbeats 4000000 in
set_option maxRecDepth 100000 in
theorem c_X_begin_no (l : Launch) (D : va_G) (h0 : Nat) (P0 Q0 G0 : Int32) (Pv Gv : Int32) (hno : ¬ okg Pv.toInt Gv.toInt) : Met l y_X_begin (k_X_begin :: wall) { frames := 4, cells := 0, slots := 0, locals := 91 } (zP [.ref (h0), .int (Pv), .int (Gv)] (OY D h0 P0 Q0 G0)) (zW (some (.int (nI (0)))) D [(h0, .inr (0, [.int (P0), .int (Q0), .int (G0)]))] h0) 0 0 (fun q => q = h0) := by
  refine Met.ofW (cc := b_X_begin) (maxL := 3) (ret := (some .boolean)) (by decide) rfl ?_
  intro p e s m args below meth c s₁ B hml hv
  obtain ⟨hv, hP, hK⟩ := hv
  subst hv
  have hx := B.exec
  have hb := B.bytes
  have hr := B.returns
  have hts := atoms_spec (ws := k_X_begin :: wall) B.pre
  have hw : ∀ w ∈ wall, w.before _ s = true := fun w h => hts w (List.mem_cons_of_mem _ h)
  have hown : s.vm.findClass R_X = some m.cls := findClass_of_methodNamed B.named
  have hlocks := B.notSynchronized
  have hl := lv_entry ([.ref (h0), .int (Pv), .int (Gv)]) (n := 3) (Nat.le_of_ble_eq_true rfl)
  rw [lg_entry_eq]
  generalize (lg_sl ([.ref (h0), .int (Pv), .int (Gv)]) ++ List.replicate (3 - (lg_sl ([.ref (h0), .int (Pv), .int (Gv)])).length) Slot.unset).toArray = ls at hl ⊢
  have hl : lv_has ls 3 [(0, .ref (h0)), (1, .int (Pv)), (2, .int (Gv))] := hl
  generalize ([.ref (h0), .int (Pv), .int (Gv)] : List Value).toArray = args at B hts hw ⊢
  have hD : va_D (fun q => q = h0) [(h0, .inr (0, [.int (P0), .int (Q0), .int (G0)]))] := one_D
  obtain ⟨A, hAe⟩ : ∃ A : Nat → Prop, A = fun q => q = h0 := ⟨_, rfl⟩
  rw [← hAe] at hD
  have hA0 : A h0 := by rw [hAe]
  have hS : va_S A s.heap s.heap [] := va_S.rf
  refine lv_iload_n hx hb d_X_begin_0 rfl (lv_at hl 1 rfl) ?_
  refine lv_iload_n hx hb d_X_begin_1 rfl (lv_at hl 2 rfl) ?_
  refine zS (As := [.int (Pv), .int (Gv)]) (rest := []) ⟨hx, hb, hml, hown, hw⟩ (c_X_isGroup l Pv Gv) g_X_19 rfl rfl pd_X_isGroup ⟨Nat.le_of_ble_eq_true rfl, Nat.le_of_ble_eq_true rfl⟩ hl.1 rfl (Nat.le_of_ble_eq_true rfl) d_X_begin_2 ⟨Nat.zero_le _, Nat.zero_le _⟩ ?_
  refine W.eq (g2 := F0 m 5 ls [.int (bI (okg Pv.toInt Gv.toInt))]) rfl ?_
  refine tI (0) (bI_f hno) ?_
  refine lv_if_ne (tgt := 10) hx hb d_X_begin_5 (by decide) (fun z => absurd (rfl) z) (fun _ => ?_)
  refine lv_iconst (v := nI (0)) hx hb d_X_begin_8 (by decide) ?_
  rw [hAe] at hS
  exact W.zret (ty := .boolean) hx hb hr (by decide) (fun t ht _ => ⟨rfl, by rw [ht]; exact hP, hS.F ht⟩) hS.2.2 d_X_begin_9
