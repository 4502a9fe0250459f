/-! rows of our own: names for computed numbers, pure calls, throwing calls, catching -/
section ZK
variable {p : Program} {l : Launch} {e : Env} {R : Room} {s : State} {m : MethodId} {args : Array Value} {below : List Frame} {meth : Method} {c : Code} {H : Heap} {locs : List Loc} {cells slots : Nat} {Q : State → Prop} {pc : Nat} {ls : Array Slot} {rest st0 : List Value}
theorem tI {x : Int32} (y : Int32) (h : x = y) (k : W p l e R s m args below meth c H locs cells slots Q (F0 m pc ls (.int y :: rest))) : W p l e R s m args below meth c H locs cells slots Q (F0 m pc ls (.int x :: rest)) := by
  subst h; exact k
theorem tL {x : Int64} (y : Int64) (h : x = y) (k : W p l e R s m args below meth c H locs cells slots Q (F0 m pc ls (.long y :: rest))) : W p l e R s m args below meth c H locs cells slots Q (F0 m pc ls (.long x :: rest)) := by
  subst h; exact k
/-- a method that answers v and changes nothing -/
def zR (v : Option Value) : Array Value → State → Outcome → State → Prop := fun _ st oc t => oc = .returned v ∧ t.heap = st.heap
theorem zc {v : Option Value} {a : Array Value} (hr : va_Run p l e R s m args below meth c H locs cells slots 0 0 (F0 m pc ls st0) rest (zR v a) (fun _ => False)) (kk : W p l e R s m args below meth c H locs cells slots Q (F0 m (pc + 3) ls (v.toList ++ rest))) : W p l e R s m args below meth c H locs cells slots Q (F0 m pc ls st0) := by
  intro T hT X
  obtain ⟨v', st₀, t, T', L, h0, X', hL, e1, e2, ⟨hv, hh⟩, st⟩ := hr T hT X
  cases hv
  obtain ⟨t2, a1, b1⟩ := kk T' (by rw [e1, hh, h0]) (Stand.forget X' (fun q h => (hL q h).elim))
  exact ⟨t2, st t2 a1, b1⟩
theorem gd_all {k : Cond} (h4 : k ∈ wall) : GoodIn wall (k :: wall) := fun w hw => by
  rcases List.mem_cons.mp hw with h | h
  · rw [h]; exact ⟨h4, good_of_word (gW h4)⟩
  · exact ⟨h, good_of_word (gW h)⟩
theorem gdS {own : String} {ix : Nat} {y : MethodName} {k : Cond} (h1 : Cond.methodLink own ix y ∈ wall) (h2 : Cond.static y ∈ wall) (h3 : Cond.initialized y.cls ∈ wall) (h4 : k ∈ wall) : GoodIn wall (va_wsS own ix y (k :: wall)) := fun w hw => by
  rcases List.mem_append.mp hw with h | h
  · have hm : w ∈ wall := by
      simp only [List.mem_cons, List.not_mem_nil, or_false] at h
      rcases h with h | h | h <;> (rw [h]; assumption)
    exact ⟨hm, good_of_word (gW hm)⟩
  · exact gd_all h4 w h
theorem gdV {own C : String} {ix : Nat} {y : MethodName} {k : Cond} (h1 : Cond.methodLink own ix y ∈ wall) (h2 : Cond.instanceMethod y ∈ wall) (h5 : Cond.selects C y y ∈ wall) (h3 : Cond.initialized C ∈ wall) (h4 : k ∈ wall) : GoodIn wall (wsV own ix C y (k :: wall)) := fun w hw => by
  rcases List.mem_append.mp hw with h | h
  · have hm : w ∈ wall := by
      simp only [List.mem_cons, List.not_mem_nil, or_false] at h
      rcases h with h | h | h | h <;> (rw [h]; assumption)
    exact ⟨hm, good_of_word (gW hm)⟩
  · exact gd_all h4 w h
/-- a static pure call -/
theorem zS {own : String} {ix nL maxL : Nat} {y : MethodName} {cc bytes : ByteArray} {ret : Option FieldType} {rm : Room} {As : List Value} {v : Option Value} (S : CallFix p m c cc nL s args wall own)
    (hM : Met l y (.code y bytes maxL ret :: wall) rm (fun a _ => a = As.toArray) (zR v) 0 0 (fun _ => False)) (g : GoodIn wall (va_wsS own ix y (.code y bytes maxL ret :: wall))) (hrc : rm.cells = 0) (hrs : rm.slots = 0)
    (hd : y.cls ≠ "java/lang/invoke/MethodHandle" ∧ y.cls ≠ "java/lang/invoke/VarHandle" ∧ (parseMethodDescriptor y.desc).map (fun d => d.parameters.length) = some As.length) (hR : rm.frames + 1 ≤ R.frames ∧ 8 + (maxL + 11) + rm.locals ≤ R.locals)
    (hsize : ls.size = nL) (hst : st0 = As.reverse ++ rest) (hW : (rest.map fun v => v.category).sum ≤ 8) (hdg : decode cc pc = .ok (.invokestatic ix, 3)) (hcs : cells ≤ R.cells ∧ slots ≤ R.slots)
    (kk : W p l e R s m args below meth c H locs cells slots Q (F0 m (pc + 3) ls (v.toList ++ rest))) : W p l e R s m args below meth c H locs cells slots Q (F0 m pc ls st0) := by
  subst hst
  exact zc (va_runS (As := As) (rest := rest) S hM (va_cwS As.length S.2.2.2.2 g rfl hrc hrs hd hR) preEq rfl rfl hsize rfl (lv_room hW) hdg hcs) kk
/-- what a method asks of the state: its arguments, and I -/
def zP (av : List Value) (I : State → Prop) : Array Value → State → Prop := fun a U => a = av.toArray ∧ I U
/-- .. and I stays where frames alone change -/
def zB (I : State → Prop) : Prop := ∀ (U : State) (g : JFrame) (mk : MethodId) (a : Array Value), I U → I (U.calling g mk a)
theorem zB.blind {I : State → Prop} (h : zB I) (av : List Value) : FrameBlind (zP av I) := fun a U g mk q => ⟨q.1, h U g mk a q.2⟩
/-- an instance call that changes nothing -/
theorem zV {own C : String} {ix nL maxL : Nat} {y : MethodName} {cc bytes : ByteArray} {ret : Option FieldType} {rm : Room} {As : List Value} {v : Option Value} {I : State → Prop} {b : Nat} (S : CallFix p m c cc nL s args wall own)
    (hM : Met l y (.code y bytes maxL ret :: wall) rm (zP (.ref b :: As) I) (zR v) 0 0 (fun _ => False)) (hB : zB I) (hI : ∀ U : State, U.heap = H → s.WarmedH U.vm → I U) (hcell : ∃ cellB : Cell, H[b]? = some cellB ∧ cellB.vm.isStatics = false ∧ s.vm.findClass C = some cellB.cls)
    (g : GoodIn wall (wsV own ix C y (.code y bytes maxL ret :: wall))) (hrc : rm.cells = 0) (hrs : rm.slots = 0)
    (hd : y.cls = C ∧ y.cls ≠ "java/lang/invoke/MethodHandle" ∧ y.cls ≠ "java/lang/invoke/VarHandle" ∧ (parseMethodDescriptor y.desc).map (fun d => d.parameters.length) = some As.length) (hR : rm.frames + 1 ≤ R.frames ∧ 8 + (maxL + 11) + rm.locals ≤ R.locals)
    (hsize : ls.size = nL) (hst : st0 = As.reverse ++ .ref b :: rest) (hW : (rest.map fun v => v.category).sum ≤ 8) (hdg : decode cc pc = .ok (.invokevirtual ix, 3)) (hcs : cells ≤ R.cells ∧ slots ≤ R.slots)
    (kk : W p l e R s m args below meth c H locs cells slots Q (F0 m (pc + 3) ls (v.toList ++ rest))) : W p l e R s m args below meth c H locs cells slots Q (F0 m pc ls st0) := by
  subst hst
  exact zc (va_runV (As := As) (rest := rest) S hM (cwV As.length S.2.2.2.2 g rfl hrc hrs hd hR) ⟨hB.blind _, hcell, fun U h1 h2 => ⟨rfl, hI U h1 h2⟩⟩ rfl rfl hsize rfl (lv_room hW) hdg hcs) kk
/-- a method that throws an E, and changes nothing that was there -/
def zT (E : String) : String → State → State → Prop := fun E' st t => E' = E ∧ st.heap.size ≤ t.heap.size ∧ ∀ q : Nat, q < st.heap.size → t.heap[q]? = st.heap[q]?
/-- the run of a call that throws -/
theorem zXr {own C : String} {ix nL maxL : Nat} {y : MethodName} {cc bytes : ByteArray} {ret : Option FieldType} {rm : Room} {As : List Value} {E : String} {I : State → Prop} {b : Nat} (S : CallFix p m c cc nL s args wall own)
    (hM : vx_Met l y (.code y bytes maxL ret :: wall) rm (zP (.ref b :: As) I) (fun _ _ _ _ => False) (zT E) 1 6 (fun _ => False)) (hB : zB I) (hI : ∀ U : State, U.heap = H → s.WarmedH U.vm → I U) (hcell : ∃ cellB : Cell, H[b]? = some cellB ∧ cellB.vm.isStatics = false ∧ s.vm.findClass C = some cellB.cls)
    (g : GoodIn wall (wsV own ix C y (.code y bytes maxL ret :: wall))) (hrc : rm.cells = 1) (hrs : rm.slots = 6)
    (hd : y.cls = C ∧ y.cls ≠ "java/lang/invoke/MethodHandle" ∧ y.cls ≠ "java/lang/invoke/VarHandle" ∧ (parseMethodDescriptor y.desc).map (fun d => d.parameters.length) = some As.length) (hR : rm.frames + 1 ≤ R.frames ∧ 8 + (maxL + 11) + rm.locals ≤ R.locals)
    (hsize : ls.size = nL) (hst : st0 = As.reverse ++ .ref b :: rest) (hW : (rest.map fun v => v.category).sum ≤ 8) (hdg : decode cc pc = .ok (.invokevirtual ix, 3)) (hcs : cells + 1 ≤ R.cells ∧ slots + 6 ≤ R.slots) :
    vx_Run p l e R s m args below meth c H locs cells slots 1 6 (F0 m pc ls st0) rest (fun _ _ _ => False) (zT E) (fun _ => False) := by
  subst hst
  exact vx_runV (As := As) (rest := rest) S hM (cwV As.length S.2.2.2.2 g rfl hrc hrs hd hR) ⟨hB.blind _, hcell, fun U h1 h2 => ⟨rfl, hI U h1 h2⟩⟩ rfl rfl hsize rfl (lv_room hW) hdg hcs
/-- .. it goes on to our caller -/
theorem zXo {E : String} {Qc : Array Value → State → Outcome → State → Prop} (ht : ∀ x ∈ c.exceptionTable.toList, False) (hlocks : meth.locks = false) (hr : vx_Run p l e R s m args below meth c s.heap [] 0 0 1 6 (F0 m pc ls st0) rest (fun _ _ _ => False) (zT E) (fun _ => False)) :
    W p l e R s m args below meth c s.heap [] 0 0 (vx_MQ below Qc (zT E) args s 1 6 (fun _ => False)) (F0 m pc ls st0) := by
  intro T hT X
  rcases hr T hT X with ⟨v, st₀, t, T', L, _, _, _, _, _, hF, _⟩ | ⟨q, st₀, t, T', L, E', ce, h0, X', hL, e1, e2, ⟨hE, hz, hk⟩, hce, hcv, hcl, st⟩
  · exact hF.elim
  · have X2 := Stand.forget (locs := []) X' (fun z h => (hL z h).elim)
    have K : vx_W p l e R s m args below meth c T'.heap [] 1 6 (vx_MQ below Qc (zT E) args s 1 6 (fun _ => False)) (F0 m pc ls rest) q :=
      vx_out (E := E') (ce := ce) (fun x hx => (ht x hx).elim) hlocks (by rw [e1]; exact hce) hcv hcl (fun u hu _ => by
        rw [h0] at hz hk
        exact ⟨hE, by rw [hu, e1]; exact hz, fun r hr => by rw [hu, e1]; exact hk r hr⟩) (fun z hz => by cases hz) (Nat.le_refl _) (Nat.le_refl _)
    obtain ⟨t2, a1, b1⟩ := K T' rfl X2
    exact ⟨t2, st.trans a1, b1⟩
/-- a row of the handlers' table is looked at: its class is linked -/
theorem zc_row {e : Env} {S : State} {f : JFrame} {a : Addr} {x : ExceptionTableEntry} {t : List ExceptionTableEntry} {k : ClassId} {cell : Cell} {b : Bool} (hx : covers x f.pc = true) (h0 : x.catchType ≠ 0) (hl : S.vm.ClassLinks e.platform f.method.cls x.catchType k)
    (hcell : S.heap[a]? = some cell) (hobj : ∀ k, cell.vm ≠ .statics k) (hk : ∃ z, S.vm.classes[cell.cls]? = some z) (hc : ∃ z, S.vm.classes[k]? = some z) (hfit : S.vm.assignable cell.cls k = b) (Qh : Handler → Pre) (E : CtlPost) (d : Bool) (acts : List Action) :
    wp (findHandler.go f a (x :: t)) Qh E e d acts S ↔ (if b = true then Qh (.found x.handlerPc) d acts (S.setVm (S.vm.noted f.method.cls x.catchType (.cls k))) else wp (findHandler.go f a t) Qh E e d acts (S.setVm (S.vm.noted f.method.cls x.catchType (.cls k)))) := by
  simp only [covers] at hx
  obtain ⟨ha, ht⟩ := (resolveClass_links e.toSetting hl).op (op := VmOp.resolveClass f.method.cls x.catchType) rfl
  have hal : S.vm.Alike (S.vm.noted f.method.cls x.catchType (.cls k)) := (Vm.Alike.refl S.vm).noted _ _ _
  obtain ⟨k1, hk1⟩ := hk
  obtain ⟨k2, hk2⟩ := hc
  obtain ⟨k1', hk1', -⟩ := hal.2.2 _ _ hk1
  obtain ⟨k2', hk2', -⟩ := hal.2.2 _ _ hk2
  have hfit' : (S.vm.noted f.method.cls x.catchType (.cls k)).assignable cell.cls k = b := by rw [hal.assignable]; exact hfit
  cases b <;> simp [findHandler.go, hx, h0, ha, ht, hcell, hobj, hk1', hk2', hfit', VmOp.dirties, VmOp.acts]
theorem zc_fin {T : State} (X : Stand p l e R s m args below meth c T locs cells slots) {q : Addr} {g : JFrame} (hg : g.method = m) {hpc : Nat} {vm' : Vm}
    (hf : ∀ (Qh : Handler → Pre) (E : CtlPost) (d : Bool) (acts : List Action), wp (findHandler g q) Qh E e d acts ((T.setTop g).pushFrame (.throwing q)) ↔ Qh (.found hpc) d acts (((T.setTop g).pushFrame (.throwing q)).setVm vm')) :
    Steps p.tables e below ((T.setTop g).pushFrame (.throwing q)) ((T.setVm vm').setTop { g with pc := hpc, stack := [.ref q] }) := by
  have h : At T g.method c below := by rw [hg]; exact X.here
  obtain ⟨hgo, hw⟩ := h.throwing q
  refine Steps.head hgo hw ?_
  have h1 : ∀ r, (stepThrowing e ((T.setTop g).pushFrame (.throwing q)) q (.java g :: r)).Is ((((T.setTop g).pushFrame (.throwing q)).setVm vm').setFrames (.java { g with pc := hpc, stack := [.ref q] } :: r)) [] := by
    intro r
    simp only [stepThrowing, searchFrame, vmDo]
    generalize hr : Sem.go _ e false [] _ = res
    obtain ⟨as, rfl, ha⟩ := Sem.eq_ok_of hr (a := Handler.found hpc) (s' := ((T.setTop g).pushFrame (.throwing q)).setVm vm') (acts' := []) (by simp [hf _ _ _ _])
    exact ⟨rfl, ha⟩
  rw [stepThread_throwing (frames_entered h.top _), (h1 _).1]
  obtain ⟨g₀, hg0⟩ := Option.isSome_iff_exists.mp h.top
  obtain ⟨r, hr⟩ := State.topJava?_eq_some.mp hg0
  have hr' : (T.setVm vm').frames = .java g₀ :: r := hr
  rw [State.setTop_of_frames _ hr', hr, List.tail_cons, State.pushFrame, State.setTop_of_frames _ hr]
  have e1 : ∀ (u : State) (F G : List Frame), ((u.setFrames F).setVm vm').setFrames G = (u.setVm vm').setFrames G := fun u F G => by
    have h1 : (u.setFrames F).setVm vm' = (u.setVm vm').setFrames F := rfl
    rw [h1, State.setFrames_setFrames]
  rw [e1, e1]
  exact Steps.refl _
/-- thrown, and caught by the first row of the table, or by the second where the first names a class that it isn't of -/
theorem zXc {own name : String} {E : String} {hpc : Nat} (hown : s.vm.findClass own = some m.cls) (pre : List ExceptionTableEntry) (x : ExceptionTableEntry) (suf : List ExceptionTableEntry) (hsplit : c.exceptionTable.toList = pre ++ x :: suf)
    (hpre : pre = [] ∨ ∃ (z : ExceptionTableEntry) (nm : String), pre = [z] ∧ covers z pc = true ∧ z.catchType ≠ 0 ∧ (Cond.classLink own z.catchType nm).before args s = true ∧ va_Nc E nm s) (hx : covers x pc = true) (h0 : x.catchType ≠ 0) (hpcx : x.handlerPc = hpc)
    (hlink : (Cond.classLink own x.catchType name).before args s = true) (hcast : (Cond.castable E name).before args s = true)
    (hr : vx_Run p l e R s m args below meth c H locs cells slots 1 6 (F0 m pc ls st0) rest (fun _ _ _ => False) (zT E) (fun _ => False))
    (kk : ∀ (q : Nat) (H1 : Heap), H.size ≤ H1.size → (∀ q : Nat, q < H.size → H1[q]? = H[q]?) → W p l e R s m args below meth c H1 locs (cells + 1) (slots + 6) Q (F0 m hpc ls [.ref q])) : W p l e R s m args below meth c H locs cells slots Q (F0 m pc ls st0) := by
  intro T hT X
  rcases hr T hT X with ⟨v, st₀, t, T', L, _, _, _, _, _, hF, _⟩ | ⟨q, st₀, t, T', L, E', ce, h0', X', hL, e1, e2, ⟨hE, hz, hk⟩, hce, hcv, hcl, st⟩
  · exact hF.elim
  · subst hE; subst hpcx
    have X2 := Stand.forget X' (fun z h => (hL z h).elim)
    rw [h0'] at hz hk
    have hpl : e.platform.magicAccessors = ({} : Platform).magicAccessors := by rw [X.admits.platform]
    obtain ⟨c3, c4, hc3, hc4, hasg⟩ := Cond.castable_spec hcast
    cases Option.some.inj (hc3.symm.trans hcl)
    obtain ⟨c5, hc5, hcl5⟩ := Cond.classLink_spec hown hlink e.platform hpl
    cases Option.some.inj (hc4.symm.trans hc5)
    obtain ⟨k9, h9, -⟩ := Vm.findClass_spec hcl
    have hcellS : ((T'.setTop (F0 m pc ls rest)).pushFrame (.throwing q)).heap[q]? = some ce := by
      show T'.heap[q]? = some ce
      rw [e1]; exact hce
    have hobj : ∀ k, ce.vm ≠ .statics k := fun k h => by rw [hcv] at h; cases h
    have hmeth : ((T'.setTop (F0 m pc ls rest)).pushFrame (.throwing q)).vm.method? (F0 m pc ls rest).method = some meth := X2.method'
    obtain ⟨dk5, _, _, kt5, hd5, _, _, _, _, hkt5, _, hopen5⟩ := hcl5.here
    have key : ∃ vm', s.WarmedH vm' ∧ ∀ (Qh : Handler → Pre) (Ec : CtlPost) (d : Bool) (acts : List Action), wp (findHandler (F0 m pc ls rest) q) Qh Ec e d acts ((T'.setTop (F0 m pc ls rest)).pushFrame (.throwing q)) ↔ Qh (.found x.handlerPc) d acts (((T'.setTop (F0 m pc ls rest)).pushFrame (.throwing q)).setVm vm') := by
      have last : ∀ S : State, s.WarmedH S.vm → S.heap[q]? = some ce → ∃ vm', s.WarmedH vm' ∧ ∀ (Qh : Handler → Pre) (Ec : CtlPost) (d : Bool) (acts : List Action), wp (findHandler.go (F0 m pc ls rest) q (x :: suf)) Qh Ec e d acts S ↔ Qh (.found x.handlerPc) d acts (S.setVm vm') := by
        intro S hW hcS
        obtain ⟨k9', h9', -⟩ := hW.alike.2.2 _ _ h9
        obtain ⟨kt', hkt', -⟩ := hW.alike.2.2 _ _ hkt5
        refine ⟨_, hW.noted hd5 hopen5 (State.rightAt_cls hcl5), fun Qh Ec d acts => ?_⟩
        rw [zc_row (f := F0 m pc ls rest) hx h0 (hW.classLinks hcl5) hcS hobj ⟨k9', h9'⟩ ⟨kt', hkt'⟩ (b := true) (by rw [hW.alike.assignable]; exact hasg), if_pos rfl]
      rcases hpre with rfl | ⟨z, nm, rfl, hzc, hz0, hzl, hzn⟩
      · obtain ⟨vm', hW', hq⟩ := last ((T'.setTop (F0 m pc ls rest)).pushFrame (.throwing q)) X2.warmed hcellS
        exact ⟨vm', hW', fun Qh Ec d acts => by rw [W.findHandler_eq hmeth X2.code, hsplit]; exact hq Qh Ec d acts⟩
      · obtain ⟨c6, hc6, hcl6⟩ := Cond.classLink_spec hown hzl e.platform hpl
        obtain ⟨a8, b8, g1, g2, g3⟩ := hzn
        cases Option.some.inj (g1.symm.trans hcl)
        cases Option.some.inj (g2.symm.trans hc6)
        obtain ⟨dk6, _, _, kt6, hd6, _, _, _, _, hkt6, _, hopen6⟩ := hcl6.here
        have hW : s.WarmedH ((T'.setTop (F0 m pc ls rest)).pushFrame (.throwing q)).vm := X2.warmed
        obtain ⟨k9', h9', -⟩ := hW.alike.2.2 _ _ h9
        obtain ⟨kt', hkt', -⟩ := hW.alike.2.2 _ _ hkt6
        obtain ⟨vm', hW', hq⟩ := last (((T'.setTop (F0 m pc ls rest)).pushFrame (.throwing q)).setVm (((T'.setTop (F0 m pc ls rest)).pushFrame (.throwing q)).vm.noted m.cls z.catchType (.cls c6))) (hW.noted hd6 hopen6 (State.rightAt_cls hcl6)) hcellS
        refine ⟨vm', hW', fun Qh Ec d acts => ?_⟩
        rw [W.findHandler_eq hmeth X2.code, hsplit, List.singleton_append, zc_row (S := ((T'.setTop (F0 m pc ls rest)).pushFrame (.throwing q))) (f := F0 m pc ls rest) hzc hz0 (hW.classLinks hcl6) hcellS hobj ⟨k9', h9'⟩ ⟨kt', hkt'⟩ (b := false) (by rw [hW.alike.assignable]; exact g3), if_neg (by decide)]
        exact hq Qh Ec d acts
    obtain ⟨vm', hW', hq⟩ := key
    have st2 := zc_fin X2 (g := F0 m pc ls rest) rfl hq
    obtain ⟨t2, a1, b1⟩ := kk q T'.heap (by rw [e1]; exact hz) (fun r hr => by rw [e1]; exact hk r hr) (T'.setVm vm') rfl (X2.noted hW')
    exact ⟨t2, st.trans (st2.trans a1), b1⟩
end ZK
/-- the world of the throws -/
def IAE : String := "java/lang/IllegalArgumentException"
def ISE : String := "java/lang/IllegalStateException"
def strs : List (Nat × String) := [(40, "the exponent is below 0"), (49, "0 has no inverse"), (60, "p is too large for log"), (73, "the two challenges are one"), (78, "what is not 0 to 2"), (80, "a number is not 0 to p - 1"), (82, "a number is no member"), (84, "a number is not 0 to q - 1")]
def decls : List String := ["java/lang/RuntimeException", "java/lang/Exception", "java/lang/Throwable"]
def TW (U : State) : Prop := va_Nw (.castable IAE IAE) U ∧ va_Nw (.castable ISE ISE) U ∧ vx_Zq Bundle.tN "UNASSIGNED_STACK" Bundle.steD (fun _ => False) U U.heap ∧ vx_Zq Bundle.tN "SUPPRESSED_SENTINEL" Bundle.listD (fun _ => False) U U.heap ∧ (∀ q ∈ strs, ∃ a, vk_R R_X q.1 q.2 a U) ∧ ∀ C ∈ decls, va_Nw (.declares (Bundle.initS C)) U
theorem TW_B : zB TW := fun U g mk a ⟨h1, h2, h3, h4, h5, h6⟩ =>
  ⟨va_Nw.same rfl (u := U) rfl h1, va_Nw.same rfl (u := U) rfl h2, vx_Zq.moved (u := U) (Vm.Alike.refl U.vm) h3, vx_Zq.moved (u := U) (Vm.Alike.refl U.vm) h4, fun q hq => by
    obtain ⟨a', ha⟩ := h5 q hq
    exact ⟨a', vk_R.same (u := U) rfl ha⟩, fun C hC => va_Nw.same rfl (u := U) rfl (h6 C hC)⟩
theorem TW_at {s : State} {H : Heap} (h : TW s) (hk : ∀ q : Nat, q < s.heap.size → H[q]? = s.heap[q]?) : ∀ U : State, U.heap = H → s.WarmedH U.vm → TW U := by
  intro U hU hW
  obtain ⟨h1, h2, h3, h4, h5, h6⟩ := h
  refine ⟨va_Nw.warmC hW h1, va_Nw.warmC hW h2, ?_, ?_, (fun q hq => by
    obtain ⟨a', ha⟩ := h5 q hq
    exact ⟨a', vk_R.warm hW ha⟩), fun C hC => va_Nw.warmD hW (h6 C hC)⟩
  · rw [hU]; exact vx_Zq.kept (vx_Zq.moved hW.alike h3) (fun a ha _ => hk a ha)
  · rw [hU]; exact vx_Zq.kept (vx_Zq.moved hW.alike h4) (fun a ha _ => hk a ha)
/-- the object of the class: its three fields -/
abbrev oX (h0 : Nat) (P Qv G : Int32) : va_W := [(h0, .inr (0, [.int P, .int Qv, .int G]))]
def OX (D : va_G) (h0 : Nat) (P Qv G : Int32) (U : State) : Prop := va_P D classes (oX h0 P Qv G) U.heap ∧ va_K D classes [] U ∧ TW U
theorem OX_B {D : va_G} {h0 : Nat} {P Qv G : Int32} : zB (OX D h0 P Qv G) := fun U g mk a ⟨h1, h2, h3⟩ => ⟨h1, va_K.moved (u := U) (U := U.calling g mk a) (Vm.Alike.refl U.vm) h2, TW_B U g mk a h3⟩
theorem OX_at {D : va_G} {h0 : Nat} {P Qv G : Int32} {s : State} {H : Heap} {tys : List (ClassId × FieldType)} (hP : va_P D classes (oX h0 P Qv G) H) (hK : va_K D classes tys s) (hT : TW s) (hk : ∀ q : Nat, q < s.heap.size → H[q]? = s.heap[q]?) : ∀ U : State, U.heap = H → s.WarmedH U.vm → OX D h0 P Qv G U :=
  fun U hU hW => ⟨by rw [hU]; exact hP, va_K.moved hW.alike (hK.sub (tys' := []) [] rfl), TW_at hT hk U hU hW⟩
