/-! the law: what its cases stand on -/
def R_law : String := "ProofDeskLaw"
def lw_P (b : Addr) (xs : List Int32) (args : Array Value) (s : State) : Prop := args = #[.ref b] ∧ s.IntsAt b xs ∧ xs.length ≤ 2560 ∧ (Jvm.Cond.and given_1 narrow_1).before args s = true
def lw_Q (_ : Array Value) (s : State) (o : Outcome) (t : State) : Prop := o = .returned (some (.int 1)) ∧ Framed s o t [] 1035 8248
def lw_Z (below : List Frame) (a : Array Value) (s : State) : State → Prop := fun t => ∃ o, t.status = .running ∧ Ended t below o ∧ lw_Q a s o t
/-- the law's own end, with 1 on the stack, nothing written that was there before, its room as the claim has it -/
theorem lw_ret {p : Program} {l : Launch} {e : Env} {s : State} {m : MethodId} {below : List Frame} {meth : Method} {c : Code} {b : Nat} (hx : p.tables.exec = Jvm.exec) (hb : c.code = code) (hr : meth.sig.returnType = ret) (hlocks : meth.locks = false) {pc : Nat} {H : Heap} {ls : Array Slot} (hdg : decode code pc = .ok (.ireturn, 1)) : W p l e room_1 s m #[Value.ref b] below meth c H [] 1035 8248 (lw_Z below #[Value.ref b] s) (F0 m pc ls [.int 1]) := by
  intro T hT X
  obtain ⟨fs, hret, hrun, hended, hW, hframe⟩ := X.leave (v := some (.int 1)) (hlocks := hlocks) (fun h => by rw [hr] at h; cases h)
  have hmeth' : T.vm.method? m = some meth := X.method'
  refine ⟨T.setFrames fs, ?_, .returned (some (.int 1)), hrun, hended, rfl, ⟨_, rfl⟩, hW, hframe⟩
  jvm_step X.here [X.here.top, hx, hb, hdg, hmeth', hr, ret, narrow_b1]
  (try refine ⟨rfl, ?_⟩); (try refine ⟨rfl, ?_⟩)
  first | (intro acts; rw [hret _ acts rfl rfl rfl]) | rw [hret _ _ rfl rfl rfl]
  exact Steps.refl _
/-- what holds at the law's entry: the machine, the code, the tables' words (any of lw_tbl by 'hts w (by decide +kernel)'), the script of L ints xs at the cell b, what the Statement gives of the start (any of its parts by flat_of_before) -/
def lw_At (p : Program) (s : State) (m : MethodId) (meth : Method) (c : Code) (b L : Nat) (xs : Nat → Int32) : Prop :=
  p.tables.exec = Jvm.exec ∧ c.code = code ∧ meth.sig.returnType = ret ∧ c.maxLocals = 7 ∧ s.vm.findClass R_law = some m.cls ∧ (∀ w ∈ lw_tbl, w.before #[Value.ref b] s = true) ∧ va_X b L xs s s.heap ∧ b < s.heap.size ∧ meth.locks = false ∧ (Jvm.Cond.and given_1 narrow_1).before #[Value.ref b] s = true
section ZL
variable {p : Program} {l : Launch} {e : Env} {R : Room} {s : State} {m : MethodId} {args : Array Value} {below : List Frame} {meth : Method} {c : Code} {H : Heap} {locs : List Loc} {cells slots : Nat} {Q : State → Prop} {pc : Nat} {ls : Array Slot} {rest st0 : List Value}
/-- a wrapper that writes the row -/
theorem zSWo {own : String} {ix nL maxL : Nat} {y : MethodName} {cc bytes : ByteArray} {ret : Option FieldType} {hh : List (Nat × Nat × Nat × Nat)} {rm : Room} {As : List Value} {v : Option Value} {I : State → Prop} {h : Nat} {D : va_G} {ws : va_W} {A0 : Nat → Prop} {H0 : Heap} (S : CallFix p m c cc nL s args wall own)
    (hM : Met l y (.codeWith y bytes maxL ret hh :: wall) rm (zP As I) (zW v D ws h) 0 0 (fun q => q = h)) (hB : zB I) (hI : ∀ U : State, U.heap = H → s.WarmedH U.vm → I U)
    (g : GoodIn wall (va_wsS own ix y (.codeWith y bytes maxL ret hh :: wall))) (hrc : rm.cells = 0) (hrs : rm.slots = 0)
    (hd : y.cls ≠ "java/lang/invoke/MethodHandle" ∧ y.cls ≠ "java/lang/invoke/VarHandle" ∧ (parseMethodDescriptor y.desc).map (fun d => d.parameters.length) = some As.length) (hR : rm.frames + 1 ≤ R.frames ∧ 8 + (maxL + 11) + rm.locals ≤ R.locals)
    (hsize : ls.size = nL) (hst : st0 = As.reverse ++ rest) (hW : (rest.map fun v => v.category).sum ≤ 8) (hdg : decode cc pc = .ok (.invokestatic ix, 3)) (hcs : cells ≤ R.cells ∧ slots ≤ R.slots) (hS : va_S A0 H0 H locs) (hA : A0 h)
    (kk : ∀ (H1 : Heap) (locs1 : List Loc), va_P D classes ws H1 → H.size ≤ H1.size → (∀ q : Nat, q < H.size → q ≠ h → H1[q]? = H[q]?) → va_S A0 H0 H1 locs1 → W p l e R s m args below meth c H1 locs1 cells slots Q (F0 m (pc + 3) ls (v.toList ++ rest))) : W p l e R s m args below meth c H locs cells slots Q (F0 m pc ls st0) := by
  subst hst
  exact zWc (vx_runSW (As := As) (rest := rest) S hM (vx_cwSW As.length S.2.2.2.2 g rfl hrc hrs hd hR) ⟨hB.blind _, fun U h1 h2 => ⟨rfl, hI U h1 h2⟩⟩ rfl rfl hsize rfl (lv_room hW) hdg hcs) hS hA kk
theorem va_S.ext {A : Nat → Prop} {H0 H H1 : Heap} {locs : List Loc} (h : va_S A H0 H locs) (hz : H.size ≤ H1.size) (hk : ∀ q : Nat, q < H.size → H1[q]? = H[q]?) : va_S A H0 H1 locs :=
  ⟨Nat.le_trans h.1 hz, fun q h1 h2 => by rw [hk q (Nat.lt_of_lt_of_le h1 h.1)]; exact h.2.1 q h1 h2, h.2.2⟩
/-- a wrapper whose call threw -/
theorem zSWn {own : String} {ix nL maxL : Nat} {y : MethodName} {cc bytes : ByteArray} {ret : Option FieldType} {hh : List (Nat × Nat × Nat × Nat)} {rm : Room} {As : List Value} {v : Option Value} {I : State → Prop} {A0 : Nat → Prop} {H0 : Heap} (S : CallFix p m c cc nL s args wall own)
    (hM : Met l y (.codeWith y bytes maxL ret hh :: wall) rm (zP As I) (zN v) 1 6 (fun _ => False)) (hB : zB I) (hI : ∀ U : State, U.heap = H → s.WarmedH U.vm → I U)
    (g : GoodIn wall (va_wsS own ix y (.codeWith y bytes maxL ret hh :: wall))) (hrc : rm.cells = 1) (hrs : rm.slots = 6)
    (hd : y.cls ≠ "java/lang/invoke/MethodHandle" ∧ y.cls ≠ "java/lang/invoke/VarHandle" ∧ (parseMethodDescriptor y.desc).map (fun d => d.parameters.length) = some As.length) (hR : rm.frames + 1 ≤ R.frames ∧ 8 + (maxL + 11) + rm.locals ≤ R.locals)
    (hsize : ls.size = nL) (hst : st0 = As.reverse ++ rest) (hW : (rest.map fun v => v.category).sum ≤ 8) (hdg : decode cc pc = .ok (.invokestatic ix, 3)) (hcs : cells + 1 ≤ R.cells ∧ slots + 6 ≤ R.slots) (hS : va_S A0 H0 H locs)
    (kk : ∀ (H1 : Heap), H.size ≤ H1.size → (∀ q : Nat, q < H.size → H1[q]? = H[q]?) → va_S A0 H0 H1 locs → W p l e R s m args below meth c H1 locs (cells + 1) (slots + 6) Q (F0 m (pc + 3) ls (v.toList ++ rest))) : W p l e R s m args below meth c H locs cells slots Q (F0 m pc ls st0) := by
  subst hst
  have hr := vx_runSW (p := p) (e := e) (below := below) (meth := meth) (locs := locs) (cells := cells) (slots := slots) (g := F0 m pc ls (As.reverse ++ rest)) (As := As) (rest := rest) S hM (vx_cwSW As.length S.2.2.2.2 g rfl hrc hrs hd hR) ⟨hB.blind _, fun U h1 h2 => ⟨rfl, hI U h1 h2⟩⟩ rfl rfl hsize rfl (lv_room hW) hdg hcs
  intro T hT X
  obtain ⟨v', st₀, t, T', L, h0, X', hL, e1, e2, ⟨hv, hz, hk⟩, st⟩ := hr T hT X
  cases hv
  rw [h0] at hz hk
  have hz' : H.size ≤ T'.heap.size := by rw [e1]; exact hz
  have hk' : ∀ q : Nat, q < H.size → T'.heap[q]? = H[q]? := fun q hq => by rw [e1]; exact hk q hq
  obtain ⟨t2, a1, b1⟩ := kk T'.heap hz' hk' (hS.ext hz' hk') T' rfl (Stand.forget X' (fun q h => (hL q h).elim))
  exact ⟨t2, st t2 a1, b1⟩
end ZL
theorem P1_kept {D : va_G} {cl : List vw_C} {a : Nat} {e : va_E} {H H1 : Heap} (h : va_P D cl [(a, e)] H) (hq : H1[a]? = H[a]?) : va_P D cl [(a, e)] H1 := h.kept (fun k q hk => by
  cases k with
  | zero => simp at hk; rw [← hk]; exact hq
  | succ k => simp at hk)
theorem P1_lt {D : va_G} {cl : List vw_C} {a : Nat} {e : va_E} {H : Heap} (h : va_P D cl [(a, e)] H) : a < H.size := vx_lt h (k := 0) rfl
theorem grp_of_okg {P G : Nat} (hP : P < 2 ^ 31) (hG : G < 2 ^ 31) (h : okg (P : Int) (nI (G)).toInt) : grp P ((P - 1) / 2) G := by
  obtain ⟨k1, k2, k3, k4, k5⟩ := h
  rw [nI_toInt hG] at k2 k3
  obtain ⟨m1, m2, m3⟩ := k3
  have k5 : zp P := k5
  have hodd := k5.2 2 (by omega) (by omega)
  have m2 : (G : Int) < (P : Int) := m2
  exact ⟨by omega, k5, k4, by omega, by omega, m3, hP⟩
/-- what holds at the head of a turn, and behind it -/
def LInv (D : va_G) (cA : ClassId) (b qx qm qo j : Nat) (s : State) (pp qq gg : Nat) (er : Int32) (f : Nat → Int64) (H : Heap) (locs : List Loc) (ls : Array Slot) : Prop :=
  grp pp qq gg ∧ va_P D classes (oX qx (nI (pp)) (nI (qq)) (nI (gg))) H ∧ va_P D classes (oM qm er (lN (pp)) (lN (qq)) (lN (gg))) H ∧ va_P D classes (oA qo cA f) H ∧ va_S (fun q => s.heap.size ≤ q) s.heap H locs ∧ lv_has ls 7 [(0, .ref b), (1, .ref qx), (2, .ref qm), (3, .ref qo), (4, .int (nI (5 * j)))]
/-- what holds through the whole run -/
def LFix (l : Launch) (D : va_G) (cA : ClassId) (qx qm qo Ln : Nat) (s : State) : Prop :=
  l.stackTraces = false ∧ Ln ≤ 2560 ∧ TW s ∧ va_Nc ISE IAE s ∧ va_K D classes [(cA, .long)] s ∧ (qx ≠ qm ∧ qx ≠ qo ∧ qm ≠ qo) ∧ (s.heap.size ≤ qx ∧ s.heap.size ≤ qm ∧ s.heap.size ≤ qo)
