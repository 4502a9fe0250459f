/-! the law: its loop, its start, the claim -/
set_option maxHeartbeats 4000000 in
set_option maxRecDepth 100000 in
theorem law_loop {p : Program} {l : Launch} {e : Env} {s : State} {m : MethodId} {below : List Frame} {meth : Method} {c : Code} {D : va_G} {cA : ClassId} {b Ln qx qm qo : Nat} {xs : Nat → Int32} (C0 : lw_At p s m meth c b Ln xs) (F : LFix l D cA qx qm qo Ln s) :
    ∀ (n j : Nat), Ln < 5 * j + 5 * n → j ≤ 512 → ∀ (pp qq gg : Nat) (er : Int32) (f : Nat → Int64) (H : Heap) (locs : List Loc) (ls : Array Slot), LInv D cA b qx qm qo j s pp qq gg er f H locs ls → W p l e room_1 s m #[Value.ref b] below meth c H locs (3 + j) (8 + 6 * j) (lw_Z below #[Value.ref b] s) (F0 m 23 ls []) := by
  obtain ⟨hx, hb, hr, hml, hown, hts, hX, hbl, hlocks, hgv⟩ := id C0
  have hLn : Ln ≤ 2560 := F.2.1
  have hbA : ¬ (fun q : Nat => s.heap.size ≤ q) b := Nat.not_le.mpr hbl
  intro n
  induction n with
  | zero =>
    intro j q1 q2 pp qq gg er f H locs ls I0
    obtain ⟨G, hPX, hPM, hPO, hS, hl⟩ := id I0
    refine lv_iload hx hb d_L_law_23 (lv_at hl 4 rfl) ?_
    refine lv_aload_n hx hb d_L_law_25 rfl (lv_at hl 0 rfl) ?_
    refine va_slen hx hb hX hbl hbA hS d_L_law_26 ?_
    refine tI (nI (Ln)) (rfl) ?_
    refine lv_iconst (v := nI (5)) hx hb d_L_law_27 (by decide) ?_
    refine lv_isub hx hb d_L_law_28 ?_
    refine tI (nI (Ln) - nI (5)) (rfl) ?_
    refine lv_icmp_gt (tgt := 813) hx hb d_L_law_29 (by decide) (fun _ => ?_) (fun z => absurd (ilt.mpr (by rw [pk_sub_toInt (by omega) (by omega), nI_toInt (by omega)]; omega)) z)
    refine lv_iconst (v := nI (1)) hx hb d_L_law_813 (by decide) ?_
    refine va_forget (fun q hq => hS.2.2 q hq) ?_
    refine W.widen (k := 1035) (n := 8248) (by omega) (by omega) ?_
    exact lw_ret hx hb hr hlocks d_L_law_814
  | succ n ih =>
    intro j q1 q2 pp qq gg er f H locs ls I0
    obtain ⟨G, hPX, hPM, hPO, hS, hl⟩ := id I0
    refine lv_iload hx hb d_L_law_23 (lv_at hl 4 rfl) ?_
    refine lv_aload_n hx hb d_L_law_25 rfl (lv_at hl 0 rfl) ?_
    refine va_slen hx hb hX hbl hbA hS d_L_law_26 ?_
    refine tI (nI (Ln)) (rfl) ?_
    refine lv_iconst (v := nI (5)) hx hb d_L_law_27 (by decide) ?_
    refine lv_isub hx hb d_L_law_28 ?_
    refine tI (nI (Ln) - nI (5)) (rfl) ?_
    refine lv_icmp_gt (tgt := 813) hx hb d_L_law_29 (by decide) (fun cc => ?_) (fun cc => ?_)
    · refine lv_iconst (v := nI (1)) hx hb d_L_law_813 (by decide) ?_
      refine va_forget (fun q hq => hS.2.2 q hq) ?_
      refine W.widen (k := 1035) (n := 8248) (by omega) (by omega) ?_
      exact lw_ret hx hb hr hlocks d_L_law_814
    · have hj : 5 * j + 5 ≤ Ln := by
        refine Nat.le_of_not_lt fun z => cc (ilt.mpr ?_)
        rw [pk_sub_toInt (by omega) (by omega), nI_toInt (by omega)]
        omega
      have kk : ∀ (pp qq gg : Nat) (er : Int32) (f : Nat → Int64) (H : Heap) (locs : List Loc) (ls : Array Slot), LInv D cA b qx qm qo j s pp qq gg er f H locs ls → W p l e room_1 s m #[Value.ref b] below meth c H locs (3 + j + 1) (8 + 6 * j + 6) (lw_Z below #[Value.ref b] s) (F0 m 807 ls []) := by
        intro pp qq gg er f H locs ls I1
        obtain ⟨G, hPX, hPM, hPO, hS, hl⟩ := I1
        refine lv_iinc (v := nI (5 * (j + 1))) (lv' := [(4, .int (nI (5 * (j + 1)))), (0, .ref (b)), (1, .ref (qx)), (2, .ref (qm)), (3, .ref (qo))]) hx hb d_L_law_807 hl (k := 4) rfl (by rw [show 5 * (j + 1) = 5 * j + 5 by omega, ← nI_add]; rfl) (by decide) rfl (fun ls hl => ?_)
        refine lv_goto (tgt := 23) hx hb d_L_law_810 (by decide) ?_
        exact ih (j + 1) (by omega) (by omega) pp qq gg er f H locs ls ⟨G, hPX, hPM, hPO, hS, lv_sub hl [1, 2, 3, 4, 0] rfl⟩
      refine lv_aload_n hx hb d_L_law_32 rfl (lv_at hl 0 rfl) ?_
      refine lv_iload hx hb d_L_law_33 (lv_at hl 4 rfl) ?_
      refine va_sld hx hb hX hbl hbA hS (vp_in_nI (show 5 * j < Ln by omega) (by omega)) d_L_law_35 ?_
      refine lv_bipush (v := nI (15)) hx hb d_L_law_36 (by decide) ?_
      obtain ⟨dd, hdd, hde⟩ := pk_andE (xs (nI (5 * j)).toNatClampNeg) (m := nI (15)) 4 (by decide)
      refine lv_iand hx hb d_L_law_38 ?_
      refine tI (nI (dd)) (hde) ?_
      have h16 : dd < 16 := hdd
      have hcs : dd = 0 ∨ dd = 1 ∨ dd = 2 ∨ dd = 3 ∨ dd = 4 ∨ dd = 5 ∨ dd = 6 ∨ dd = 7 ∨ dd = 8 ∨ dd = 9 ∨ dd = 10 ∨ 11 ≤ dd := by omega
      rcases hcs with rfl | rfl | rfl | rfl | rfl | rfl | rfl | rfl | rfl | rfl | rfl | hge
      · refine lv_tableIn (tgt := 96) hx hb d_L_law_39 (by decide) (by decide) rfl (by decide) ?_
        exact law_begin C0 F j hj kk pp qq gg er f H locs ls I0
      · refine lv_tableIn (tgt := 133) hx hb d_L_law_39 (by decide) (by decide) rfl (by decide) ?_
        exact law_member C0 F j hj kk pp qq gg er f H locs ls I0
      · refine lv_tableIn (tgt := 158) hx hb d_L_law_39 (by decide) (by decide) rfl (by decide) ?_
        exact law_product C0 F j hj kk pp qq gg er f H locs ls I0
      · refine lv_tableIn (tgt := 226) hx hb d_L_law_39 (by decide) (by decide) rfl (by decide) ?_
        exact law_power C0 F j hj kk pp qq gg er f H locs ls I0
      · refine lv_tableIn (tgt := 326) hx hb d_L_law_39 (by decide) (by decide) rfl (by decide) ?_
        exact law_inverse C0 F j hj kk pp qq gg er f H locs ls I0
      · refine lv_tableIn (tgt := 382) hx hb d_L_law_39 (by decide) (by decide) rfl (by decide) ?_
        exact law_log C0 F j hj kk pp qq gg er f H locs ls I0
      · refine lv_tableIn (tgt := 438) hx hb d_L_law_39 (by decide) (by decide) rfl (by decide) ?_
        exact law_accepts C0 F j hj kk pp qq gg er f H locs ls I0
      · refine lv_tableIn (tgt := 499) hx hb d_L_law_39 (by decide) (by decide) rfl (by decide) ?_
        exact law_answer C0 F j hj kk pp qq gg er f H locs ls I0
      · refine lv_tableIn (tgt := 579) hx hb d_L_law_39 (by decide) (by decide) rfl (by decide) ?_
        exact law_feign C0 F j hj kk pp qq gg er f H locs ls I0
      · refine lv_tableIn (tgt := 659) hx hb d_L_law_39 (by decide) (by decide) rfl (by decide) ?_
        exact law_secret C0 F j hj kk pp qq gg er f H locs ls I0
      · refine lv_tableIn (tgt := 751) hx hb d_L_law_39 (by decide) (by decide) rfl (by decide) ?_
        exact law_count C0 F j hj kk pp qq gg er f H locs ls I0
      · refine lv_tableOut (tgt := 807) hx hb d_L_law_39 (by rw [nI_toInt (by omega)]; omega) (by decide) ?_
        exact W.widen (by omega) (by omega) (kk pp qq gg er f H locs ls I0)
theorem two_P {D : va_G} {cl : List vw_C} {x y : Nat × va_E} {H : Heap} (h1 : va_P D cl [x] H) (h2 : va_P D cl [y] H) : va_P D cl [x, y] H := fun k q hk => by
  cases k with
  | zero => exact h1 0 q hk
  | succ k => exact h2 k q hk
theorem two_D {A : Nat → Prop} {x y : Nat × va_E} (hx : A x.1) (hy : A y.1) (h : x.1 ≠ y.1) : va_D A [x, y] := by
  refine ⟨fun i j p q hi hj hpq => ?_, fun k q hk => ?_⟩
  · match i, j, hi, hj with
    | 0, 0, _, _ => rfl
    | 0, 1, hi, hj => simp at hi hj; rw [← hi, ← hj] at hpq; exact absurd hpq h
    | 1, 0, hi, hj => simp at hi hj; rw [← hi, ← hj] at hpq; exact absurd hpq.symm h
    | 1, 1, _, _ => rfl
    | i + 2, _, hi, _ => simp at hi
    | _, j + 2, _, hj => simp at hj
  · match k, hk with
    | 0, hk => simp at hk; rw [← hk]; exact hx
    | 1, hk => simp at hk; rw [← hk]; exact hy
    | k + 2, hk => simp at hk
/-- the world of the throws, at the start -/
theorem tw_start {b : Nat} {s : State} (hts : ∀ w ∈ lw_tbl, w.before #[Value.ref b] s = true) (hgv : (Jvm.Cond.and given_1 narrow_1).before #[Value.ref b] s = true) : TW s ∧ va_Nc ISE IAE s := by
  have hg := flat_of_before _ hgv
  refine ⟨⟨va_Nw.of rfl (hts (.castable IAE IAE) (by decide +kernel)), va_Nw.of rfl (hts (.castable ISE ISE) (by decide +kernel)), ?_, ?_, ?_, ?_⟩, va_Nc.of (hg (.not (.castable ISE IAE)) (by decide +kernel))⟩
  · exact vx_Zqof (hts (.laysStatic Bundle.tN "UNASSIGNED_STACK" Bundle.steD) (by decide +kernel)) (hts (.initialized Bundle.tN) (by decide +kernel)) (hg (.isRef (.static Bundle.tN "UNASSIGNED_STACK" Bundle.steD)) (by decide +kernel)) (fun _ _ z => z)
  · exact vx_Zqof (hts (.laysStatic Bundle.tN "SUPPRESSED_SENTINEL" Bundle.listD) (by decide +kernel)) (hts (.initialized Bundle.tN) (by decide +kernel)) (hg (.isRef (.static Bundle.tN "SUPPRESSED_SENTINEL" Bundle.listD)) (by decide +kernel)) (fun _ _ z => z)
  · intro q hq
    have h1 : ∀ q ∈ strs, Cond.stringRef R_X q.1 q.2 ∈ lw_tbl := by decide +kernel
    have h2 : ∀ q ∈ strs, Cond.exactly (.string R_X q.1) "java/lang/String" ∈ flatC (Jvm.Cond.and given_1 narrow_1) := by decide +kernel
    obtain ⟨a, -, -, -, ha, -⟩ := Cond.exactly_spec (args := #[Value.ref b]) (first := s) (o := none) (s := s) (idx := []) (t := .string R_X q.1) (cls := "java/lang/String") (hg _ (h2 q hq))
    exact ⟨a, vk_R.of (hts _ (h1 q hq)) ha⟩
  · intro C hC
    have h1 : ∀ C ∈ decls, Cond.declares (Bundle.initS C) ∈ lw_tbl := by decide +kernel
    exact va_Nw.of rfl (hts _ (h1 C hC))
theorem grp_first : grp 23 11 2 := by
  refine ⟨rfl, ⟨by decide, fun d h1 h2 => ?_⟩, ⟨by decide, fun d h1 h2 => ?_⟩, by decide, by decide, by decide, by decide⟩
  · have hd : d < 5 := by
      refine Nat.lt_of_not_le fun z => ?_
      have := Nat.mul_le_mul z z
      omega
    have : d = 2 ∨ d = 3 ∨ d = 4 := by omega
    rcases this with rfl | rfl | rfl <;> decide
  · have hd : d < 4 := by
      refine Nat.lt_of_not_le fun z => ?_
      have := Nat.mul_le_mul z z
      omega
    have : d = 2 ∨ d = 3 := by omega
    rcases this with rfl | rfl <;> decide
set_option maxHeartbeats 4000000 in
set_option maxRecDepth 100000 in
/-- THE LAW, from its entry -/
theorem whole_start {p : Program} {e : Env} {s : State} {m : MethodId} {below : List Frame} {meth : Method} {c : Code} (l : Launch) (hL : l.stackTraces = false) {b L : Nat} {xs : Nat → Int32} (hLn : L ≤ 2560) (C0 : lw_At p s m meth c b L xs) : W p l e room_1 s m #[Value.ref b] below meth c s.heap [] 0 0 (lw_Z below #[Value.ref b] s) (entryFrame m ([Value.ref b] : List Value).toArray 7) := by
  obtain ⟨hx, hb, hr, hml, hown, hts, hX, hbl, hlocks, hgv⟩ := id C0
  obtain ⟨hT, hN⟩ := tw_start hts hgv
  have hw : ∀ w ∈ wall, w.before #[Value.ref b] s = true := fun w h => hts w (List.mem_filter.mp h).1
  have hA : ∀ q : Nat, s.heap.size ≤ q → (fun q : Nat => s.heap.size ≤ q) q := fun _ h => h
  obtain ⟨c0, iS0, hKn0⟩ := u_known (C := R_X) (T := F_X) (N := 3) (n := 3) hw i_X (hw _ it_X)
  obtain ⟨c1, iS1, hKn1⟩ := u_known (C := R_M) (T := F_M) (N := 4) (n := 4) hw i_M (hw _ it_M)
  obtain ⟨D, hKc⟩ : ∃ D : va_G, ∀ (k : Nat) (q : vw_C), classes[k]? = some q → u_Kn s q.1 q.2.1 q.2.2 (D.1 k) (D.2 k) := by
    refine ⟨(fun k => if k = 0 then c0 else c1, fun k => if k = 0 then iS0 else iS1), ?_⟩
    intro k q hq
    match k, hq with
    | 0, hq => cases hq; exact hKn0
    | 1, hq => cases hq; exact hKn1
    | k + 2, hq => simp [classes] at hq
  have hS : va_S (fun q : Nat => s.heap.size ≤ q) s.heap s.heap [] := va_S.rf
  have hK : va_K D classes [] s := ⟨hKc, fun k q h => by simp at h⟩
  have hP : va_P D classes [] s.heap := fun k q h => by simp at h
  have hD : va_D (fun q : Nat => s.heap.size ≤ q) [] := ⟨fun i j p q h => by simp at h, fun k q h => by simp at h⟩
  have hl := lv_entry ([.ref b]) (n := 7) (Nat.le_of_ble_eq_true rfl)
  rw [lg_entry_eq]
  generalize (lg_sl ([.ref b]) ++ List.replicate (7 - (lg_sl ([.ref b])).length) Slot.unset).toArray = ls at hl ⊢
  have hl : lv_has ls 7 [(0, .ref b)] := hl
  refine va_new (ci := 0) (fs := [.int 0, .int 0, .int 0]) (C := R_X) (T := F_X) (N := 3) hx hb hw i_X t_X t_X_ok hown (hw _ cl_L_8) (hw _ it_X) (hw _ in_X) hK hP hD hS hA rfl (fun j hj => by rcases (show j = 0 ∨ j = 1 ∨ j = 2 by omega) with rfl | rfl | rfl <;> rfl) (Nat.le_of_ble_eq_true rfl) (Nat.le_of_ble_eq_true rfl) d_L_law_0 (fun qx H hP hD hS => ?_)
  have hPX : va_P D classes (oX qx 0 0 0) H := hP
  have gx : s.heap.size ≤ qx := hD.2 0 _ rfl
  refine lv_dup hx hb d_L_law_3 rfl ?_
  refine zIW (b := qx) (rest := [.ref qx]) ⟨hx, hb, hml, hown, hw⟩ (c_X_init l D qx) OY_B (OY_at hPX hK) cw_X_init in_X ml_L_42 im_y_X_init rfl rfl rfl (by decide +kernel) ⟨Nat.le_of_ble_eq_true rfl, Nat.le_of_ble_eq_true rfl⟩ hl.1 rfl (Nat.le_of_ble_eq_true rfl) d_L_law_4 ⟨Nat.le_of_ble_eq_true rfl, Nat.le_of_ble_eq_true rfl⟩ hS gx (fun H1 locs hPX hz hk hS => ?_)
  generalize H1 = H at hPX hS ⊢
  have hPX : va_P D classes (oX qx (nI (23)) (nI (11)) (nI (2))) H := hPX
  refine W.eq (g2 := F0 m 7 ls [.ref qx]) rfl ?_
  refine lv_astore_n (lv' := [(1, .ref qx), (0, .ref b)]) hx hb d_L_law_7 rfl hl (by decide) rfl (fun ls hl => ?_)
  have hD : va_D (fun q : Nat => s.heap.size ≤ q) (oX qx (nI (23)) (nI (11)) (nI (2))) := one_D.weaken (fun k q hk h => by rw [h]; exact gx)
  refine va_new (ci := 1) (fs := [.int 0, .long 0, .long 0, .long 0]) (C := R_M) (T := F_M) (N := 4) hx hb hw i_M t_M t_M_ok hown (hw _ cl_L_43) (hw _ it_M) (hw _ in_M) hK hPX hD hS hA rfl (fun j hj => by rcases (show j = 0 ∨ j = 1 ∨ j = 2 ∨ j = 3 by omega) with rfl | rfl | rfl | rfl <;> rfl) (Nat.le_of_ble_eq_true rfl) (Nat.le_of_ble_eq_true rfl) d_L_law_8 (fun qm H hP hD hS => ?_)
  have hPX : va_P D classes (oX qx (nI (23)) (nI (11)) (nI (2))) H := hP.sub [0] rfl
  have hPM : va_P D classes (oM qm 0 0 0 0) H := hP.sub [1] rfl
  have gm : s.heap.size ≤ qm := hD.2 1 _ rfl
  have nxm : qx ≠ qm := fun z => by
    have := hD.1 0 1 _ _ rfl rfl z
    omega
  refine lv_dup hx hb d_L_law_11 rfl ?_
  refine zIW (b := qm) (rest := [.ref qm]) ⟨hx, hb, hml, hown, hw⟩ (c_M_init l D qm) OM_B (OM_at hPM hK) cw_M_init in_M ml_L_45 im_y_M_init rfl rfl rfl (by decide +kernel) ⟨Nat.le_of_ble_eq_true rfl, Nat.le_of_ble_eq_true rfl⟩ hl.1 rfl (Nat.le_of_ble_eq_true rfl) d_L_law_12 ⟨Nat.le_of_ble_eq_true rfl, Nat.le_of_ble_eq_true rfl⟩ hS gm (fun H1 locs hPM hz hk hS => ?_)
  have hPX := P1_kept hPX (hk qx (P1_lt hPX) nxm)
  generalize H1 = H at hPX hPM hS ⊢
  have hPM : va_P D classes (oM qm 0 (lN (23)) (lN (11)) (lN (2))) H := hPM
  refine W.eq (g2 := F0 m 15 ls [.ref qm]) rfl ?_
  refine lv_astore_n (lv' := [(2, .ref qm), (1, .ref qx), (0, .ref b)]) hx hb d_L_law_15 rfl hl (by decide) rfl (fun ls hl => ?_)
  refine lv_iconst (v := nI (1)) hx hb d_L_law_16 (by decide) ?_
  refine va_newa (atype := .long) hx hb (hw _ ac_long) (ty := .long) rfl hK (two_P hPX hPM) (two_D gx gm nxm) hS hA (n := nI (1)) (N' := 1) (a0 := (1, .inr (.inl (fun _ => 0)))) (fun _ => rfl) (nI_pos (by decide)) (nI_clamp (by decide)) (by decide) (Nat.le_of_ble_eq_true rfl) (Nat.le_of_ble_eq_true rfl) d_L_law_17 (fun qo cA H hK hP hD hS => ?_)
  have hPX : va_P D classes (oX qx (nI (23)) (nI (11)) (nI (2))) H := hP.sub [0] rfl
  have hPM : va_P D classes (oM qm 0 (lN (23)) (lN (11)) (lN (2))) H := hP.sub [1] rfl
  have hPO : va_P D classes (oA qo cA (fun _ => 0)) H := hP.sub [2] rfl
  have go : s.heap.size ≤ qo := hD.2 2 _ rfl
  have nxo : qx ≠ qo := fun z => by
    have := hD.1 0 2 _ _ rfl rfl z
    omega
  have nmo : qm ≠ qo := fun z => by
    have := hD.1 1 2 _ _ rfl rfl z
    omega
  refine lv_astore_n (lv' := [(3, .ref qo), (2, .ref qm), (1, .ref qx), (0, .ref b)]) hx hb d_L_law_19 rfl hl (by decide) rfl (fun ls hl => ?_)
  refine lv_iconst (v := nI (0)) hx hb d_L_law_20 (by decide) ?_
  refine lv_istore (lv' := [(4, .int (nI (0))), (3, .ref qo), (2, .ref qm), (1, .ref qx), (0, .ref b)]) hx hb d_L_law_21 hl (by decide) rfl (fun ls hl => ?_)
  refine W.widen (k := 3 + 0) (n := 8 + 6 * 0) (Nat.le_of_ble_eq_true rfl) (Nat.le_of_ble_eq_true rfl) ?_
  exact law_loop C0 ⟨hL, hLn, hT, hN, hK, ⟨nxm, nxo, nmo⟩, gx, gm, go⟩ (L + 1) 0 (by omega) (by omega) 23 11 2 0 (fun _ => 0) H _ ls ⟨grp_first, hPX, hPM, hPO, hS, lv_sub hl [4, 3, 2, 1, 0] rfl⟩
set_option maxHeartbeats 4000000 in
theorem lw_walk (l : Launch) (hL : l.stackTraces = false) (b : Addr) (xs : List Int32) : MetFree l x (headSpec (Jvm.Cond.code x code maxLocals ret :: tables_1) room_1) (lw_P b xs) (fun _ _ _ _ _ => True) lw_Q := by
  refine MetFree.of_bodyS (code := code) (maxLocals := maxLocals) (ret := ret) (by decide) ?_ ?_
  · intro args s m h hn
    obtain ⟨meth, c, h1, h2, h3, h4, h5, h6, -, -⟩ := Cond.code_spec hn (atoms_spec (ws := Jvm.Cond.code x code maxLocals ret :: tables_1) h _ List.mem_cons_self)
    exact ⟨meth, c, h1, h2, h3, h4, h5, h6⟩
  · intro p e s m args below meth c s₁ B hml0 hP _
    obtain ⟨rfl, hx, hbd, hgv⟩ := hP
    obtain ⟨scr, harrAt, hlist, hof, hsmall⟩ := hx
    obtain ⟨hcb, hkn, -, -⟩ := State.arrayAt?_spec harrAt
    have hown : s.vm.findClass R_law = some m.cls := findClass_of_methodNamed B.named
    have hts0 : ∀ c ∈ (Jvm.Cond.code x code maxLocals ret :: tables_1), c.before #[Value.ref b] s = true := atoms_spec (ws := Jvm.Cond.code x code maxLocals ret :: tables_1) B.pre
    have hts : ∀ w ∈ lw_tbl, w.before #[Value.ref b] s = true := k2_hts_sels lw_privs (fun w hw => hts0 w (List.mem_cons_of_mem _ hw)) lw_privs_ok
    have hml : c.maxLocals = 7 := B.maxLocals_eq (hts0 _ List.mem_cons_self)
    have X₀ : Stand p l e room_1 s m #[Value.ref b] below meth c s₁ [] 0 0 := Stand.of_body B
    have hh0 : s₁.heap = s.heap := by rw [B.state]; rfl
    have hsz : scr.slots.size = xs.length := by rw [← Array.length_toList, hlist, List.length_map]
    have hval : ∀ j : Nat, j < xs.length → scr.slots[j]? = some (.int (xs.getD j 0)) := fun j hj => by
      rw [← Array.getElem?_toList, hlist]
      simp [hj]
    have hbl : b < s.heap.size := (Array.getElem?_eq_some_iff.mp hcb).1
    have hX : va_X b xs.length (fun j => xs.getD j 0) s s.heap := ⟨scr, hcb, hof, hkn, hsz, hval⟩
    have K : W p l e room_1 s m #[Value.ref b] below meth c s₁.heap [] 0 0 (lw_Z below #[Value.ref b] s) (entryFrame m ([Value.ref b] : List Value).toArray 7) := by
      rw [hh0]
      exact whole_start l hL hbd ⟨B.exec, B.bytes, B.returns, hml, hown, hts, hX, hbl, B.notSynchronized, hgv⟩
    obtain ⟨t, a1, o, b1, b2, b3⟩ := K s₁ rfl X₀
    exact ⟨t, o, a1, b1, b2, b3⟩
theorem lw_pre_spec {args : Array Value} {s : State} (h : (Jvm.Cond.and given_1 narrow_1).before args s = true) (hr : rest_1_c.before args s = true) : ∃ (b : Addr) (xs : List Int32), lw_P b xs args s := by
  have hs := flat_of_before _ h
  have hq := flat_of_before _ hr
  have hc : (Cond.count 1).before args s = true := hs _ (by decide +kernel)
  have harr : (Cond.arrayOf (.arg 0) .int).before args s = true := hs _ (by decide +kernel)
  have hle : (Cond.le (.length (.arg 0)) (.int 2560)).before args s = true := hs _ (by decide +kernel)
  have hlen : (Cond.isInt (.length (.arg 0))).before args s = true := hq _ (by decide +kernel)
  have hall : (Cond.all (.arg 0) (.isInt (.elem (.arg 0) (.index 0)))).before args s = true := hq _ (by decide +kernel)
  obtain ⟨b, xs, hb, hx⟩ := State.ints_of_pre rfl harr hlen hall
  have hsm : xs.length < 2 ^ 31 := hx.choose_spec.2.2.2
  have hev : (Term.length (.arg 0)).eval args s none [] s = some (.int xs.length.toInt32) := hx.length_eval hb
  have hv := Cond.le_ints hev (show (Term.int 2560).eval args s none [] s = some (.int 2560) from rfl)
  have hd : xs.length.toInt32 ≤ 2560 := by
    simpa [Cond.before, Cond.holds, hv] using hle
  have hN : xs.length ≤ 2560 := (Int32.ofNat_le_ofNat hsm (by decide)).mp (show Int32.ofNat xs.length ≤ Int32.ofNat 2560 from hd)
  exact ⟨b, xs, Cond.one_arg hc (show args[0]? = some (.ref b) from hb), hx, hN, h⟩
theorem lw_comes (l : Launch) (hL : l.stackTraces = false) : Comes l x (Jvm.Cond.code x code maxLocals ret :: tables_1) room_1 (fun tb e args s => Calls_1 tb e args s ∧ rest_1 tb e args s ∧ Pre_1 tb e args s)
    (fun _ _ args s o t => lw_Q args s o t) := by
  intro p e ha hc hk s m args below hf hfit hheap happ hpre
  obtain ⟨b, xs, hP⟩ := lw_pre_spec hpre.2.2 hpre.2.1
  obtain ⟨k, o, h1, h2, h3, hQ⟩ := lw_walk l hL b xs p e ha hc hk s m args below hf ((Spec.applies_iff_loose hf).mp happ).1 hP trivial
  exact ⟨k, o, h1, h2, h3, hQ⟩
theorem lw_frame {s t : State} {o : Outcome} {args : Array Value} (h : Framed s o t [] 1035 8248) :
    Framed s o t (fieldLocs frame_1_writes args s ++ arrayLocs frame_1_arrays args s ++ staticLocs frame_1_statics s) 1035 8248 := h
theorem lw_limb (L : Cond) (hL : ∀ (args : Array Value) (s t : State), L.after args s (.returned (some (.int 1))) t = true) :
    ArmFor flags0 classFile x code maxLocals ret World_1 tables_1 room_1 Calls_1 rest_1 Pre_1
      (fun tb e a s o t => postC L tb e a s o t ∧ Framed s o t (fieldLocs frame_1_writes a s ++ arrayLocs frame_1_arrays a s ++ staticLocs frame_1_statics s) 1035 8248) := by
  intro l hfl _ _ p e ha hc hk s m args below hf hfit hheap happ hpre
  obtain ⟨k, o, h1, h2, h3, rfl, hF⟩ := lw_comes l (by unfold Launch.stackTraces; rw [hfl]; decide +kernel) p e ha hc hk s m args below hf hfit hheap happ hpre
  exact ⟨k, _, h1, h2, h3, hL args s _, lw_frame hF⟩
theorem i_vc : Claimed_1_1 ∧ Claimed_1_2 := ⟨lw_limb limb_1_1 (fun args s t => by simp [limb_1_1, Cond.after, Cond.holds, Cond.value]), lw_limb limb_1_2 (fun args s t => Cond.after_iff.mpr (by
  first | (rw [show limb_1_2 = Cond.eq .result (.int 1) from rfl, Cond.eq_ints (x := 1) (y := 1) rfl rfl]; simp; done) | (simp [limb_1_2, Cond.value, Term.eval]; done)))⟩
