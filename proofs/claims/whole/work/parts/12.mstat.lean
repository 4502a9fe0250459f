/-! the reference: its static methods -/
def lZ (z : Int) : Int64 := Int64.ofInt z
theorem lZ_n (n : Nat) : lN n = lZ n := Int64.ofInt_eq_ofNat.symm
theorem lZ_sub (a b : Int) : lZ a - lZ b = lZ (a - b) := (Int64.ofInt_sub a b).symm
theorem lZ_add (a b : Int) : lZ a + lZ b = lZ (a + b) := (Int64.ofInt_add a b).symm
theorem lZ_mul (a b : Int) : lZ a * lZ b = lZ (a * b) := (Int64.ofInt_mul a b).symm
theorem lZ_toInt {z : Int} (h1 : -2 ^ 63 ≤ z) (h2 : z < 2 ^ 63) : (lZ z).toInt = z := Int64.toInt_ofInt_of_le h1 h2
theorem lZ_rem {z : Int} {m : Nat} (h1 : -2 ^ 62 ≤ z) (h2 : z < 2 ^ 62) (h0 : 0 < m) (hm : m < 2 ^ 31) : lZ z - lZ z / lN m * lN m = lZ (z.tmod m) := by
  have e : lZ z / lN m = lZ (z.tdiv m) := by
    apply Int64.toInt_inj.mp
    have hb : (lN m).toInt = (m : Int) := pk_lT (by omega)
    have hne : lN m ≠ -1 := fun h => by
      have h9 := congrArg Int64.toInt h
      rw [hb] at h9
      have : (-1 : Int64).toInt = -1 := by decide
      omega
    have h3 : (z.tdiv m).natAbs ≤ z.natAbs := Int.natAbs_tdiv_le_natAbs z m
    rw [Int64.toInt_div_of_ne_right _ _ hne, hb, lZ_toInt (by omega) (by omega), lZ_toInt (by omega) (by omega)]
  rw [e, lZ_n m, lZ_mul, lZ_sub, Int.tmod_def, Int.mul_comm]
theorem tmod_emod (u : Int) {m : Nat} (hm : 0 < m) : ((u.tmod m + m).toNat) % m = (u % (m : Int)).toNat ∧ 0 ≤ u.tmod m + m ∧ u.tmod m + m < 2 * m := by
  have h1 : -(m : Int) < u.tmod m := by
    have := Int.lt_tmod_of_pos u (show (0 : Int) < m by omega)
    exact this
  have h2 : u.tmod m < m := Int.tmod_lt_of_pos u (by omega)
  refine ⟨?_, by omega, by omega⟩
  have h3 : (u.tmod m + m) % (m : Int) = u % (m : Int) := by
    rw [Int.tmod_def, show u - (m : Int) * u.tdiv m + m = u + (m : Int) * (1 - u.tdiv m) by rw [Int.mul_sub, Int.mul_one]; omega, Int.add_mul_emod_self_left]
  have h4 : ((u.tmod m + m).toNat : Int) = u.tmod m + m := Int.toNat_of_nonneg (by omega)
  have h5 : 0 ≤ u % (m : Int) := Int.emod_nonneg _ (by omega)
  apply Int.ofNat_inj.mp
  rw [Int.natCast_emod, h4, h3, Int.toNat_of_nonneg h5]
/-- the last step of Euclid's walk is the inverse -/
theorem euc_end {a m r : Nat} {u s1 : Int} (hm : 2 ≤ m) (hr : r < m) (h : a * r % m = 1) (e : (1 : Int) = u * a + s1 * m) : (u % (m : Int)).toNat = r := by
  have h5 : 0 ≤ u % (m : Int) := Int.emod_nonneg _ (by omega)
  have h6 : u % (m : Int) < m := Int.emod_lt_of_pos _ (by omega)
  refine inv_uniq (m := m) (a := a) (by omega) hr ?_ h
  apply Int.ofNat_inj.mp
  rw [Int.natCast_emod, Int.natCast_mul, Int.toNat_of_nonneg h5]
  have e1 : ((a : Int) * (u % (m : Int))) % (m : Int) = ((a : Int) * u) % m := by rw [Int.mul_emod, Int.emod_emod, ← Int.mul_emod]
  rw [e1, show (a : Int) * u = 1 + (m : Int) * (-s1) by rw [Int.mul_neg, Int.mul_comm (m : Int) s1, Int.mul_comm (a : Int) u]; omega, Int.add_mul_emod_self_left]
  exact Int.emod_eq_of_lt (by omega) (by omega)
theorem euc_gcd {a m r : Nat} (hm : 2 ≤ m) (h : a * r % m = 1) : Nat.gcd m a = 1 := by
  have h1 : Nat.gcd m a ∣ a * r % m := (Nat.dvd_mod_iff (Nat.gcd_dvd_left m a)).mpr (Nat.dvd_trans (Nat.gcd_dvd_right m a) (Nat.dvd_mul_right a r))
  rw [h] at h1
  exact Nat.dvd_one.mp h1
theorem euc_bd {x y U V n y' : Nat} {M : Nat} (hx : x = n * y + y') (h : U * y + V * x ≤ M) : V * y' + (U + n * V) * y ≤ M := by
  rw [hx, Nat.mul_add] at h
  have e : V * (n * y) = n * V * y := by rw [← Nat.mul_assoc, Nat.mul_comm V n]
  rw [Nat.add_mul]
  omega
def kI (n : Nat) : Int32 := nI n - 1
theorem kI_s (n : Nat) : kI (n + 1) = nI n := nI_pred n
theorem kI_d (n : Nat) : nI n + Int32.ofInt (-1) = kI n := by
  unfold kI
  rw [Int32.sub_eq_add_neg]
  rfl
set_option maxHeartbeats 4000000 in
set_option maxRecDepth 100000 in
theorem c_M_in (l : Launch) (vv av bv : Int64) : Met l y_M_in (k_M_in :: wall) { frames := 0, cells := 0, slots := 0, locals := 0 } (fun v _ => v = ([.long (vv), .long (av), .long (bv)] : List Value).toArray) (zR (some (.int (bI (av.toInt ≤ vv.toInt ∧ vv.toInt ≤ bv.toInt))))) 0 0 (fun _ => False) := by
  refine Met.ofW (cc := b_M_in) (maxL := 6) (ret := (some .boolean)) (by decide) rfl ?_
  intro p e s m args below meth c s₁ B hml hv
  subst hv
  have hx := B.exec
  have hb := B.bytes
  have hr := B.returns
  have hts := atoms_spec (ws := k_M_in :: wall) B.pre
  have hw : ∀ w ∈ wall, w.before _ s = true := fun w h => hts w (List.mem_cons_of_mem _ h)
  have hown : s.vm.findClass R_M = some m.cls := findClass_of_methodNamed B.named
  have hlocks := B.notSynchronized
  have hl := lv_entry ([.long (vv), .long (av), .long (bv)]) (n := 6) (Nat.le_of_ble_eq_true rfl)
  rw [lg_entry_eq]
  generalize (lg_sl ([.long (vv), .long (av), .long (bv)]) ++ List.replicate (6 - (lg_sl ([.long (vv), .long (av), .long (bv)])).length) Slot.unset).toArray = ls at hl ⊢
  have hl : lv_has ls 6 [(0, .long (vv)), (2, .long (av)), (4, .long (bv))] := hl
  generalize ([.long (vv), .long (av), .long (bv)] : List Value).toArray = args at B hts hw ⊢
  refine lv_lload_n hx hb d_M_in_0 rfl (lv_at hl 0 rfl) ?_
  refine lv_lload_n hx hb d_M_in_1 rfl (lv_at hl 1 rfl) ?_
  refine W.lcmp hx hb d_M_in_2 ?_
  refine lv_if_lt (tgt := 17) hx hb d_M_in_3 (by decide) (fun cc => ?_) (fun cc => ?_)
  · have cc := (lg_cmp_lt _ _).mp (by first | exact cc | exact Classical.not_not.mp cc)
    have cc := llt.mp cc
    rw [bI_f (fun z : av.toInt ≤ vv.toInt ∧ vv.toInt ≤ bv.toInt => by have := z.1; omega)]
    refine lv_iconst (v := nI (0)) hx hb d_M_in_17 (by decide) ?_
    exact W.zret (ty := .boolean) hx hb hr (by decide) (fun t ht _ => ⟨rfl, ht⟩) (fun _ h => nomatch h) d_M_in_18
  · have cc := fun z9 => cc ((lg_cmp_lt _ _).mpr z9)
    have c1 : av.toInt ≤ vv.toInt := Int.not_lt.mp fun z => cc (llt.mpr z)
    refine lv_lload_n hx hb d_M_in_6 rfl (lv_at hl 0 rfl) ?_
    refine lv_lload hx hb d_M_in_7 (lv_at hl 2 rfl) ?_
    refine W.lcmp hx hb d_M_in_9 ?_
    refine lv_if_gt (tgt := 17) hx hb d_M_in_10 (by decide) (fun cc => ?_) (fun cc => ?_)
    · have cc := (lg_cmp_gt _ _).mp (by first | exact cc | exact Classical.not_not.mp cc)
      have cc := llt.mp cc
      rw [bI_f (fun z : av.toInt ≤ vv.toInt ∧ vv.toInt ≤ bv.toInt => by have := z.2; omega)]
      refine lv_iconst (v := nI (0)) hx hb d_M_in_17 (by decide) ?_
      exact W.zret (ty := .boolean) hx hb hr (by decide) (fun t ht _ => ⟨rfl, ht⟩) (fun _ h => nomatch h) d_M_in_18
    · have cc := fun z9 => cc ((lg_cmp_gt _ _).mpr z9)
      have c2 : vv.toInt ≤ bv.toInt := Int.not_lt.mp fun z => cc (llt.mpr z)
      rw [bI_t (show av.toInt ≤ vv.toInt ∧ vv.toInt ≤ bv.toInt from ⟨c1, c2⟩)]
      refine lv_iconst (v := nI (1)) hx hb d_M_in_13 (by decide) ?_
      refine lv_goto (tgt := 18) hx hb d_M_in_14 (by decide) ?_
      exact W.zret (ty := .boolean) hx hb hr (by decide) (fun t ht _ => ⟨rfl, ht⟩) (fun _ h => nomatch h) d_M_in_18
set_option maxHeartbeats 4000000 in
set_option maxRecDepth 100000 in
theorem c_M_isPrime (l : Launch) (nn : Nat) (h2 : nn < 2 ^ 31) : Met l y_M_isPrime (k_M_isPrime :: wall) { frames := 0, cells := 0, slots := 0, locals := 0 } (fun v _ => v = ([.long (lN (nn))] : List Value).toArray) (zR (some (.int (bI (zp nn))))) 0 0 (fun _ => False) := by
  refine Met.ofW (cc := b_M_isPrime) (maxL := 4) (ret := (some .boolean)) (by decide) rfl ?_
  intro p e s m args below meth c s₁ B hml hv
  subst hv
  have hx := B.exec
  have hb := B.bytes
  have hr := B.returns
  have hts := atoms_spec (ws := k_M_isPrime :: wall) B.pre
  have hw : ∀ w ∈ wall, w.before _ s = true := fun w h => hts w (List.mem_cons_of_mem _ h)
  have hown : s.vm.findClass R_M = some m.cls := findClass_of_methodNamed B.named
  have hlocks := B.notSynchronized
  have hl := lv_entry ([.long (lN (nn))]) (n := 4) (Nat.le_of_ble_eq_true rfl)
  rw [lg_entry_eq]
  generalize (lg_sl ([.long (lN (nn))]) ++ List.replicate (4 - (lg_sl ([.long (lN (nn))])).length) Slot.unset).toArray = ls at hl ⊢
  have hl : lv_has ls 4 [(0, .long (lN (nn)))] := hl
  generalize ([.long (lN (nn))] : List Value).toArray = args at B hts hw ⊢
  refine lv_lload_n hx hb d_M_isPrime_0 rfl (lv_at hl 0 rfl) ?_
  refine lv_ldc2 hx hb hown (hw _ kl_M_20) d_M_isPrime_1 ?_
  refine tL (lN (2)) (by decide +kernel) ?_
  refine W.lcmp hx hb d_M_isPrime_4 ?_
  refine lv_if_ge (tgt := 10) hx hb d_M_isPrime_5 (by decide) (fun cc => ?_) (fun cc => ?_)
  · have cc := (lg_cmp_ge _ _).mp (by first | exact cc | exact Classical.not_not.mp cc)
    have cc : 2 ≤ nn := (pk_lLE (by decide) (by omega)).mp cc
    have loop : ∀ (n dd : Nat), nn < dd + n → 2 ≤ dd → dd < 2 ^ 31 → (∀ k, 2 ≤ k → k < dd → nn % k ≠ 0) → ∀ ls : Array Slot, lv_has ls 4 [(0, .long (lN (nn))), (2, .long (lN (dd)))] →
        W p l e (headSpec (k_M_isPrime :: wall) { frames := 0, cells := 0, slots := 0, locals := 0 }).room s m args below meth c s.heap [] 0 0 (MQ below (zR (some (.int (bI (zp nn))))) args s 0 0 (fun _ => False)) (F0 m 14 ls []) := by
      intro n
      induction n with
      | zero =>
        intro dd q1 q2 q4 q5 ls hl
        have hdd : 2 * dd ≤ dd * dd := Nat.mul_le_mul_right dd q2
        have hdb : dd * dd < 2 ^ 62 := mulb (by omega) (by omega)
        refine lv_lload_n hx hb d_M_isPrime_14 rfl (lv_at hl 1 rfl) ?_
        refine lv_lload_n hx hb d_M_isPrime_15 rfl (lv_at hl 1 rfl) ?_
        refine lv_lmul hx hb d_M_isPrime_16 ?_
        refine tL (lN (dd * dd)) (lN_mul _ _) ?_
        refine lv_lload_n hx hb d_M_isPrime_17 rfl (lv_at hl 0 rfl) ?_
        refine W.lcmp hx hb d_M_isPrime_18 ?_
        refine lv_if_gt (tgt := 39) hx hb d_M_isPrime_19 (by decide) (fun _ => ?_) (fun z => absurd ((lg_cmp_gt _ _).mpr ((pk_lLT (by omega) (by omega)).mpr (by omega))) z)
        rw [bI_t (zp_of_lt (d := dd) (by omega) (by omega) q5)]
        refine lv_iconst (v := nI (1)) hx hb d_M_isPrime_39 (by decide) ?_
        exact W.zret (ty := .boolean) hx hb hr (by decide) (fun t ht _ => ⟨rfl, ht⟩) (fun _ h => nomatch h) d_M_isPrime_40
      | succ n ih =>
        intro dd q1 q2 q4 q5 ls hl
        have hdd : 2 * dd ≤ dd * dd := Nat.mul_le_mul_right dd q2
        have hdb : dd * dd < 2 ^ 62 := mulb (by omega) (by omega)
        refine lv_lload_n hx hb d_M_isPrime_14 rfl (lv_at hl 1 rfl) ?_
        refine lv_lload_n hx hb d_M_isPrime_15 rfl (lv_at hl 1 rfl) ?_
        refine lv_lmul hx hb d_M_isPrime_16 ?_
        refine tL (lN (dd * dd)) (lN_mul _ _) ?_
        refine lv_lload_n hx hb d_M_isPrime_17 rfl (lv_at hl 0 rfl) ?_
        refine W.lcmp hx hb d_M_isPrime_18 ?_
        refine lv_if_gt (tgt := 39) hx hb d_M_isPrime_19 (by decide) (fun cc => ?_) (fun cc => ?_)
        · have cc := (lg_cmp_gt _ _).mp (by first | exact cc | exact Classical.not_not.mp cc)
          have cc := (pk_lLT (by omega) (by omega)).mp cc
          rw [bI_t (zp_of_lt (d := dd) (by omega) cc q5)]
          refine lv_iconst (v := nI (1)) hx hb d_M_isPrime_39 (by decide) ?_
          exact W.zret (ty := .boolean) hx hb hr (by decide) (fun t ht _ => ⟨rfl, ht⟩) (fun _ h => nomatch h) d_M_isPrime_40
        · have cc := fun z9 => cc ((lg_cmp_gt _ _).mpr z9)
          have cle : dd * dd ≤ nn := Nat.not_lt.mp fun z => cc ((pk_lLT (by omega) (by omega)).mpr z)
          have hmd : nn % dd < dd := Nat.mod_lt _ (by omega)
          refine lv_lload_n hx hb d_M_isPrime_22 rfl (lv_at hl 0 rfl) ?_
          refine lv_lload_n hx hb d_M_isPrime_23 rfl (lv_at hl 1 rfl) ?_
          refine lv_lrem hx hb d_M_isPrime_24 (by first | decide | exact nI_ne0 (by omega) (by omega) | exact lN_ne0 (by omega) (by omega)) ?_
          refine tL (lN (nn % dd)) (pk_lRem (by omega) (by omega) (by omega)) ?_
          refine lv_lconst (v := lN (0)) hx hb d_M_isPrime_25 (by decide) ?_
          refine W.lcmp hx hb d_M_isPrime_26 ?_
          refine lv_if_ne (tgt := 32) hx hb d_M_isPrime_27 (by decide) (fun cc => ?_) (fun cc => ?_)
          · have cc := fun z9 => cc ((lg_cmp_eq _ _).mpr z9)
            have na : nn % dd ≠ 0 := fun z => cc (by rw [z])
            refine lv_lload_n hx hb d_M_isPrime_32 rfl (lv_at hl 1 rfl) ?_
            refine lv_lconst (v := lN (1)) hx hb d_M_isPrime_33 (by decide) ?_
            refine lv_ladd hx hb d_M_isPrime_34 ?_
            refine tL (lN (dd + 1)) (lN_add _ _) ?_
            refine lv_lstore_n (lv' := [(2, .long (lN (dd + 1))), (0, .long (lN (nn)))]) hx hb d_M_isPrime_35 rfl hl (by decide) rfl (fun ls hl => ?_)
            refine lv_goto (tgt := 14) hx hb d_M_isPrime_36 (by decide) ?_
            exact ih (dd + 1) (by omega) (by omega) (by omega) (fun k k1 k2 => by
              rcases Nat.lt_or_ge k dd with h | h
              · exact q5 k k1 h
              · rw [show k = dd by omega]; exact na) ls (lv_sub hl [1, 0] rfl)
          · have cc := (lg_cmp_eq _ _).mp (by first | exact cc | exact Classical.not_not.mp cc)
            have cc : nn % dd = 0 := (pk_lEQ (by omega) (by decide)).mp cc
            rw [bI_f (fun z : zp nn => z.2 dd (by omega) cle cc)]
            refine lv_iconst (v := nI (0)) hx hb d_M_isPrime_30 (by decide) ?_
            exact W.zret (ty := .boolean) hx hb hr (by decide) (fun t ht _ => ⟨rfl, ht⟩) (fun _ h => nomatch h) d_M_isPrime_31
    refine lv_ldc2 hx hb hown (hw _ kl_M_20) d_M_isPrime_10 ?_
    refine tL (lN (2)) (by decide +kernel) ?_
    refine lv_lstore_n (lv' := [(2, .long (lN (2))), (0, .long (lN (nn)))]) hx hb d_M_isPrime_13 rfl hl (by decide) rfl (fun ls hl => ?_)
    exact loop nn 2 (by omega) (by omega) (by omega) (fun k k1 k2 => by omega) ls (lv_sub hl [1, 0] rfl)
  · have cc := fun z9 => cc ((lg_cmp_ge _ _).mpr z9)
    have cc : ¬ 2 ≤ nn := fun z => cc ((pk_lLE (by decide) (by omega)).mpr z)
    rw [bI_f (fun z : zp nn => cc z.1)]
    refine lv_iconst (v := nI (0)) hx hb d_M_isPrime_8 (by decide) ?_
    exact W.zret (ty := .boolean) hx hb hr (by decide) (fun t ht _ => ⟨rfl, ht⟩) (fun _ h => nomatch h) d_M_isPrime_9
set_option maxHeartbeats 4000000 in
set_option maxRecDepth 100000 in
theorem c_M_power_JJJ (l : Launch) (bs ex md : Nat) (h1 : bs < 2 ^ 31) (h2 : ex < 2 ^ 63) (h3 : 2 ≤ md) (h4 : md < 2 ^ 31) : Met l y_M_power_JJJ (k_M_power_JJJ :: wall) { frames := 0, cells := 0, slots := 0, locals := 0 } (fun v _ => v = ([.long (lN (bs)), .long (lN (ex)), .long (lN (md))] : List Value).toArray) (zR (some (.long (lN (bs ^ ex % md))))) 0 0 (fun _ => False) := by
  refine Met.ofW (cc := b_M_power_JJJ) (maxL := 9) (ret := (some .long)) (by decide) rfl ?_
  intro p e s m args below meth c s₁ B hml hv
  subst hv
  have hx := B.exec
  have hb := B.bytes
  have hr := B.returns
  have hts := atoms_spec (ws := k_M_power_JJJ :: wall) B.pre
  have hw : ∀ w ∈ wall, w.before _ s = true := fun w h => hts w (List.mem_cons_of_mem _ h)
  have hown : s.vm.findClass R_M = some m.cls := findClass_of_methodNamed B.named
  have hlocks := B.notSynchronized
  have hl := lv_entry ([.long (lN (bs)), .long (lN (ex)), .long (lN (md))]) (n := 9) (Nat.le_of_ble_eq_true rfl)
  rw [lg_entry_eq]
  generalize (lg_sl ([.long (lN (bs)), .long (lN (ex)), .long (lN (md))]) ++ List.replicate (9 - (lg_sl ([.long (lN (bs)), .long (lN (ex)), .long (lN (md))])).length) Slot.unset).toArray = ls at hl ⊢
  have hl : lv_has ls 9 [(0, .long (lN (bs))), (2, .long (lN (ex))), (4, .long (lN (md)))] := hl
  generalize ([.long (lN (bs)), .long (lN (ex)), .long (lN (md))] : List Value).toArray = args at B hts hw ⊢
  have loop : ∀ (n : Nat), n ≤ 63 → ∀ ls : Array Slot, lv_has ls 9 [(0, .long (lN (bs))), (2, .long (lN (ex))), (4, .long (lN (md))), (6, .long (lN (bs ^ (ex / 2 ^ (n)) % md))), (8, .int (kI (n)))] →
      W p l e (headSpec (k_M_power_JJJ :: wall) { frames := 0, cells := 0, slots := 0, locals := 0 }).room s m args below meth c s.heap [] 0 0 (MQ below (zR (some (.long (lN (bs ^ ex % md))))) args s 0 0 (fun _ => False)) (F0 m 7 ls []) := by
    intro n
    induction n with
    | zero =>
      intro q1 ls hl
      refine lv_iload hx hb d_M_power_JJJ_7 (lv_at hl 4 rfl) ?_
      refine lv_if_lt (tgt := 48) hx hb d_M_power_JJJ_9 (by decide) (fun _ => ?_) (fun z => absurd (by decide) z)
      refine lv_lload hx hb d_M_power_JJJ_48 (lv_at hl 3 rfl) ?_
      exact W.lret hx hb hr (fun t ht _ => ⟨by rw [Nat.pow_zero, Nat.div_one], ht⟩) (fun _ h => nomatch h) d_M_power_JJJ_50
    | succ n ih =>
      intro q1 ls hl
      rw [kI_s] at hl
      have hph := pw_high (a := bs) (e := ex) (m := md) (k := n)
      have hlt : ∀ z, z % md < md := fun z => Nat.mod_lt _ (by omega)
      have hA := hlt (bs ^ (ex / 2 ^ (n + 1)))
      generalize bs ^ (ex / 2 ^ (n + 1)) % md = rr at hl hph hA
      have hrr : rr * rr < 2 ^ 62 := mulb (by omega) (by omega)
      have hB := hlt (rr * rr)
      have hrb : rr * rr % md * bs < 2 ^ 62 := mulb (by omega) h1
      have hsh : ex / 2 ^ n ≤ ex := Nat.div_le_self _ _
      refine lv_iload hx hb d_M_power_JJJ_7 (lv_at hl 4 rfl) ?_
      refine lv_if_lt (tgt := 48) hx hb d_M_power_JJJ_9 (by decide) (fun z => absurd z (nI_pos (by omega))) (fun _ => ?_)
      refine lv_lload hx hb d_M_power_JJJ_12 (lv_at hl 3 rfl) ?_
      refine lv_lload hx hb d_M_power_JJJ_14 (lv_at hl 3 rfl) ?_
      refine lv_lmul hx hb d_M_power_JJJ_16 ?_
      refine tL (lN (rr * rr)) (lN_mul _ _) ?_
      refine lv_lload hx hb d_M_power_JJJ_17 (lv_at hl 2 rfl) ?_
      refine lv_lrem hx hb d_M_power_JJJ_19 (by first | decide | exact nI_ne0 (by omega) (by omega) | exact lN_ne0 (by omega) (by omega)) ?_
      refine tL (lN ((rr * rr) % md)) (pk_lRem (by omega) (by omega) (by omega)) ?_
      refine lv_lstore (lv' := [(6, .long (lN ((rr * rr) % md))), (0, .long (lN (bs))), (2, .long (lN (ex))), (4, .long (lN (md))), (8, .int (nI (n)))]) hx hb d_M_power_JJJ_20 hl (by decide) rfl (fun ls hl => ?_)
      refine lv_lload_n hx hb d_M_power_JJJ_22 rfl (lv_at hl 2 rfl) ?_
      refine lv_iload hx hb d_M_power_JJJ_23 (lv_at hl 4 rfl) ?_
      refine lv_lshr (v := lN (ex / 2 ^ n)) hx hb d_M_power_JJJ_25 (zs_shr (by omega) h2) ?_
      refine lv_lconst (v := lN (1)) hx hb d_M_power_JJJ_26 (by decide) ?_
      refine lv_land hx hb d_M_power_JJJ_27 ?_
      refine tL (lN (ex / 2 ^ n % 2)) (zs_and (by omega)) ?_
      refine lv_lconst (v := lN (1)) hx hb d_M_power_JJJ_28 (by decide) ?_
      refine W.lcmp hx hb d_M_power_JJJ_29 ?_
      refine lv_if_ne (tgt := 42) hx hb d_M_power_JJJ_30 (by decide) (fun cc => ?_) (fun cc => ?_)
      · have cc := fun z9 => cc ((lg_cmp_eq _ _).mpr z9)
        have hev : ¬ ex / 2 ^ n % 2 = 1 := fun z => cc (by rw [z])
        refine lv_iinc (v := kI (n)) (lv' := [(8, .int (kI (n))), (6, .long (lN ((rr * rr) % md))), (0, .long (lN (bs))), (2, .long (lN (ex))), (4, .long (lN (md)))]) hx hb d_M_power_JJJ_42 hl (k := 4) rfl (kI_d n) (by decide) rfl (fun ls hl => ?_)
        refine lv_goto (tgt := 7) hx hb d_M_power_JJJ_45 (by decide) ?_
        rw [if_neg hev] at hph
        rw [← hph] at hl
        exact ih (by omega) ls (lv_sub hl [2, 3, 4, 1, 0] rfl)
      · have cc := (lg_cmp_eq _ _).mp (by first | exact cc | exact Classical.not_not.mp cc)
        have hod : ex / 2 ^ n % 2 = 1 := (pk_lEQ (by omega) (by decide)).mp cc
        refine lv_lload hx hb d_M_power_JJJ_33 (lv_at hl 0 rfl) ?_
        refine lv_lload_n hx hb d_M_power_JJJ_35 rfl (lv_at hl 1 rfl) ?_
        refine lv_lmul hx hb d_M_power_JJJ_36 ?_
        refine tL (lN (rr * rr % md * bs)) (lN_mul _ _) ?_
        refine lv_lload hx hb d_M_power_JJJ_37 (lv_at hl 3 rfl) ?_
        refine lv_lrem hx hb d_M_power_JJJ_39 (by first | decide | exact nI_ne0 (by omega) (by omega) | exact lN_ne0 (by omega) (by omega)) ?_
        refine tL (lN ((rr * rr % md * bs) % md)) (pk_lRem (by omega) (by omega) (by omega)) ?_
        refine lv_lstore (lv' := [(6, .long (lN ((rr * rr % md * bs) % md))), (0, .long (lN (bs))), (2, .long (lN (ex))), (4, .long (lN (md))), (8, .int (nI (n)))]) hx hb d_M_power_JJJ_40 hl (by decide) rfl (fun ls hl => ?_)
        refine lv_iinc (v := kI (n)) (lv' := [(8, .int (kI (n))), (6, .long (lN ((rr * rr % md * bs) % md))), (0, .long (lN (bs))), (2, .long (lN (ex))), (4, .long (lN (md)))]) hx hb d_M_power_JJJ_42 hl (k := 4) rfl (kI_d n) (by decide) rfl (fun ls hl => ?_)
        refine lv_goto (tgt := 7) hx hb d_M_power_JJJ_45 (by decide) ?_
        rw [if_pos hod] at hph
        rw [← hph] at hl
        exact ih (by omega) ls (lv_sub hl [2, 3, 4, 1, 0] rfl)
  refine lv_lconst (v := lN (1)) hx hb d_M_power_JJJ_0 (by decide) ?_
  refine lv_lstore (lv' := [(6, .long (lN (1))), (0, .long (lN (bs))), (2, .long (lN (ex))), (4, .long (lN (md)))]) hx hb d_M_power_JJJ_1 hl (by decide) rfl (fun ls hl => ?_)
  refine lv_bipush (v := nI (62)) hx hb d_M_power_JJJ_3 (by decide) ?_
  refine lv_istore (lv' := [(8, .int (nI (62))), (6, .long (lN (1))), (0, .long (lN (bs))), (2, .long (lN (ex))), (4, .long (lN (md)))]) hx hb d_M_power_JJJ_5 hl (by decide) rfl (fun ls hl => ?_)
  have hl : lv_has ls 9 [(0, .long (lN (bs))), (2, .long (lN (ex))), (4, .long (lN (md))), (6, .long (lN (bs ^ (ex / 2 ^ (63)) % md))), (8, .int (kI (63)))] := by
    rw [Nat.div_eq_of_lt (by omega), Nat.pow_zero, Nat.mod_eq_of_lt (show 1 < md by omega)]
    exact lv_sub hl [2, 3, 4, 1, 0] rfl
  exact loop 63 (Nat.le_refl _) ls hl
set_option maxHeartbeats 4000000 in
set_option maxRecDepth 100000 in
theorem c_M_isMember (l : Launch) (yv : Int64) (pp qq : Nat) (h1 : 2 ≤ pp) (h2 : pp < 2 ^ 31) (h3 : qq < 2 ^ 63) : Met l y_M_isMember (k_M_isMember :: wall) { frames := 1, cells := 0, slots := 0, locals := 28 } (fun v _ => v = ([.long (yv), .long (lN (pp)), .long (lN (qq))] : List Value).toArray) (zR (some (.int (bI (mem yv.toInt pp qq))))) 0 0 (fun _ => False) := by
  refine Met.ofW (cc := b_M_isMember) (maxL := 6) (ret := (some .boolean)) (by decide) rfl ?_
  intro p e s m args below meth c s₁ B hml hv
  subst hv
  have hx := B.exec
  have hb := B.bytes
  have hr := B.returns
  have hts := atoms_spec (ws := k_M_isMember :: wall) B.pre
  have hw : ∀ w ∈ wall, w.before _ s = true := fun w h => hts w (List.mem_cons_of_mem _ h)
  have hown : s.vm.findClass R_M = some m.cls := findClass_of_methodNamed B.named
  have hlocks := B.notSynchronized
  have hl := lv_entry ([.long (yv), .long (lN (pp)), .long (lN (qq))]) (n := 6) (Nat.le_of_ble_eq_true rfl)
  rw [lg_entry_eq]
  generalize (lg_sl ([.long (yv), .long (lN (pp)), .long (lN (qq))]) ++ List.replicate (6 - (lg_sl ([.long (yv), .long (lN (pp)), .long (lN (qq))])).length) Slot.unset).toArray = ls at hl ⊢
  have hl : lv_has ls 6 [(0, .long (yv)), (2, .long (lN (pp))), (4, .long (lN (qq)))] := hl
  generalize ([.long (yv), .long (lN (pp)), .long (lN (qq))] : List Value).toArray = args at B hts hw ⊢
  refine lv_lload_n hx hb d_M_isMember_0 rfl (lv_at hl 0 rfl) ?_
  refine lv_lconst (v := lN (1)) hx hb d_M_isMember_1 (by decide) ?_
  refine lv_lload_n hx hb d_M_isMember_2 rfl (lv_at hl 1 rfl) ?_
  refine lv_lconst (v := lN (1)) hx hb d_M_isMember_3 (by decide) ?_
  refine lv_lsub hx hb d_M_isMember_4 ?_
  refine tL (lN (pp - 1)) (lN_sub (by omega)) ?_
  refine zS (As := [.long (yv), .long (lN (1)), .long (lN (pp - 1))]) (rest := []) ⟨hx, hb, hml, hown, hw⟩ (c_M_in l yv (lN (1)) (lN (pp - 1))) g_M_29 rfl rfl pd_M_in ⟨Nat.le_of_ble_eq_true rfl, Nat.le_of_ble_eq_true rfl⟩ hl.1 rfl (Nat.le_of_ble_eq_true rfl) d_M_isMember_5 ⟨Nat.zero_le _, Nat.zero_le _⟩ ?_
  refine W.eq (g2 := F0 m 8 ls [.int (bI ((lN (1)).toInt ≤ yv.toInt ∧ yv.toInt ≤ (lN (pp - 1)).toInt))]) rfl ?_
  rw [pk_lT (show 1 < 2 ^ 63 by decide), pk_lT (show pp - 1 < 2 ^ 63 by omega)]
  by_cases hin : ((1 : Nat) : Int) ≤ yv.toInt ∧ yv.toInt ≤ ((pp - 1 : Nat) : Int)
  · refine tI (1) (bI_t hin) ?_
    refine lv_if_eq (tgt := 27) hx hb d_M_isMember_8 (by decide) (fun z => absurd z (by decide)) (fun _ => ?_)
    obtain ⟨jj, j1, rfl⟩ := pk_lOf (x := yv) (fun z => by have := llt.mp z; rw [l0] at this; omega)
    rw [pk_lT j1] at hin ⊢
    have hj : jj < pp := by omega
    have hpw : jj ^ qq % pp < pp := Nat.mod_lt _ (by omega)
    refine lv_lload_n hx hb d_M_isMember_11 rfl (lv_at hl 0 rfl) ?_
    refine lv_lload hx hb d_M_isMember_12 (lv_at hl 2 rfl) ?_
    refine lv_lload_n hx hb d_M_isMember_14 rfl (lv_at hl 1 rfl) ?_
    refine zS (As := [.long (lN (jj)), .long (lN (qq)), .long (lN (pp))]) (rest := []) ⟨hx, hb, hml, hown, hw⟩ (c_M_power_JJJ l jj qq pp (by omega) h3 h1 h2) g_M_33 rfl rfl pd_M_power_JJJ ⟨Nat.le_of_ble_eq_true rfl, Nat.le_of_ble_eq_true rfl⟩ hl.1 rfl (Nat.le_of_ble_eq_true rfl) d_M_isMember_15 ⟨Nat.zero_le _, Nat.zero_le _⟩ ?_
    refine W.eq (g2 := F0 m 18 ls [.long (lN (jj ^ qq % pp))]) rfl ?_
    refine lv_lconst (v := lN (1)) hx hb d_M_isMember_18 (by decide) ?_
    refine W.lcmp hx hb d_M_isMember_19 ?_
    refine lv_if_ne (tgt := 27) hx hb d_M_isMember_20 (by decide) (fun cc => ?_) (fun cc => ?_)
    · have cc := fun z9 => cc ((lg_cmp_eq _ _).mpr z9)
      rw [bI_f (fun z : mem (jj : Int) pp qq => cc (congrArg lN z.2.2))]
      refine lv_iconst (v := nI (0)) hx hb d_M_isMember_27 (by decide) ?_
      exact W.zret (ty := .boolean) hx hb hr (by decide) (fun t ht _ => ⟨rfl, ht⟩) (fun _ h => nomatch h) d_M_isMember_28
    · have cc := (lg_cmp_eq _ _).mp (by first | exact cc | exact Classical.not_not.mp cc)
      have cc := (pk_lEQ (by omega) (by decide)).mp cc
      rw [bI_t (show mem (jj : Int) pp qq from ⟨by omega, by omega, cc⟩)]
      refine lv_iconst (v := nI (1)) hx hb d_M_isMember_23 (by decide) ?_
      refine lv_goto (tgt := 28) hx hb d_M_isMember_24 (by decide) ?_
      exact W.zret (ty := .boolean) hx hb hr (by decide) (fun t ht _ => ⟨rfl, ht⟩) (fun _ h => nomatch h) d_M_isMember_28
  · refine tI (0) (bI_f hin) ?_
    refine lv_if_eq (tgt := 27) hx hb d_M_isMember_8 (by decide) (fun _ => ?_) (fun z => absurd (rfl) z)
    rw [bI_f (fun z : mem yv.toInt pp qq => hin ⟨z.1, by have := z.2.1; omega⟩)]
    refine lv_iconst (v := nI (0)) hx hb d_M_isMember_27 (by decide) ?_
    exact W.zret (ty := .boolean) hx hb hr (by decide) (fun t ht _ => ⟨rfl, ht⟩) (fun _ h => nomatch h) d_M_isMember_28
set_option maxHeartbeats 4000000 in
set_option maxRecDepth 100000 in
theorem c_M_inverse_JJ (l : Launch) (aa md rr : Nat) (h1 : aa < md) (h3 : 2 ≤ md) (h4 : md < 2 ^ 31) (h5 : rr < md) (h6 : aa * rr % md = 1) : Met l y_M_inverse_JJ (k_M_inverse_JJ :: wall) { frames := 0, cells := 0, slots := 0, locals := 0 } (fun v _ => v = ([.long (lN (aa)), .long (lN (md))] : List Value).toArray) (zR (some (.long (lN (rr))))) 0 0 (fun _ => False) := by
  refine Met.ofW (cc := b_M_inverse_JJ) (maxL := 16) (ret := (some .long)) (by decide) rfl ?_
  intro p e s m args below meth c s₁ B hml hv
  subst hv
  have hx := B.exec
  have hb := B.bytes
  have hr := B.returns
  have hts := atoms_spec (ws := k_M_inverse_JJ :: wall) B.pre
  have hw : ∀ w ∈ wall, w.before _ s = true := fun w h => hts w (List.mem_cons_of_mem _ h)
  have hown : s.vm.findClass R_M = some m.cls := findClass_of_methodNamed B.named
  have hlocks := B.notSynchronized
  have hl := lv_entry ([.long (lN (aa)), .long (lN (md))]) (n := 16) (Nat.le_of_ble_eq_true rfl)
  rw [lg_entry_eq]
  generalize (lg_sl ([.long (lN (aa)), .long (lN (md))]) ++ List.replicate (16 - (lg_sl ([.long (lN (aa)), .long (lN (md))])).length) Slot.unset).toArray = ls at hl ⊢
  have hl : lv_has ls 16 [(0, .long (lN (aa))), (2, .long (lN (md)))] := hl
  generalize ([.long (lN (aa)), .long (lN (md))] : List Value).toArray = args at B hts hw ⊢
  have loop : ∀ (n xx yy : Nat) (uu vv : Int), yy ≤ n → 1 ≤ xx → xx < 2 ^ 31 → yy < 2 ^ 31 → Nat.gcd xx yy = 1 → (∃ t : Int, (xx : Int) = uu * aa + t * md) → (∃ t : Int, (yy : Int) = vv * aa + t * md) → uu.natAbs * yy + vv.natAbs * xx ≤ md → uu.natAbs ≤ md → ∀ ls : Array Slot, lv_has ls 16 [(0, .long (lN (aa))), (2, .long (lN (md))), (4, .long (lN (xx))), (6, .long (lN (yy))), (8, .long (lZ (uu))), (10, .long (lZ (vv)))] →
      W p l e (headSpec (k_M_inverse_JJ :: wall) { frames := 0, cells := 0, slots := 0, locals := 0 }).room s m args below meth c s.heap [] 0 0 (MQ below (zR (some (.long (lN (rr))))) args s 0 0 (fun _ => False)) (F0 m 12 ls []) := by
    intro n
    induction n with
    | zero =>
      intro xx yy uu vv q1 q2 q3 q4 q5 q6 q7 q8 q9 ls hl
      obtain rfl : yy = 0 := by omega
      obtain ⟨t, ht⟩ := q6
      rw [Nat.gcd_zero_right] at q5
      subst q5
      have hend := euc_end h3 h5 h6 ht
      obtain ⟨g1, g2, g3⟩ := tmod_emod uu (show 0 < md by omega)
      refine lv_lload hx hb d_M_inverse_JJ_12 (lv_at hl 3 rfl) ?_
      refine lv_lconst (v := lN (0)) hx hb d_M_inverse_JJ_14 (by decide) ?_
      refine W.lcmp hx hb d_M_inverse_JJ_15 ?_
      refine lv_if_eq (tgt := 65) hx hb d_M_inverse_JJ_16 (by decide) (fun _ => ?_) (fun z => absurd ((lg_cmp_eq _ _).mpr (rfl)) z)
      refine lv_lload hx hb d_M_inverse_JJ_65 (lv_at hl 4 rfl) ?_
      refine lv_lload_n hx hb d_M_inverse_JJ_67 rfl (lv_at hl 1 rfl) ?_
      refine lv_lrem hx hb d_M_inverse_JJ_68 (lN_ne0 (by omega) (by omega)) ?_
      refine tL (lZ (uu.tmod md)) (lZ_rem (by omega) (by omega) (by omega) h4) ?_
      refine lv_lload_n hx hb d_M_inverse_JJ_69 rfl (lv_at hl 1 rfl) ?_
      refine lv_ladd hx hb d_M_inverse_JJ_70 ?_
      refine tL (lN ((uu.tmod md + md).toNat)) (by rw [lZ_n, lZ_n, lZ_add, Int.toNat_of_nonneg g2]) ?_
      refine lv_lload_n hx hb d_M_inverse_JJ_71 rfl (lv_at hl 1 rfl) ?_
      refine lv_lrem hx hb d_M_inverse_JJ_72 (lN_ne0 (by omega) (by omega)) ?_
      refine tL (lN (rr)) (by rw [pk_lRem (by omega) (by omega) (by omega), g1, hend]) ?_
      exact W.lret hx hb hr (fun t ht _ => ⟨rfl, ht⟩) (fun _ h => nomatch h) d_M_inverse_JJ_73
    | succ n ih =>
      intro xx yy uu vv q1 q2 q3 q4 q5 q6 q7 q8 q9 ls hl
      refine lv_lload hx hb d_M_inverse_JJ_12 (lv_at hl 3 rfl) ?_
      refine lv_lconst (v := lN (0)) hx hb d_M_inverse_JJ_14 (by decide) ?_
      refine W.lcmp hx hb d_M_inverse_JJ_15 ?_
      refine lv_if_eq (tgt := 65) hx hb d_M_inverse_JJ_16 (by decide) (fun cc => ?_) (fun cc => ?_)
      · have cc := (lg_cmp_eq _ _).mp (by first | exact cc | exact Classical.not_not.mp cc)
        have cc := (pk_lEQ (by omega) (by decide)).mp cc
        subst cc
        obtain ⟨t, ht⟩ := q6
        rw [Nat.gcd_zero_right] at q5
        subst q5
        have hend := euc_end h3 h5 h6 ht
        obtain ⟨g1, g2, g3⟩ := tmod_emod uu (show 0 < md by omega)
        refine lv_lload hx hb d_M_inverse_JJ_65 (lv_at hl 4 rfl) ?_
        refine lv_lload_n hx hb d_M_inverse_JJ_67 rfl (lv_at hl 1 rfl) ?_
        refine lv_lrem hx hb d_M_inverse_JJ_68 (lN_ne0 (by omega) (by omega)) ?_
        refine tL (lZ (uu.tmod md)) (lZ_rem (by omega) (by omega) (by omega) h4) ?_
        refine lv_lload_n hx hb d_M_inverse_JJ_69 rfl (lv_at hl 1 rfl) ?_
        refine lv_ladd hx hb d_M_inverse_JJ_70 ?_
        refine tL (lN ((uu.tmod md + md).toNat)) (by rw [lZ_n, lZ_n, lZ_add, Int.toNat_of_nonneg g2]) ?_
        refine lv_lload_n hx hb d_M_inverse_JJ_71 rfl (lv_at hl 1 rfl) ?_
        refine lv_lrem hx hb d_M_inverse_JJ_72 (lN_ne0 (by omega) (by omega)) ?_
        refine tL (lN (rr)) (by rw [pk_lRem (by omega) (by omega) (by omega), g1, hend]) ?_
        exact W.lret hx hb hr (fun t ht _ => ⟨rfl, ht⟩) (fun _ h => nomatch h) d_M_inverse_JJ_73
      · have cc := fun z9 => cc ((lg_cmp_eq _ _).mpr z9)
        have hy0 : yy ≠ 0 := fun z => cc (by rw [z])
        have hdm : yy * (xx / yy) + xx % yy = xx := Nat.div_add_mod xx yy
        have hmy : xx % yy < yy := Nat.mod_lt _ (by omega)
        have hqy : xx / yy * yy ≤ xx := Nat.div_mul_le_self xx yy
        have hbd := euc_bd (x := xx) (y := yy) (U := uu.natAbs) (V := vv.natAbs) (n := xx / yy) (y' := xx % yy) (by rw [Nat.mul_comm]; exact hdm.symm) q8
        have hvx : vv.natAbs * 1 ≤ vv.natAbs * xx := Nat.mul_le_mul_left _ q2
        have hab : (uu - ((xx / yy : Nat) : Int) * vv).natAbs ≤ uu.natAbs + xx / yy * vv.natAbs := by
          have := Int.natAbs_sub_le uu (((xx / yy : Nat) : Int) * vv)
          rw [Int.natAbs_mul, Int.natAbs_natCast] at this
          exact this
        refine lv_lload hx hb d_M_inverse_JJ_19 (lv_at hl 2 rfl) ?_
        refine lv_lload hx hb d_M_inverse_JJ_21 (lv_at hl 3 rfl) ?_
        refine lv_ldiv hx hb d_M_inverse_JJ_23 (by first | decide | exact nI_ne0 (by omega) (by omega) | exact lN_ne0 (by omega) (by omega)) ?_
        refine tL (lN (xx / yy)) (pk_lDiv (by omega) (by omega) (by omega)) ?_
        refine lv_lstore (lv' := [(12, .long (lN (xx / yy))), (0, .long (lN (aa))), (2, .long (lN (md))), (4, .long (lN (xx))), (6, .long (lN (yy))), (8, .long (lZ (uu))), (10, .long (lZ (vv)))]) hx hb d_M_inverse_JJ_24 hl (by decide) rfl (fun ls hl => ?_)
        refine lv_lload hx hb d_M_inverse_JJ_26 (lv_at hl 3 rfl) ?_
        refine lv_lload hx hb d_M_inverse_JJ_28 (lv_at hl 0 rfl) ?_
        refine lv_lload hx hb d_M_inverse_JJ_30 (lv_at hl 4 rfl) ?_
        refine lv_lmul hx hb d_M_inverse_JJ_32 ?_
        refine tL (lN (xx / yy * yy)) (lN_mul _ _) ?_
        refine lv_lsub hx hb d_M_inverse_JJ_33 ?_
        refine tL (lN (xx % yy)) (by rw [lN_sub hqy, show xx - xx / yy * yy = xx % yy by rw [Nat.mul_comm] at hdm; omega]) ?_
        refine lv_lstore (lv' := [(14, .long (lN (xx % yy))), (12, .long (lN (xx / yy))), (0, .long (lN (aa))), (2, .long (lN (md))), (4, .long (lN (xx))), (6, .long (lN (yy))), (8, .long (lZ (uu))), (10, .long (lZ (vv)))]) hx hb d_M_inverse_JJ_34 hl (by decide) rfl (fun ls hl => ?_)
        refine lv_lload hx hb d_M_inverse_JJ_36 (lv_at hl 5 rfl) ?_
        refine lv_lstore (lv' := [(4, .long (lN (yy))), (14, .long (lN (xx % yy))), (12, .long (lN (xx / yy))), (0, .long (lN (aa))), (2, .long (lN (md))), (6, .long (lN (yy))), (8, .long (lZ (uu))), (10, .long (lZ (vv)))]) hx hb d_M_inverse_JJ_38 hl (by decide) rfl (fun ls hl => ?_)
        refine lv_lload hx hb d_M_inverse_JJ_40 (lv_at hl 1 rfl) ?_
        refine lv_lstore (lv' := [(6, .long (lN (xx % yy))), (4, .long (lN (yy))), (14, .long (lN (xx % yy))), (12, .long (lN (xx / yy))), (0, .long (lN (aa))), (2, .long (lN (md))), (8, .long (lZ (uu))), (10, .long (lZ (vv)))]) hx hb d_M_inverse_JJ_42 hl (by decide) rfl (fun ls hl => ?_)
        refine lv_lload hx hb d_M_inverse_JJ_44 (lv_at hl 6 rfl) ?_
        refine lv_lload hx hb d_M_inverse_JJ_46 (lv_at hl 3 rfl) ?_
        refine lv_lload hx hb d_M_inverse_JJ_48 (lv_at hl 7 rfl) ?_
        refine lv_lmul hx hb d_M_inverse_JJ_50 ?_
        refine tL (lZ (((xx / yy : Nat) : Int) * vv)) (by rw [lZ_n, lZ_mul]) ?_
        refine lv_lsub hx hb d_M_inverse_JJ_51 ?_
        refine tL (lZ (uu - ((xx / yy : Nat) : Int) * vv)) (lZ_sub _ _) ?_
        refine lv_lstore (lv' := [(14, .long (lZ (uu - ((xx / yy : Nat) : Int) * vv))), (6, .long (lN (xx % yy))), (4, .long (lN (yy))), (12, .long (lN (xx / yy))), (0, .long (lN (aa))), (2, .long (lN (md))), (8, .long (lZ (uu))), (10, .long (lZ (vv)))]) hx hb d_M_inverse_JJ_52 hl (by decide) rfl (fun ls hl => ?_)
        refine lv_lload hx hb d_M_inverse_JJ_54 (lv_at hl 7 rfl) ?_
        refine lv_lstore (lv' := [(8, .long (lZ (vv))), (14, .long (lZ (uu - ((xx / yy : Nat) : Int) * vv))), (6, .long (lN (xx % yy))), (4, .long (lN (yy))), (12, .long (lN (xx / yy))), (0, .long (lN (aa))), (2, .long (lN (md))), (10, .long (lZ (vv)))]) hx hb d_M_inverse_JJ_56 hl (by decide) rfl (fun ls hl => ?_)
        refine lv_lload hx hb d_M_inverse_JJ_58 (lv_at hl 1 rfl) ?_
        refine lv_lstore (lv' := [(10, .long (lZ (uu - ((xx / yy : Nat) : Int) * vv))), (8, .long (lZ (vv))), (14, .long (lZ (uu - ((xx / yy : Nat) : Int) * vv))), (6, .long (lN (xx % yy))), (4, .long (lN (yy))), (12, .long (lN (xx / yy))), (0, .long (lN (aa))), (2, .long (lN (md)))]) hx hb d_M_inverse_JJ_60 hl (by decide) rfl (fun ls hl => ?_)
        refine lv_goto (tgt := 12) hx hb d_M_inverse_JJ_62 (by decide) ?_
        obtain ⟨t1, ht1⟩ := q6
        obtain ⟨t2, ht2⟩ := q7
        refine ih yy (xx % yy) vv (uu - ((xx / yy : Nat) : Int) * vv) (by omega) (by omega) q4 (by omega) ?_ ⟨t2, ht2⟩ ⟨t1 - ((xx / yy : Nat) : Int) * t2, ?_⟩ ?_ (by omega) ls (lv_sub hl [6, 7, 4, 3, 1, 0] rfl)
        · rw [Nat.gcd_comm, ← Nat.gcd_rec, Nat.gcd_comm]; exact q5
        · have e1 : ((xx % yy : Nat) : Int) = (xx : Int) - ((xx / yy : Nat) : Int) * (yy : Int) := by
            have : (xx : Int) = ((yy * (xx / yy) + xx % yy : Nat) : Int) := by rw [hdm]
            rw [Int.natCast_add, Int.natCast_mul, Int.mul_comm] at this
            omega
          rw [e1, ht1, ht2, Int.sub_mul, Int.sub_mul, Int.mul_add, Int.mul_assoc, Int.mul_assoc]
          omega
        · exact Nat.le_trans (Nat.add_le_add_left (Nat.mul_le_mul_right yy hab) _) hbd
  refine lv_lload_n hx hb d_M_inverse_JJ_0 rfl (lv_at hl 1 rfl) ?_
  refine lv_lstore (lv' := [(4, .long (lN (md))), (0, .long (lN (aa))), (2, .long (lN (md)))]) hx hb d_M_inverse_JJ_1 hl (by decide) rfl (fun ls hl => ?_)
  refine lv_lload_n hx hb d_M_inverse_JJ_3 rfl (lv_at hl 1 rfl) ?_
  refine lv_lstore (lv' := [(6, .long (lN (aa))), (4, .long (lN (md))), (0, .long (lN (aa))), (2, .long (lN (md)))]) hx hb d_M_inverse_JJ_4 hl (by decide) rfl (fun ls hl => ?_)
  refine lv_lconst (v := lN (0)) hx hb d_M_inverse_JJ_6 (by decide) ?_
  refine lv_lstore (lv' := [(8, .long (lN (0))), (6, .long (lN (aa))), (4, .long (lN (md))), (0, .long (lN (aa))), (2, .long (lN (md)))]) hx hb d_M_inverse_JJ_7 hl (by decide) rfl (fun ls hl => ?_)
  refine lv_lconst (v := lN (1)) hx hb d_M_inverse_JJ_9 (by decide) ?_
  refine lv_lstore (lv' := [(10, .long (lN (1))), (8, .long (lN (0))), (6, .long (lN (aa))), (4, .long (lN (md))), (0, .long (lN (aa))), (2, .long (lN (md)))]) hx hb d_M_inverse_JJ_10 hl (by decide) rfl (fun ls hl => ?_)
  have hl : lv_has ls 16 [(0, .long (lN (aa))), (2, .long (lN (md))), (4, .long (lN (md))), (6, .long (lN (aa))), (8, .long (lZ (0))), (10, .long (lZ (1)))] := by
    rw [show lZ 0 = lN 0 from (lZ_n 0).symm, show lZ 1 = lN 1 from (lZ_n 1).symm]
    exact lv_sub hl [4, 5, 3, 2, 1, 0] rfl
  exact loop aa md aa 0 1 (Nat.le_refl _) (by omega) (by omega) (by omega) (euc_gcd h3 h6) ⟨1, by omega⟩ ⟨0, by omega⟩ (by simp) (by simp) ls hl
