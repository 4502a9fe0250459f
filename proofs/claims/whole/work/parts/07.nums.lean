/-! numbers of the machine, truth values, links -/
theorem lN_ne0 {n : Nat} (h0 : 0 < n) (h : n < 2 ^ 63) : ¬ lN n = 0 := fun z => by
  have := (pk_lEQ h (show (0 : Nat) < 2 ^ 63 by decide)).mp z
  omega
theorem mulb {a b : Nat} (ha : a < 2 ^ 31) (hb : b < 2 ^ 31) : a * b < 2 ^ 62 := by
  have h1 : a * b ≤ (2 ^ 31 - 1) * (2 ^ 31 - 1) := Nat.mul_le_mul (by omega) (by omega)
  have h2 : (2 ^ 31 - 1) * (2 ^ 31 - 1) < 2 ^ 62 := by decide
  omega
theorem zs_and {n : Nat} (hn : n < 2 ^ 63) : lN n &&& lN 1 = lN (n % 2) := by
  apply Int64.toBitVec_inj.mp
  rw [Int64.toBitVec_and]
  show BitVec.ofNat 64 n &&& BitVec.ofNat 64 1 = BitVec.ofNat 64 (n % 2)
  apply BitVec.eq_of_toNat_eq
  rw [BitVec.toNat_and, BitVec.toNat_ofNat, BitVec.toNat_ofNat, BitVec.toNat_ofNat, Nat.mod_eq_of_lt (by omega), Nat.mod_eq_of_lt (by decide), Nat.mod_eq_of_lt (by omega)]
  exact Nat.and_two_pow_sub_one_eq_mod n 1
theorem zs_c : ∀ k, k < 64 → (((nI k).toInt64 &&& 63).toBitVec.smod 64).toNat = k := by decide +kernel
theorem zs_shr {a k : Nat} (hk : k < 64) (h : a < 2 ^ 63) : lN a >>> ((nI k).toInt64 &&& 63) = lN (a / 2 ^ k) := by
  have hd : a / 2 ^ k ≤ a := Nat.div_le_self _ _
  apply Int64.toInt_inj.mp
  have e : (lN a >>> ((nI k).toInt64 &&& 63)).toInt = (lN a).toInt >>> k := by
    conv => rhs; rw [← zs_c k hk]
    exact BitVec.toInt_sshiftRight ..
  rw [e, Int.shiftRight_eq_div_pow, pk_lT h, pk_lT (by omega)]
  rfl
theorem ilt {x y : Int32} : x < y ↔ x.toInt < y.toInt := Int32.lt_iff_toInt_lt
theorem ile {x y : Int32} : x ≤ y ↔ x.toInt ≤ y.toInt := Int32.le_iff_toInt_le
theorem ieq {x y : Int32} : x = y ↔ x.toInt = y.toInt := Int32.toInt_inj.symm
theorem llt {x y : Int64} : x < y ↔ x.toInt < y.toInt := Int64.lt_iff_toInt_lt
theorem lle {x y : Int64} : x ≤ y ↔ x.toInt ≤ y.toInt := Int64.le_iff_toInt_le
theorem leq {x y : Int64} : x = y ↔ x.toInt = y.toInt := Int64.toInt_inj.symm
theorem i0 : (0 : Int32).toInt = 0 := by decide
theorem l0 : (0 : Int64).toInt = 0 := by decide
theorem i2lI (x : Int32) : x.toInt64.toInt = x.toInt := Int32.toInt_toInt64 x
theorem ofnn {x : Int32} (h : 0 ≤ x.toInt) : ∃ j : Nat, j < 2 ^ 31 ∧ x = nI j ∧ x.toInt = (j : Int) := by
  obtain ⟨j, h1, h2⟩ := nI_of (x := x) (fun z => by have := ilt.mp z; rw [i0] at this; omega)
  exact ⟨j, h1, h2, by rw [h2, nI_toInt h1]⟩
noncomputable def bI (C : Prop) : Int32 := @ite _ C (Classical.propDecidable C) 1 0
theorem bI_t {C : Prop} (h : C) : bI C = 1 := by unfold bI; exact if_pos h
theorem bI_f {C : Prop} (h : ¬ C) : bI C = 0 := by unfold bI; exact if_neg h
theorem bI_n (C : Prop) : narrow .boolean (.int (bI C)) = .int (bI C) := by
  rcases Classical.em C with h | h
  · rw [bI_t h]; rfl
  · rw [bI_f h]; rfl
theorem bI_iff {C D : Prop} (h : C ↔ D) : bI C = bI D := by rw [propext h]
/-- a member of the group modulo pp, of order qq -/
def mem (z : Int) (pp qq : Nat) : Prop := 1 ≤ z ∧ z < pp ∧ z.toNat ^ qq % pp = 1
/-- p and g may begin a group -/
def okg (P G : Int) : Prop := 5 ≤ P ∧ G ≠ 1 ∧ mem G P.toNat ((P.toNat - 1) / 2) ∧ zp ((P.toNat - 1) / 2) ∧ zp P.toNat
theorem powlt {a q pp : Nat} (h : 0 < pp) : a ^ q % pp < pp := Nat.mod_lt _ h
theorem nI_one : nI 1 = 1 := by decide
theorem sub_add_n {a b c : Nat} (h : b ≤ a + c) : nI a - nI b + nI c = nI (a + c - b) := by
  rw [← pk_sub h, ← nI_add, Int32.sub_eq_add_neg, Int32.sub_eq_add_neg, Int32.add_assoc, Int32.add_assoc, Int32.add_comm (-nI b)]
theorem diff_val {a b md : Nat} (ha : a < md) (hb : b < md) : (a + md - b) % md = if a < b then a + md - b else a - b := by
  split
  · exact Nat.mod_eq_of_lt (by omega)
  · rw [show a + md - b = (a - b) + md by omega, Nat.add_mod_right]
    exact Nat.mod_eq_of_lt (by omega)
theorem g_L_46 : GoodIn wall (wsV R_L 46 R_X y_X_begin (k_X_begin :: wall)) := gdV ml_L_46 im_y_X_begin se_y_X_begin in_X cw_X_begin
theorem g_X_19 : GoodIn wall (va_wsS R_X 19 y_X_isGroup (k_X_isGroup :: wall)) := gdS ml_X_19 sm_y_X_isGroup in_X cw_X_isGroup
theorem g_X_27 : GoodIn wall (va_wsS R_X 27 y_X_isMember (k_X_isMember :: wall)) := gdS ml_X_27 sm_y_X_isMember in_X cw_X_isMember
theorem g_X_23 : GoodIn wall (va_wsS R_X 23 y_X_halfOf (k_X_halfOf :: wall)) := gdS ml_X_23 sm_y_X_halfOf in_X cw_X_halfOf
theorem g_X_45 : GoodIn wall (va_wsS R_X 45 y_X_raised (k_X_raised :: wall)) := gdS ml_X_45 sm_y_X_raised in_X cw_X_raised
theorem g_X_34 : GoodIn wall (va_wsS R_X 34 y_X_times (k_X_times :: wall)) := gdS ml_X_34 sm_y_X_times in_X cw_X_times
theorem g_X_86 : GoodIn wall (va_wsS R_X 86 y_X_isPrime (k_X_isPrime :: wall)) := gdS ml_X_86 sm_y_X_isPrime in_X cw_X_isPrime
theorem g_L_51 : GoodIn wall (wsV R_L 51 R_X y_X_member (k_X_member :: wall)) := gdV ml_L_51 im_y_X_member se_y_X_member in_X cw_X_member
theorem g_L_79 : GoodIn wall (wsV R_L 79 R_X y_X_accepts (k_X_accepts :: wall)) := gdV ml_L_79 im_y_X_accepts se_y_X_accepts in_X cw_X_accepts
theorem g_X_63 : GoodIn wall (wsV R_X 63 R_X y_X_isExponent (k_X_isExponent :: wall)) := gdV ml_X_63 im_y_X_isExponent se_y_X_isExponent in_X cw_X_isExponent
theorem g_L_56 : GoodIn wall (va_wsS R_L 56 y_L_product (k_L_product :: wall)) := gdS ml_L_56 sm_y_L_product in_L cw_L_product
theorem g_L_7 : GoodIn wall (wsV R_L 7 R_X y_X_product (k_X_product :: wall)) := gdV ml_L_7 im_y_X_product se_y_X_product in_X cw_X_product
theorem g_X_30 : GoodIn wall (wsV R_X 30 R_X y_X_requireResidue (k_X_requireResidue :: wall)) := gdV ml_X_30 im_y_X_requireResidue se_y_X_requireResidue in_X cw_X_requireResidue
theorem g_L_68 : GoodIn wall (va_wsS R_L 68 y_L_power (k_L_power :: wall)) := gdS ml_L_68 sm_y_L_power in_L cw_L_power
theorem g_L_15 : GoodIn wall (wsV R_L 15 R_X y_X_power (k_X_power :: wall)) := gdV ml_L_15 im_y_X_power se_y_X_power in_X cw_X_power
theorem g_L_72 : GoodIn wall (va_wsS R_L 72 y_L_inverse (k_L_inverse :: wall)) := gdS ml_L_72 sm_y_L_inverse in_L cw_L_inverse
theorem g_L_19 : GoodIn wall (wsV R_L 19 R_X y_X_inverse (k_X_inverse :: wall)) := gdV ml_L_19 im_y_X_inverse se_y_X_inverse in_X cw_X_inverse
theorem g_X_51 : GoodIn wall (va_wsS R_X 51 y_X_inverted (k_X_inverted :: wall)) := gdS ml_X_51 sm_y_X_inverted in_X cw_X_inverted
theorem g_L_76 : GoodIn wall (va_wsS R_L 76 y_L_log (k_L_log :: wall)) := gdS ml_L_76 sm_y_L_log in_L cw_L_log
theorem g_L_23 : GoodIn wall (wsV R_L 23 R_X y_X_log (k_X_log :: wall)) := gdV ml_L_23 im_y_X_log se_y_X_log in_X cw_X_log
theorem g_X_55 : GoodIn wall (wsV R_X 55 R_X y_X_requireMember (k_X_requireMember :: wall)) := gdV ml_X_55 im_y_X_requireMember se_y_X_requireMember in_X cw_X_requireMember
theorem g_L_84 : GoodIn wall (va_wsS R_L 84 y_L_answer (k_L_answer :: wall)) := gdS ml_L_84 sm_y_L_answer in_L cw_L_answer
theorem g_L_28 : GoodIn wall (wsV R_L 28 R_X y_X_answer (k_X_answer :: wall)) := gdV ml_L_28 im_y_X_answer se_y_X_answer in_X cw_X_answer
theorem g_X_67 : GoodIn wall (wsV R_X 67 R_X y_X_requireExponent (k_X_requireExponent :: wall)) := gdV ml_X_67 im_y_X_requireExponent se_y_X_requireExponent in_X cw_X_requireExponent
theorem g_X_70 : GoodIn wall (va_wsS R_X 70 y_X_sum (k_X_sum :: wall)) := gdS ml_X_70 sm_y_X_sum in_X cw_X_sum
theorem g_L_88 : GoodIn wall (va_wsS R_L 88 y_L_feign (k_L_feign :: wall)) := gdS ml_L_88 sm_y_L_feign in_L cw_L_feign
theorem g_L_32 : GoodIn wall (wsV R_L 32 R_X y_X_feign (k_X_feign :: wall)) := gdV ml_L_32 im_y_X_feign se_y_X_feign in_X cw_X_feign
theorem g_L_91 : GoodIn wall (va_wsS R_L 91 y_L_secret (k_L_secret :: wall)) := gdS ml_L_91 sm_y_L_secret in_L cw_L_secret
theorem g_L_35 : GoodIn wall (wsV R_L 35 R_X y_X_secret (k_X_secret :: wall)) := gdV ml_L_35 im_y_X_secret se_y_X_secret in_X cw_X_secret
theorem g_X_75 : GoodIn wall (va_wsS R_X 75 y_X_difference (k_X_difference :: wall)) := gdS ml_X_75 sm_y_X_difference in_X cw_X_difference
theorem g_L_95 : GoodIn wall (va_wsS R_L 95 y_L_count (k_L_count :: wall)) := gdS ml_L_95 sm_y_L_count in_L cw_L_count
theorem g_L_39 : GoodIn wall (wsV R_L 39 R_X y_X_count (k_X_count :: wall)) := gdV ml_L_39 im_y_X_count se_y_X_count in_X cw_X_count
theorem g_L_62 : GoodIn wall (wsV R_L 62 R_M y_M_thrown (k_M_thrown :: wall)) := gdV ml_L_62 im_y_M_thrown se_y_M_thrown in_M cw_M_thrown
theorem g_L_50 : GoodIn wall (wsV R_L 50 R_M y_M_begin (k_M_begin :: wall)) := gdV ml_L_50 im_y_M_begin se_y_M_begin in_M cw_M_begin
theorem g_M_37 : GoodIn wall (va_wsS R_M 37 y_M_isPrime (k_M_isPrime :: wall)) := gdS ml_M_37 sm_y_M_isPrime in_M cw_M_isPrime
theorem g_M_41 : GoodIn wall (va_wsS R_M 41 y_M_isMember (k_M_isMember :: wall)) := gdS ml_M_41 sm_y_M_isMember in_M cw_M_isMember
theorem g_M_29 : GoodIn wall (va_wsS R_M 29 y_M_in (k_M_in :: wall)) := gdS ml_M_29 sm_y_M_in in_M cw_M_in
theorem g_M_33 : GoodIn wall (va_wsS R_M 33 y_M_power_JJJ (k_M_power_JJJ :: wall)) := gdS ml_M_33 sm_y_M_power_JJJ in_M cw_M_power_JJJ
theorem g_L_55 : GoodIn wall (wsV R_L 55 R_M y_M_member (k_M_member :: wall)) := gdV ml_L_55 im_y_M_member se_y_M_member in_M cw_M_member
theorem g_L_61 : GoodIn wall (wsV R_L 61 R_M y_M_product (k_M_product :: wall)) := gdV ml_L_61 im_y_M_product se_y_M_product in_M cw_M_product
theorem g_M_44 : GoodIn wall (wsV R_M 44 R_M y_M_fails (k_M_fails :: wall)) := gdV ml_M_44 im_y_M_fails se_y_M_fails in_M cw_M_fails
theorem g_L_71 : GoodIn wall (wsV R_L 71 R_M y_M_power_IJ (k_M_power_IJ :: wall)) := gdV ml_L_71 im_y_M_power_IJ se_y_M_power_IJ in_M cw_M_power_IJ
theorem g_L_75 : GoodIn wall (wsV R_L 75 R_M y_M_inverse_I (k_M_inverse_I :: wall)) := gdV ml_L_75 im_y_M_inverse_I se_y_M_inverse_I in_M cw_M_inverse_I
theorem g_M_48 : GoodIn wall (va_wsS R_M 48 y_M_inverse_JJ (k_M_inverse_JJ :: wall)) := gdS ml_M_48 sm_y_M_inverse_JJ in_M cw_M_inverse_JJ
theorem g_L_78 : GoodIn wall (wsV R_L 78 R_M y_M_log (k_M_log :: wall)) := gdV ml_L_78 im_y_M_log se_y_M_log in_M cw_M_log
theorem g_L_83 : GoodIn wall (wsV R_L 83 R_M y_M_accepts (k_M_accepts :: wall)) := gdV ml_L_83 im_y_M_accepts se_y_M_accepts in_M cw_M_accepts
theorem g_M_54 : GoodIn wall (wsV R_M 54 R_M y_M_isExponent (k_M_isExponent :: wall)) := gdV ml_M_54 im_y_M_isExponent se_y_M_isExponent in_M cw_M_isExponent
theorem g_L_87 : GoodIn wall (wsV R_L 87 R_M y_M_answer (k_M_answer :: wall)) := gdV ml_L_87 im_y_M_answer se_y_M_answer in_M cw_M_answer
theorem g_L_90 : GoodIn wall (wsV R_L 90 R_M y_M_feign (k_M_feign :: wall)) := gdV ml_L_90 im_y_M_feign se_y_M_feign in_M cw_M_feign
theorem g_L_94 : GoodIn wall (wsV R_L 94 R_M y_M_secret (k_M_secret :: wall)) := gdV ml_L_94 im_y_M_secret se_y_M_secret in_M cw_M_secret
theorem g_L_97 : GoodIn wall (wsV R_L 97 R_M y_M_count (k_M_count :: wall)) := gdV ml_L_97 im_y_M_count se_y_M_count in_M cw_M_count
theorem pd_X_begin : y_X_begin.cls = R_X ∧ y_X_begin.cls ≠ "java/lang/invoke/MethodHandle" ∧ y_X_begin.cls ≠ "java/lang/invoke/VarHandle" ∧ (parseMethodDescriptor y_X_begin.desc).map (fun d => d.parameters.length) = some 2 := by decide +kernel
theorem pd_X_member : y_X_member.cls = R_X ∧ y_X_member.cls ≠ "java/lang/invoke/MethodHandle" ∧ y_X_member.cls ≠ "java/lang/invoke/VarHandle" ∧ (parseMethodDescriptor y_X_member.desc).map (fun d => d.parameters.length) = some 1 := by decide +kernel
theorem pd_X_product : y_X_product.cls = R_X ∧ y_X_product.cls ≠ "java/lang/invoke/MethodHandle" ∧ y_X_product.cls ≠ "java/lang/invoke/VarHandle" ∧ (parseMethodDescriptor y_X_product.desc).map (fun d => d.parameters.length) = some 2 := by decide +kernel
theorem pd_X_power : y_X_power.cls = R_X ∧ y_X_power.cls ≠ "java/lang/invoke/MethodHandle" ∧ y_X_power.cls ≠ "java/lang/invoke/VarHandle" ∧ (parseMethodDescriptor y_X_power.desc).map (fun d => d.parameters.length) = some 2 := by decide +kernel
theorem pd_X_inverse : y_X_inverse.cls = R_X ∧ y_X_inverse.cls ≠ "java/lang/invoke/MethodHandle" ∧ y_X_inverse.cls ≠ "java/lang/invoke/VarHandle" ∧ (parseMethodDescriptor y_X_inverse.desc).map (fun d => d.parameters.length) = some 1 := by decide +kernel
theorem pd_X_log : y_X_log.cls = R_X ∧ y_X_log.cls ≠ "java/lang/invoke/MethodHandle" ∧ y_X_log.cls ≠ "java/lang/invoke/VarHandle" ∧ (parseMethodDescriptor y_X_log.desc).map (fun d => d.parameters.length) = some 1 := by decide +kernel
theorem pd_X_accepts : y_X_accepts.cls = R_X ∧ y_X_accepts.cls ≠ "java/lang/invoke/MethodHandle" ∧ y_X_accepts.cls ≠ "java/lang/invoke/VarHandle" ∧ (parseMethodDescriptor y_X_accepts.desc).map (fun d => d.parameters.length) = some 4 := by decide +kernel
theorem pd_X_answer : y_X_answer.cls = R_X ∧ y_X_answer.cls ≠ "java/lang/invoke/MethodHandle" ∧ y_X_answer.cls ≠ "java/lang/invoke/VarHandle" ∧ (parseMethodDescriptor y_X_answer.desc).map (fun d => d.parameters.length) = some 3 := by decide +kernel
theorem pd_X_feign : y_X_feign.cls = R_X ∧ y_X_feign.cls ≠ "java/lang/invoke/MethodHandle" ∧ y_X_feign.cls ≠ "java/lang/invoke/VarHandle" ∧ (parseMethodDescriptor y_X_feign.desc).map (fun d => d.parameters.length) = some 3 := by decide +kernel
theorem pd_X_secret : y_X_secret.cls = R_X ∧ y_X_secret.cls ≠ "java/lang/invoke/MethodHandle" ∧ y_X_secret.cls ≠ "java/lang/invoke/VarHandle" ∧ (parseMethodDescriptor y_X_secret.desc).map (fun d => d.parameters.length) = some 4 := by decide +kernel
theorem pd_X_count : y_X_count.cls = R_X ∧ y_X_count.cls ≠ "java/lang/invoke/MethodHandle" ∧ y_X_count.cls ≠ "java/lang/invoke/VarHandle" ∧ (parseMethodDescriptor y_X_count.desc).map (fun d => d.parameters.length) = some 1 := by decide +kernel
theorem pd_X_requireResidue : y_X_requireResidue.cls = R_X ∧ y_X_requireResidue.cls ≠ "java/lang/invoke/MethodHandle" ∧ y_X_requireResidue.cls ≠ "java/lang/invoke/VarHandle" ∧ (parseMethodDescriptor y_X_requireResidue.desc).map (fun d => d.parameters.length) = some 1 := by decide +kernel
theorem pd_X_requireMember : y_X_requireMember.cls = R_X ∧ y_X_requireMember.cls ≠ "java/lang/invoke/MethodHandle" ∧ y_X_requireMember.cls ≠ "java/lang/invoke/VarHandle" ∧ (parseMethodDescriptor y_X_requireMember.desc).map (fun d => d.parameters.length) = some 1 := by decide +kernel
theorem pd_X_requireExponent : y_X_requireExponent.cls = R_X ∧ y_X_requireExponent.cls ≠ "java/lang/invoke/MethodHandle" ∧ y_X_requireExponent.cls ≠ "java/lang/invoke/VarHandle" ∧ (parseMethodDescriptor y_X_requireExponent.desc).map (fun d => d.parameters.length) = some 1 := by decide +kernel
theorem pd_X_isExponent : y_X_isExponent.cls = R_X ∧ y_X_isExponent.cls ≠ "java/lang/invoke/MethodHandle" ∧ y_X_isExponent.cls ≠ "java/lang/invoke/VarHandle" ∧ (parseMethodDescriptor y_X_isExponent.desc).map (fun d => d.parameters.length) = some 1 := by decide +kernel
theorem pd_X_isGroup : y_X_isGroup.cls ≠ "java/lang/invoke/MethodHandle" ∧ y_X_isGroup.cls ≠ "java/lang/invoke/VarHandle" ∧ (parseMethodDescriptor y_X_isGroup.desc).map (fun d => d.parameters.length) = some 2 := by decide +kernel
theorem pd_X_halfOf : y_X_halfOf.cls ≠ "java/lang/invoke/MethodHandle" ∧ y_X_halfOf.cls ≠ "java/lang/invoke/VarHandle" ∧ (parseMethodDescriptor y_X_halfOf.desc).map (fun d => d.parameters.length) = some 1 := by decide +kernel
theorem pd_X_isMember : y_X_isMember.cls ≠ "java/lang/invoke/MethodHandle" ∧ y_X_isMember.cls ≠ "java/lang/invoke/VarHandle" ∧ (parseMethodDescriptor y_X_isMember.desc).map (fun d => d.parameters.length) = some 2 := by decide +kernel
theorem pd_X_isPrime : y_X_isPrime.cls ≠ "java/lang/invoke/MethodHandle" ∧ y_X_isPrime.cls ≠ "java/lang/invoke/VarHandle" ∧ (parseMethodDescriptor y_X_isPrime.desc).map (fun d => d.parameters.length) = some 1 := by decide +kernel
theorem pd_X_sum : y_X_sum.cls ≠ "java/lang/invoke/MethodHandle" ∧ y_X_sum.cls ≠ "java/lang/invoke/VarHandle" ∧ (parseMethodDescriptor y_X_sum.desc).map (fun d => d.parameters.length) = some 3 := by decide +kernel
theorem pd_X_difference : y_X_difference.cls ≠ "java/lang/invoke/MethodHandle" ∧ y_X_difference.cls ≠ "java/lang/invoke/VarHandle" ∧ (parseMethodDescriptor y_X_difference.desc).map (fun d => d.parameters.length) = some 3 := by decide +kernel
theorem pd_X_times : y_X_times.cls ≠ "java/lang/invoke/MethodHandle" ∧ y_X_times.cls ≠ "java/lang/invoke/VarHandle" ∧ (parseMethodDescriptor y_X_times.desc).map (fun d => d.parameters.length) = some 3 := by decide +kernel
theorem pd_X_raised : y_X_raised.cls ≠ "java/lang/invoke/MethodHandle" ∧ y_X_raised.cls ≠ "java/lang/invoke/VarHandle" ∧ (parseMethodDescriptor y_X_raised.desc).map (fun d => d.parameters.length) = some 3 := by decide +kernel
theorem pd_X_inverted : y_X_inverted.cls ≠ "java/lang/invoke/MethodHandle" ∧ y_X_inverted.cls ≠ "java/lang/invoke/VarHandle" ∧ (parseMethodDescriptor y_X_inverted.desc).map (fun d => d.parameters.length) = some 2 := by decide +kernel
theorem pd_M_thrown : y_M_thrown.cls = R_M ∧ y_M_thrown.cls ≠ "java/lang/invoke/MethodHandle" ∧ y_M_thrown.cls ≠ "java/lang/invoke/VarHandle" ∧ (parseMethodDescriptor y_M_thrown.desc).map (fun d => d.parameters.length) = some 0 := by decide +kernel
theorem pd_M_in : y_M_in.cls ≠ "java/lang/invoke/MethodHandle" ∧ y_M_in.cls ≠ "java/lang/invoke/VarHandle" ∧ (parseMethodDescriptor y_M_in.desc).map (fun d => d.parameters.length) = some 3 := by decide +kernel
theorem pd_M_fails : y_M_fails.cls = R_M ∧ y_M_fails.cls ≠ "java/lang/invoke/MethodHandle" ∧ y_M_fails.cls ≠ "java/lang/invoke/VarHandle" ∧ (parseMethodDescriptor y_M_fails.desc).map (fun d => d.parameters.length) = some 2 := by decide +kernel
theorem pd_M_isPrime : y_M_isPrime.cls ≠ "java/lang/invoke/MethodHandle" ∧ y_M_isPrime.cls ≠ "java/lang/invoke/VarHandle" ∧ (parseMethodDescriptor y_M_isPrime.desc).map (fun d => d.parameters.length) = some 1 := by decide +kernel
theorem pd_M_power_JJJ : y_M_power_JJJ.cls ≠ "java/lang/invoke/MethodHandle" ∧ y_M_power_JJJ.cls ≠ "java/lang/invoke/VarHandle" ∧ (parseMethodDescriptor y_M_power_JJJ.desc).map (fun d => d.parameters.length) = some 3 := by decide +kernel
theorem pd_M_isMember : y_M_isMember.cls ≠ "java/lang/invoke/MethodHandle" ∧ y_M_isMember.cls ≠ "java/lang/invoke/VarHandle" ∧ (parseMethodDescriptor y_M_isMember.desc).map (fun d => d.parameters.length) = some 3 := by decide +kernel
theorem pd_M_isExponent : y_M_isExponent.cls = R_M ∧ y_M_isExponent.cls ≠ "java/lang/invoke/MethodHandle" ∧ y_M_isExponent.cls ≠ "java/lang/invoke/VarHandle" ∧ (parseMethodDescriptor y_M_isExponent.desc).map (fun d => d.parameters.length) = some 1 := by decide +kernel
theorem pd_M_inverse_JJ : y_M_inverse_JJ.cls ≠ "java/lang/invoke/MethodHandle" ∧ y_M_inverse_JJ.cls ≠ "java/lang/invoke/VarHandle" ∧ (parseMethodDescriptor y_M_inverse_JJ.desc).map (fun d => d.parameters.length) = some 2 := by decide +kernel
theorem pd_M_begin : y_M_begin.cls = R_M ∧ y_M_begin.cls ≠ "java/lang/invoke/MethodHandle" ∧ y_M_begin.cls ≠ "java/lang/invoke/VarHandle" ∧ (parseMethodDescriptor y_M_begin.desc).map (fun d => d.parameters.length) = some 2 := by decide +kernel
theorem pd_M_member : y_M_member.cls = R_M ∧ y_M_member.cls ≠ "java/lang/invoke/MethodHandle" ∧ y_M_member.cls ≠ "java/lang/invoke/VarHandle" ∧ (parseMethodDescriptor y_M_member.desc).map (fun d => d.parameters.length) = some 1 := by decide +kernel
theorem pd_M_product : y_M_product.cls = R_M ∧ y_M_product.cls ≠ "java/lang/invoke/MethodHandle" ∧ y_M_product.cls ≠ "java/lang/invoke/VarHandle" ∧ (parseMethodDescriptor y_M_product.desc).map (fun d => d.parameters.length) = some 2 := by decide +kernel
theorem pd_M_power_IJ : y_M_power_IJ.cls = R_M ∧ y_M_power_IJ.cls ≠ "java/lang/invoke/MethodHandle" ∧ y_M_power_IJ.cls ≠ "java/lang/invoke/VarHandle" ∧ (parseMethodDescriptor y_M_power_IJ.desc).map (fun d => d.parameters.length) = some 2 := by decide +kernel
theorem pd_M_inverse_I : y_M_inverse_I.cls = R_M ∧ y_M_inverse_I.cls ≠ "java/lang/invoke/MethodHandle" ∧ y_M_inverse_I.cls ≠ "java/lang/invoke/VarHandle" ∧ (parseMethodDescriptor y_M_inverse_I.desc).map (fun d => d.parameters.length) = some 1 := by decide +kernel
theorem pd_M_log : y_M_log.cls = R_M ∧ y_M_log.cls ≠ "java/lang/invoke/MethodHandle" ∧ y_M_log.cls ≠ "java/lang/invoke/VarHandle" ∧ (parseMethodDescriptor y_M_log.desc).map (fun d => d.parameters.length) = some 1 := by decide +kernel
theorem pd_M_accepts : y_M_accepts.cls = R_M ∧ y_M_accepts.cls ≠ "java/lang/invoke/MethodHandle" ∧ y_M_accepts.cls ≠ "java/lang/invoke/VarHandle" ∧ (parseMethodDescriptor y_M_accepts.desc).map (fun d => d.parameters.length) = some 4 := by decide +kernel
theorem pd_M_answer : y_M_answer.cls = R_M ∧ y_M_answer.cls ≠ "java/lang/invoke/MethodHandle" ∧ y_M_answer.cls ≠ "java/lang/invoke/VarHandle" ∧ (parseMethodDescriptor y_M_answer.desc).map (fun d => d.parameters.length) = some 3 := by decide +kernel
theorem pd_M_feign : y_M_feign.cls = R_M ∧ y_M_feign.cls ≠ "java/lang/invoke/MethodHandle" ∧ y_M_feign.cls ≠ "java/lang/invoke/VarHandle" ∧ (parseMethodDescriptor y_M_feign.desc).map (fun d => d.parameters.length) = some 3 := by decide +kernel
theorem pd_M_secret : y_M_secret.cls = R_M ∧ y_M_secret.cls ≠ "java/lang/invoke/MethodHandle" ∧ y_M_secret.cls ≠ "java/lang/invoke/VarHandle" ∧ (parseMethodDescriptor y_M_secret.desc).map (fun d => d.parameters.length) = some 4 := by decide +kernel
theorem pd_M_count : y_M_count.cls = R_M ∧ y_M_count.cls ≠ "java/lang/invoke/MethodHandle" ∧ y_M_count.cls ≠ "java/lang/invoke/VarHandle" ∧ (parseMethodDescriptor y_M_count.desc).map (fun d => d.parameters.length) = some 1 := by decide +kernel
theorem pd_L_product : y_L_product.cls ≠ "java/lang/invoke/MethodHandle" ∧ y_L_product.cls ≠ "java/lang/invoke/VarHandle" ∧ (parseMethodDescriptor y_L_product.desc).map (fun d => d.parameters.length) = some 4 := by decide +kernel
theorem pd_L_power : y_L_power.cls ≠ "java/lang/invoke/MethodHandle" ∧ y_L_power.cls ≠ "java/lang/invoke/VarHandle" ∧ (parseMethodDescriptor y_L_power.desc).map (fun d => d.parameters.length) = some 4 := by decide +kernel
theorem pd_L_inverse : y_L_inverse.cls ≠ "java/lang/invoke/MethodHandle" ∧ y_L_inverse.cls ≠ "java/lang/invoke/VarHandle" ∧ (parseMethodDescriptor y_L_inverse.desc).map (fun d => d.parameters.length) = some 3 := by decide +kernel
theorem pd_L_log : y_L_log.cls ≠ "java/lang/invoke/MethodHandle" ∧ y_L_log.cls ≠ "java/lang/invoke/VarHandle" ∧ (parseMethodDescriptor y_L_log.desc).map (fun d => d.parameters.length) = some 3 := by decide +kernel
theorem pd_L_answer : y_L_answer.cls ≠ "java/lang/invoke/MethodHandle" ∧ y_L_answer.cls ≠ "java/lang/invoke/VarHandle" ∧ (parseMethodDescriptor y_L_answer.desc).map (fun d => d.parameters.length) = some 5 := by decide +kernel
theorem pd_L_feign : y_L_feign.cls ≠ "java/lang/invoke/MethodHandle" ∧ y_L_feign.cls ≠ "java/lang/invoke/VarHandle" ∧ (parseMethodDescriptor y_L_feign.desc).map (fun d => d.parameters.length) = some 5 := by decide +kernel
theorem pd_L_secret : y_L_secret.cls ≠ "java/lang/invoke/MethodHandle" ∧ y_L_secret.cls ≠ "java/lang/invoke/VarHandle" ∧ (parseMethodDescriptor y_L_secret.desc).map (fun d => d.parameters.length) = some 6 := by decide +kernel
theorem pd_L_count : y_L_count.cls ≠ "java/lang/invoke/MethodHandle" ∧ y_L_count.cls ≠ "java/lang/invoke/VarHandle" ∧ (parseMethodDescriptor y_L_count.desc).map (fun d => d.parameters.length) = some 3 := by decide +kernel
