/-! numbers: primes by trial, Euclid's lemma, Fermat's little theorem, inverses, the powers of a generator -/
def zp (n : Nat) : Prop := 2 ≤ n ∧ ∀ d, 2 ≤ d → d * d ≤ n → n % d ≠ 0
theorem zp_dvd {n : Nat} (h : zp n) {d : Nat} (hd : d ∣ n) : d = 1 ∨ d = n := by
  obtain ⟨k, rfl⟩ := hd
  obtain ⟨h2, h⟩ := h
  by_cases h1 : d = 1
  · exact Or.inl h1
  by_cases hk1 : k = 1
  · right; rw [hk1, Nat.mul_one]
  exfalso
  have hd0 : d ≠ 0 := fun z => by rw [z, Nat.zero_mul] at h2; omega
  have hk0 : k ≠ 0 := fun z => by rw [z, Nat.mul_zero] at h2; omega
  by_cases hdk : d ≤ k
  · exact h d (by omega) (Nat.mul_le_mul_left d hdk) (Nat.mul_mod_right d k)
  · exact h k (by omega) (Nat.mul_le_mul_right k (by omega)) (Nat.mul_mod_left d k)
theorem zp_cop {p a : Nat} (hp : zp p) (h : a % p ≠ 0) : Nat.gcd p a = 1 := by
  rcases zp_dvd hp (Nat.gcd_dvd_left p a) with h1 | h1
  · exact h1
  · have h2 := Nat.gcd_dvd_right p a
    rw [h1] at h2
    exact absurd (Nat.mod_eq_zero_of_dvd h2) h
theorem zp_euclid {p a b : Nat} (hp : zp p) (h : p ∣ a * b) : p ∣ a ∨ p ∣ b := by
  by_cases ha : a % p = 0
  · exact Or.inl (Nat.dvd_of_mod_eq_zero ha)
  · exact Or.inr (Nat.Coprime.dvd_of_dvd_mul_left (show Nat.Coprime p a from zp_cop hp ha) h)
def bch : Nat → Nat → Nat
  | _, 0 => 1
  | 0, _ + 1 => 0
  | n + 1, k + 1 => bch n k + bch n (k + 1)
theorem bch_0 (n : Nat) : bch n 0 = 1 := by cases n <;> rfl
theorem bch_s (n k : Nat) : bch (n + 1) (k + 1) = bch n k + bch n (k + 1) := rfl
theorem bch_gt : ∀ n k, n < k → bch n k = 0 := by
  intro n
  induction n with
  | zero => intro k h; cases k with
    | zero => omega
    | succ k => rfl
  | succ n ih => intro k h; cases k with
    | zero => omega
    | succ k => rw [bch_s, ih k (by omega), ih (k + 1) (by omega)]
theorem bch_self (n : Nat) : bch n n = 1 := by
  induction n with
  | zero => rfl
  | succ n ih => rw [bch_s, ih, bch_gt n (n + 1) (by omega)]
theorem bch_abs : ∀ n k, (k + 1) * bch (n + 1) (k + 1) = (n + 1) * bch n k := by
  intro n
  induction n with
  | zero => intro k; cases k with
    | zero => rfl
    | succ k => rw [bch_s, bch_gt 0 (k + 1) (by omega), bch_gt 0 (k + 2) (by omega)]; simp
  | succ n ih => intro k; cases k with
    | zero =>
      have h := ih 0
      rw [bch_0] at h
      rw [bch_s, bch_0]
      omega
    | succ k =>
      have h1 := ih k
      have h2 := ih (k + 1)
      have e1 : bch (n + 1) (k + 1) = bch n k + bch n (k + 1) := rfl
      have e2 : bch (n + 1 + 1) (k + 1 + 1) = bch (n + 1) (k + 1) + bch (n + 1) (k + 1 + 1) := rfl
      have a1 : (k + 1 + 1) * bch (n + 1) (k + 1) = (k + 1) * bch (n + 1) (k + 1) + bch (n + 1) (k + 1) := by rw [Nat.add_mul (k + 1) 1, Nat.one_mul]
      have a2 : (n + 1 + 1) * bch (n + 1) (k + 1) = (n + 1) * bch (n + 1) (k + 1) + bch (n + 1) (k + 1) := by rw [Nat.add_mul (n + 1) 1, Nat.one_mul]
      have a3 : (n + 1) * bch (n + 1) (k + 1) = (n + 1) * bch n k + (n + 1) * bch n (k + 1) := by rw [e1, Nat.mul_add]
      rw [e2, Nat.mul_add, h2, a1, h1, a2, a3]
      omega
def bsm (n a : Nat) : Nat → Nat
  | 0 => 0
  | k + 1 => bsm n a k + bch n k * a ^ k
theorem bsm_s (n a k : Nat) : bsm n a (k + 1) = bsm n a k + bch n k * a ^ k := rfl
theorem bsm_rec (n a : Nat) : ∀ k, bsm (n + 1) a (k + 1) = bsm n a (k + 1) + a * bsm n a k := by
  intro k
  induction k with
  | zero => simp [bsm, bch_0]
  | succ k ih =>
    have e : a * (bch n k * a ^ k) = bch n k * a ^ (k + 1) := by rw [Nat.pow_succ, Nat.mul_comm (a ^ k) a, ← Nat.mul_assoc, ← Nat.mul_assoc, Nat.mul_comm a]
    rw [bsm_s (n + 1) a (k + 1), ih, bsm_s n a (k + 1), bsm_s n a k, bch_s, Nat.add_mul, Nat.mul_add, e]
    omega
theorem binom (a n : Nat) : (a + 1) ^ n = bsm n a (n + 1) := by
  induction n with
  | zero => simp [bsm, bch]
  | succ n ih =>
    rw [Nat.pow_succ, ih, bsm_rec, bsm_s n a (n + 1), bch_gt n (n + 1) (by omega), Nat.zero_mul, Nat.mul_add, Nat.mul_one, Nat.mul_comm]
    omega
theorem bch_p {p k : Nat} (hp : zp p) (h : k + 1 < p) : p ∣ bch p (k + 1) := by
  obtain ⟨n, rfl⟩ : ∃ n, p = n + 1 := ⟨p - 1, by omega⟩
  have h1 : (n + 1) ∣ (k + 1) * bch (n + 1) (k + 1) := by rw [bch_abs]; exact Nat.dvd_mul_right _ _
  rcases zp_euclid hp h1 with h2 | h2
  · exact absurd (Nat.le_of_dvd (by omega) h2) (by omega)
  · exact h2
theorem bsm_p {p a : Nat} (hp : zp p) : ∀ k, k + 1 ≤ p → bsm p a (k + 1) % p = 1 := by
  intro k
  induction k with
  | zero =>
    intro _
    have := hp.1
    rw [bsm_s, bch_0, show bsm p a 0 = 0 from rfl, Nat.pow_zero]
    exact Nat.mod_eq_of_lt (by omega)
  | succ k ih =>
    intro h
    have := hp.1
    rw [bsm_s, Nat.add_mod, ih (by omega), Nat.mul_mod, Nat.mod_eq_zero_of_dvd (bch_p hp (by omega)), Nat.zero_mul, Nat.zero_mod, Nat.add_zero]
    exact Nat.mod_eq_of_lt (by omega)
theorem flt {p : Nat} (hp : zp p) : ∀ a, a ^ p % p = a % p := by
  intro a
  have h2 := hp.1
  induction a with
  | zero => rw [Nat.zero_pow (by omega)]
  | succ a ih =>
    have e : p - 1 + 1 = p := by omega
    have h := bsm_p (a := a) hp (p - 1) (by omega)
    rw [e] at h
    rw [binom, bsm_s, bch_self, Nat.one_mul, Nat.add_mod, h, ih, ← Nat.add_mod_mod (1 : Nat), Nat.mod_mod, Nat.add_comm a 1]
    simp
theorem fermat {p a : Nat} (hp : zp p) (ha : a % p ≠ 0) : a ^ (p - 1) % p = 1 := by
  have h2 := hp.1
  have h0 : 0 < a := Nat.pos_of_ne_zero (fun z => ha (by rw [z, Nat.zero_mod]))
  have h1 : 0 < a ^ (p - 1) := Nat.pow_pos h0
  have e : a ^ p = a * a ^ (p - 1) := by rw [Nat.mul_comm, ← Nat.pow_succ]; congr 1; omega
  have h3 := Nat.sub_mod_eq_zero_of_mod_eq (flt hp a)
  rw [e, show a * a ^ (p - 1) - a = a * (a ^ (p - 1) - 1) by rw [Nat.mul_sub, Nat.mul_one]] at h3
  rcases zp_euclid hp (Nat.dvd_of_mod_eq_zero h3) with h4 | h4
  · exact absurd (Nat.mod_eq_zero_of_dvd h4) ha
  · obtain ⟨t, ht⟩ := h4
    rw [show a ^ (p - 1) = 1 + p * t by omega, Nat.add_mul_mod_self_left, Nat.mod_eq_of_lt h2]
theorem inv_uniq {m a x y : Nat} (hx : x < m) (hy : y < m) (h1 : a * x % m = 1) (h2 : a * y % m = 1) : x = y := by
  have e1 : x * (a * y) % m = x := by rw [Nat.mul_mod, h2, Nat.mul_one, Nat.mod_mod, Nat.mod_eq_of_lt hx]
  have e2 : (a * x) * y % m = y := by rw [Nat.mul_mod, h1, Nat.one_mul, Nat.mod_mod, Nat.mod_eq_of_lt hy]
  have e3 : x * (a * y) = (a * x) * y := by rw [Nat.mul_comm a x, Nat.mul_assoc]
  rw [e3, e2] at e1
  exact e1.symm
/-- the inverse as a power -/
theorem inv_pow {p a : Nat} (hp : zp p) (ha : a % p ≠ 0) : a * (a ^ (p - 2) % p) % p = 1 := by
  have h2 := hp.1
  rw [Nat.mul_mod_mod, Nat.mul_comm, ← Nat.pow_succ, show (p - 2).succ = p - 1 by omega]
  exact fermat hp ha
/-- q-th powers -/
theorem pow_one {p a q : Nat} (h1 : 1 < p) (h : a ^ q % p = 1) (k : Nat) : a ^ (q * k) % p = 1 := by
  rw [Nat.pow_mul, Nat.pow_mod, h, Nat.one_pow, Nat.mod_eq_of_lt h1]
theorem pow_gcd {g p : Nat} (h1 : 1 < p) : ∀ i j, g ^ i % p = 1 → g ^ j % p = 1 → g ^ (Nat.gcd i j) % p = 1 := by
  intro i j
  induction i, j using Nat.gcd.induction with
  | H0 n => intro _ h; simpa using h
  | H1 m n hm ih =>
    intro h2 h3
    rw [Nat.gcd_rec]
    refine ih ?_ h2
    have e : n = m * (n / m) + n % m := (Nat.div_add_mod n m).symm
    have h4 : g ^ (m * (n / m) + n % m) % p = 1 := by rw [← e]; exact h3
    rw [Nat.pow_add, Nat.mul_mod, pow_one h1 h2, Nat.one_mul, Nat.mod_mod] at h4
    exact h4
/-- the group: p = 2 q + 1, both primes; g a member that is not 1 -/
def grp (p q g : Nat) : Prop := p = 2 * q + 1 ∧ zp p ∧ zp q ∧ 1 < g ∧ g < p ∧ g ^ q % p = 1 ∧ p < 2 ^ 31
theorem grp_inj {p q g : Nat} (G : grp p q g) {i j : Nat} (hij : i < j) (hj : j < q) (h : g ^ i % p = g ^ j % p) : False := by
  obtain ⟨e, hp, hq, g1, g2, hg, -⟩ := G
  have p1 : 1 < p := hp.1
  have a1 : g ^ (q - i) * g ^ i % p = 1 := by rw [← Nat.pow_add, show q - i + i = q by omega]; exact hg
  have a2 : g ^ (q - i) * g ^ j % p = 1 := by rw [Nat.mul_mod, ← h, ← Nat.mul_mod]; exact a1
  rw [← Nat.pow_add, show q - i + j = q + (j - i) by omega, Nat.pow_add, Nat.mul_mod, hg, Nat.one_mul, Nat.mod_mod] at a2
  have a3 := pow_gcd p1 _ _ hg a2
  rw [zp_cop hq (by rw [Nat.mod_eq_of_lt (by omega)]; omega), Nat.pow_one, Nat.mod_eq_of_lt g2] at a3
  omega
theorem php : ∀ (n : Nat) (f : Nat → Nat), (∀ i, i < n + 1 → f i < n) → (∀ i j, i < n + 1 → j < n + 1 → f i = f j → i = j) → False := by
  intro n
  induction n with
  | zero => intro f h _; exact absurd (h 0 (by omega)) (by omega)
  | succ n ih =>
    intro f h1 h2
    refine ih (fun i => if f i < f (n + 1) then f i else f i - 1) ?_ ?_
    · intro i hi
      have a := h1 i (by omega)
      have b := h1 (n + 1) (by omega)
      have c : f i ≠ f (n + 1) := fun z => by have := h2 i (n + 1) (by omega) (by omega) z; omega
      show (if f i < f (n + 1) then f i else f i - 1) < n
      split <;> omega
    · intro i j hi hj he
      have c : f i ≠ f (n + 1) := fun z => by have := h2 i (n + 1) (by omega) (by omega) z; omega
      have d : f j ≠ f (n + 1) := fun z => by have := h2 j (n + 1) (by omega) (by omega) z; omega
      have he : (if f i < f (n + 1) then f i else f i - 1) = (if f j < f (n + 1) then f j else f j - 1) := he
      refine h2 i j (by omega) (by omega) ?_
      split at he <;> split at he <;> omega
theorem zp_even {q : Nat} (h : zp q) (he : q % 2 = 0) : q = 2 := by
  by_cases h4 : 2 * 2 ≤ q
  · exact absurd he (h.2 2 (by omega) h4)
  · have := h.1
    omega
theorem m1_pow {p q : Nat} (h2 : 2 < p) (hq : q % 2 = 1) : (p - 1) ^ q % p = p - 1 := by
  have e : q = 2 * (q / 2) + 1 := by omega
  have s : (p - 1) ^ 2 % p = 1 := by
    obtain ⟨k, rfl⟩ : ∃ k, p = k + 2 := ⟨p - 2, by omega⟩
    rw [show k + 2 - 1 = k + 1 by omega, show (k + 1) ^ 2 = 1 + (k + 2) * k by rw [Nat.pow_two, Nat.add_mul, Nat.mul_add, Nat.add_mul]; omega, Nat.add_mul_mod_self_left]
    exact Nat.mod_eq_of_lt (by omega)
  rw [e, Nat.pow_add, Nat.mul_mod, pow_one (by omega) s, Nat.one_mul, Nat.mod_mod, Nat.pow_one]
  exact Nat.mod_eq_of_lt (by omega)
theorem grp_log {p q g : Nat} (G : grp p q g) {y : Nat} (y1 : 1 ≤ y) (y2 : y < p) (hy : y ^ q % p = 1) : ∃ x, x < q ∧ g ^ x % p = y := by
  obtain ⟨e, hp, hq, g1, g2, hg, hb⟩ := id G
  have p1 : 1 < p := hp.1
  have q2 : 2 ≤ q := hq.1
  by_cases hev : q % 2 = 0
  · have eq := zp_even hq hev
    subst eq
    subst e
    have hg' : g = 4 := by
      have : g = 2 ∨ g = 3 ∨ g = 4 := by omega
      rcases this with rfl | rfl | rfl <;> simp_all
    subst hg'
    have : y = 1 ∨ y = 2 ∨ y = 3 ∨ y = 4 := by omega
    rcases this with rfl | rfl | rfl | rfl
    · exact ⟨0, by omega, rfl⟩
    · simp at hy
    · simp at hy
    · exact ⟨1, by omega, rfl⟩
  · refine Classical.byContradiction fun hno => ?_
    have hno' : ∀ x, x < q → g ^ x % p ≠ y := fun x hx he => hno ⟨x, hx, he⟩
    have cross : ∀ i j, i < q → j < q → g ^ i % p = y * g ^ j % p → False := by
      intro i j hi hj he
      have h1 : y * g ^ j * g ^ (q - j) % p = y := by
        rw [Nat.mul_assoc, ← Nat.pow_add, show j + (q - j) = q by omega, Nat.mul_mod, hg, Nat.mul_one, Nat.mod_mod, Nat.mod_eq_of_lt y2]
      rw [Nat.mul_mod, ← he, ← Nat.mul_mod, ← Nat.pow_add] at h1
      by_cases hle : q ≤ i + (q - j)
      · rw [show i + (q - j) = q + (i - j) by omega, Nat.pow_add, Nat.mul_mod, hg, Nat.one_mul, Nat.mod_mod] at h1
        exact hno' (i - j) (by omega) h1
      · exact hno' _ (by omega) h1
    have hm : ∀ k, (g ^ k) ^ q % p = 1 := fun k => by rw [← Nat.pow_mul, Nat.mul_comm]; exact pow_one p1 hg k
    refine php (2 * q - 1) (fun k => if k < q then g ^ k % p - 1 else y * g ^ (k - q) % p - 1) ?_ ?_
    · intro k hk
      have pos : ∀ z, z ^ q % p = 1 → z % p ≠ 0 ∧ z % p ≠ p - 1 := by
        intro z hz
        refine ⟨fun h0 => ?_, fun h0 => ?_⟩
        · rw [Nat.pow_mod, h0, Nat.zero_pow (by omega), Nat.zero_mod] at hz
          omega
        · rw [Nat.pow_mod, h0, m1_pow (by omega) (by omega)] at hz
          omega
      have lt : ∀ z, z % p < p := fun z => Nat.mod_lt _ (by omega)
      show (if k < q then g ^ k % p - 1 else y * g ^ (k - q) % p - 1) < 2 * q - 1
      split
      · have a := pos (g ^ k) (hm k)
        have b := lt (g ^ k)
        omega
      · have a := pos (y * g ^ (k - q)) (by rw [Nat.mul_pow, Nat.mul_mod, hy, hm, Nat.one_mul]; exact Nat.mod_eq_of_lt p1)
        have b := lt (y * g ^ (k - q))
        omega
    · intro i j hi hj he
      have he : (if i < q then g ^ i % p - 1 else y * g ^ (i - q) % p - 1) = (if j < q then g ^ j % p - 1 else y * g ^ (j - q) % p - 1) := he
      have nz1 : ∀ k, 0 < g ^ k % p := fun k => Nat.pos_of_ne_zero fun h0 => by
        have := hm k
        rw [Nat.pow_mod, h0, Nat.zero_pow (by omega), Nat.zero_mod] at this
        omega
      have nz2 : ∀ k, 0 < y * g ^ k % p := fun k => Nat.pos_of_ne_zero fun h0 => by
        have : (y * g ^ k) ^ q % p = 1 := by rw [Nat.mul_pow, Nat.mul_mod, hy, hm, Nat.one_mul]; exact Nat.mod_eq_of_lt p1
        rw [Nat.pow_mod, h0, Nat.zero_pow (by omega), Nat.zero_mod] at this
        omega
      have inj : ∀ i j, i < q → j < q → g ^ i % p = g ^ j % p → i = j := by
        intro i j hi hj h
        rcases Nat.lt_trichotomy i j with h3 | h3 | h3
        · exact (grp_inj G h3 hj h).elim
        · exact h3
        · exact (grp_inj G h3 hi h.symm).elim
      split at he <;> split at he
      · exact inj i j (by omega) (by omega) (by have := nz1 i; have := nz1 j; omega)
      · exact (cross i (j - q) (by omega) (by omega) (by have := nz1 i; have := nz2 (j - q); omega)).elim
      · exact (cross j (i - q) (by omega) (by omega) (by have := nz1 j; have := nz2 (i - q); omega)).elim
      · have h3 : y * g ^ (i - q) % p = y * g ^ (j - q) % p := by have := nz2 (i - q); have := nz2 (j - q); omega
        have cn : ∀ z, y ^ (q - 1) * (y * z) % p = z % p := fun z => by
          rw [← Nat.mul_assoc, ← Nat.pow_succ, show (q - 1).succ = q by omega, Nat.mul_mod, hy, Nat.one_mul, Nat.mod_mod]
        have h4 : g ^ (i - q) % p = g ^ (j - q) % p := by rw [← cn, ← cn (g ^ (j - q)), Nat.mul_mod, h3, ← Nat.mul_mod]
        have := inj (i - q) (j - q) (by omega) (by omega) h4
        omega
/-- trial by the neighbours of multiples of 6 -/
theorem six_step {n d : Nat} (h2 : n % 2 ≠ 0) (h3 : n % 3 ≠ 0) (hd : d % 6 = 5) (h : ∀ k, 2 ≤ k → k < d → n % k ≠ 0) (a : n % d ≠ 0) (b : n % (d + 2) ≠ 0) : ∀ k, 2 ≤ k → k < d + 6 → n % k ≠ 0 := by
  intro k hk hlt hz
  have dv : ∀ r, r ∣ k → n % r = 0 := fun r hr => Nat.mod_eq_zero_of_dvd (Nat.dvd_trans hr (Nat.dvd_of_mod_eq_zero hz))
  by_cases hkd : k < d
  · exact h k hk hkd hz
  · have : k = d ∨ k = d + 1 ∨ k = d + 2 ∨ k = d + 3 ∨ k = d + 4 ∨ k = d + 5 := by omega
    rcases this with rfl | rfl | rfl | rfl | rfl | rfl
    · exact a hz
    · exact h2 (dv 2 (Nat.dvd_of_mod_eq_zero (by omega)))
    · exact b hz
    · exact h2 (dv 2 (Nat.dvd_of_mod_eq_zero (by omega)))
    · exact h3 (dv 3 (Nat.dvd_of_mod_eq_zero (by omega)))
    · exact h2 (dv 2 (Nat.dvd_of_mod_eq_zero (by omega)))
theorem six_no2 {n d : Nat} (h5 : 5 ≤ d) (hd : d * d ≤ n) (b : n % (d + 2) = 0) : ¬ zp n := by
  intro h
  have h1 : 5 * d ≤ d * d := Nat.mul_le_mul_right d h5
  rcases zp_dvd h (Nat.dvd_of_mod_eq_zero b) with h2 | h2 <;> omega
theorem zp_of_lt {n d : Nat} (h2 : 2 ≤ n) (hd : n < d * d) (h : ∀ k, 2 ≤ k → k < d → n % k ≠ 0) : zp n := by
  refine ⟨h2, fun k hk hkk => h k hk ?_⟩
  refine Nat.lt_of_not_le fun hle => ?_
  have := Nat.mul_le_mul hle hle
  omega
/-- a step of the power by squares, from the low bit -/
theorem pw_step {r b e m : Nat} : r * b ^ e % m = (if e % 2 = 1 then r * b % m else r) * (b * b % m) ^ (e / 2) % m := by
  have e1 : b ^ e = (b * b) ^ (e / 2) * b ^ (e % 2) := by
    rw [← Nat.pow_two, ← Nat.pow_mul, ← Nat.pow_add, Nat.div_add_mod]
  have e2 : ∀ x, x * (b * b % m) ^ (e / 2) % m = x * (b * b) ^ (e / 2) % m := fun x => by
    rw [Nat.mul_mod, ← Nat.pow_mod, ← Nat.mul_mod]
  rcases Nat.mod_two_eq_zero_or_one e with h | h
  · rw [if_neg (by omega), e2, e1, h, Nat.pow_zero, Nat.mul_one]
  · rw [if_pos h, e2, e1, h, Nat.pow_one, Nat.mod_mul_mod, Nat.mul_comm ((b * b) ^ (e / 2)) b, Nat.mul_assoc]
/-- .. from the high bit -/
theorem pw_high {a e m k : Nat} : a ^ (e / 2 ^ k) % m = (if e / 2 ^ k % 2 = 1 then (a ^ (e / 2 ^ (k + 1)) % m) * (a ^ (e / 2 ^ (k + 1)) % m) % m * a % m else (a ^ (e / 2 ^ (k + 1)) % m) * (a ^ (e / 2 ^ (k + 1)) % m) % m) := by
  have e0 : e / 2 ^ (k + 1) = e / 2 ^ k / 2 := by rw [Nat.pow_succ, Nat.div_div_eq_div_mul]
  rw [e0]
  generalize e / 2 ^ k = f
  have e1 : f = f / 2 + f / 2 + f % 2 := by omega
  have e2 : a ^ (f / 2) % m * (a ^ (f / 2) % m) % m = a ^ (f / 2 + f / 2) % m := by rw [← Nat.mul_mod, ← Nat.pow_add]
  rw [e2]
  rcases Nat.mod_two_eq_zero_or_one f with h | h
  · rw [if_neg (by omega), show f / 2 + f / 2 = f by omega]
  · rw [if_pos h, Nat.mod_mul_mod, ← Nat.pow_succ, show (f / 2 + f / 2).succ = f by omega]
