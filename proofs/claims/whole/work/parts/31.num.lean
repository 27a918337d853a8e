/-! numbers -/
def inI (x : Int32) (n : Nat) : Bool := decide (0 ≤ x.toInt ∧ x.toInt < (n : Int))
def bz (b : Bool) : Int32 := if b = true then 1 else 0
theorem bz_e {b : Bool} : bz b = 0 ↔ b = false := by cases b <;> decide
theorem bz_1 {b : Bool} : bz b = 1 ↔ b = true := by cases b <;> decide
theorem ckz_bz (b : Bool) : ckz (bz b) = true := by cases b <;> rfl
theorem inI_j {x : Int32} {n : Nat} (h : inI x n = true) (hn : n < 2 ^ 31) : ∃ j : Nat, j < n ∧ x = nI j := by
  have h := of_decide_eq_true h
  refine ⟨x.toInt.toNat, by omega, ?_⟩
  apply Int32.toInt_inj.mp
  rw [nI_toInt (by omega)]
  omega
theorem inI_n {j n : Nat} (h : j < n) (hn : n < 2 ^ 31) : inI (nI j) n = true := by
  unfold inI
  rw [nI_toInt (by omega)]
  exact decide_eq_true ⟨by omega, by omega⟩
theorem inI_f {j n : Nat} (h : ¬ j < n) (hj : j < 2 ^ 31) : inI (nI j) n = false := by
  unfold inI
  rw [nI_toInt (by omega)]
  exact decide_eq_false (by omega)
theorem ckb_n {j n : Nat} (h : j < n) (hn : n < 2 ^ 31) : ckb (nI j) n = true := by
  unfold ckb
  rw [nI_clamp (by omega)]
  simp [h, nI_pos (show j < 2 ^ 31 by omega)]
theorem lt0_iff (x : Int32) : x < 0 ↔ x.toInt < 0 := by rw [Int32.lt_iff_toInt_lt, Int32.toInt_zero]
theorem has_core (μ : Mm) (x : Int32) (n : Nat) (hn : n < 2 ^ 31) : (if x < 0 then some ((0 : Int32), μ) else if nI n ≤ x then some ((0 : Int32), μ) else some ((1 : Int32), μ)) = some (bz (inI x n), μ) := by
  by_cases h : x < 0
  · rw [if_pos h]
    have h1 := (lt0_iff x).mp h
    have : inI x n = false := decide_eq_false (by omega)
    rw [this]; rfl
  · rw [if_neg h]
    have h1 : ¬ x.toInt < 0 := fun q => h ((lt0_iff x).mpr q)
    by_cases h2 : nI n ≤ x
    · rw [if_pos h2]
      rw [Int32.le_iff_toInt_le, nI_toInt hn] at h2
      have : inI x n = false := decide_eq_false (by omega)
      rw [this]; rfl
    · rw [if_neg h2]
      rw [Int32.le_iff_toInt_le, nI_toInt hn] at h2
      have : inI x n = true := decide_eq_true ⟨by omega, by omega⟩
      rw [this]; rfl
theorem toInt64_le (x y : Int32) : x.toInt64 ≤ y.toInt64 ↔ x ≤ y := by
  rw [Int64.le_iff_toInt_le, Int32.le_iff_toInt_le, Int32.toInt_toInt64, Int32.toInt_toInt64]
theorem toInt64_lt (x y : Int32) : x.toInt64 < y.toInt64 ↔ x < y := by
  rw [Int64.lt_iff_toInt_lt, Int32.lt_iff_toInt_lt, Int32.toInt_toInt64, Int32.toInt_toInt64]
theorem in_core (μ : Mm) (x lo hi : Int32) : f_X10_in μ x.toInt64 lo.toInt64 hi.toInt64 = some (bz (decide (lo ≤ x) && decide (x ≤ hi)), μ) := by
  unfold f_X10_in
  by_cases h1 : x < lo
  · rw [if_pos ((lg_cmp_lt _ _).mpr ((toInt64_lt _ _).mpr h1))]
    rw [Int32.lt_iff_toInt_lt] at h1
    have : decide (lo ≤ x) = false := decide_eq_false (by rw [Int32.le_iff_toInt_le]; omega)
    rw [this]; rfl
  · rw [if_neg (fun q => h1 ((toInt64_lt _ _).mp ((lg_cmp_lt _ _).mp q)))]
    rw [Int32.lt_iff_toInt_lt] at h1
    have e1 : decide (lo ≤ x) = true := decide_eq_true (by rw [Int32.le_iff_toInt_le]; omega)
    by_cases h2 : hi < x
    · rw [if_pos ((lg_cmp_gt _ _).mpr ((toInt64_lt _ _).mpr h2))]
      rw [Int32.lt_iff_toInt_lt] at h2
      have : decide (x ≤ hi) = false := decide_eq_false (by rw [Int32.le_iff_toInt_le]; omega)
      rw [this, e1]; rfl
    · rw [if_neg (fun q => h2 ((toInt64_lt _ _).mp ((lg_cmp_gt _ _).mp q)))]
      rw [Int32.lt_iff_toInt_lt] at h2
      have : decide (x ≤ hi) = true := decide_eq_true (by rw [Int32.le_iff_toInt_le]; omega)
      rw [this, e1]; rfl
theorem nI_m1 {n : Nat} (hn : n < 2 ^ 31) : (nI n - 1).toInt = (n : Int) - 1 := by
  have := Int32.toInt_sub (nI n) 1
  rw [this, nI_toInt hn]
  have h1 : (1 : Int32).toInt = 1 := rfl
  rw [h1]
  rw [Int.bmod_eq_of_le] <;> omega
/-- in(x, 0, n - 1) -/
theorem in_n (μ : Mm) (x : Int32) {n : Nat} (hn : n < 2 ^ 31) : f_X10_in μ x.toInt64 (0 : Int64) ((nI n - 1).toInt64) = some (bz (inI x n), μ) := by
  have h := in_core μ x 0 (nI n - 1)
  refine Eq.trans h ?_
  congr 3
  unfold inI
  rw [← Bool.decide_and]
  apply decide_eq_decide.mpr
  rw [Int32.le_iff_toInt_le, Int32.le_iff_toInt_le, nI_m1 hn, Int32.toInt_zero]
  omega
/-- in(x, 0, m) by a literal -/
theorem in_lit (μ : Mm) (x : Int32) (m : Int64) (n : Nat) (hm : m = (nI n).toInt64) (hn : n + 1 < 2 ^ 31) : f_X10_in μ x.toInt64 (0 : Int64) m = some (bz (inI x (n + 1)), μ) := by
  have h := in_core μ x 0 (nI n)
  rw [hm]
  refine Eq.trans h ?_
  congr 3
  unfold inI
  rw [← Bool.decide_and]
  apply decide_eq_decide.mpr
  rw [Int32.le_iff_toInt_le, Int32.le_iff_toInt_le, nI_toInt (by omega), Int32.toInt_zero]
  omega
/-! sets of small numbers -/
def cn (p : Nat → Bool) : Nat → Nat
  | 0 => 0
  | n + 1 => cn p n + (if p n = true then 1 else 0)
theorem cn_le (p : Nat → Bool) : ∀ n, cn p n ≤ n
  | 0 => Nat.le_refl _
  | n + 1 => by
    have := cn_le p n
    show cn p n + _ ≤ _
    split <;> omega
theorem cn_cong {p q : Nat → Bool} : ∀ {n : Nat}, (∀ k, k < n → p k = q k) → cn p n = cn q n
  | 0, _ => rfl
  | n + 1, h => by
    show cn p n + _ = cn q n + _
    rw [cn_cong (fun k hk => h k (by omega)), h n (by omega)]
theorem cn_cut {p : Nat → Bool} {n : Nat} : ∀ {N : Nat}, n ≤ N → cn (fun k => decide (k < n) && p k) N = cn p n
  | 0, h => by
    have : n = 0 := by omega
    subst this; rfl
  | N + 1, h => by
    rcases Nat.lt_or_ge N n with q | q
    · have e : n = N + 1 := by omega
      subst e
      exact cn_cong (fun k hk => by simp [hk])
    · show cn _ N + _ = _
      rw [cn_cut q]
      have : ¬ N < n := by omega
      simp [this]
def bset (f : Nat → Bool) : Nat → Nat
  | 0 => 0
  | n + 1 => bset f n ||| (if f n = true then 2 ^ n else 0)
theorem bset_lt (f : Nat → Bool) : ∀ n, bset f n < 2 ^ n
  | 0 => by simp [bset]
  | n + 1 => by
    show bset f n ||| _ < _
    have h := bset_lt f n
    apply Nat.or_lt_two_pow
    · rw [Nat.pow_succ]; omega
    · split
      · rw [Nat.pow_succ]; have := Nat.two_pow_pos n; omega
      · exact Nat.two_pow_pos _
theorem bset_bit (f : Nat → Bool) (p : Nat) : ∀ n, (bset f n).testBit p = (decide (p < n) && f p)
  | 0 => by simp [bset]
  | n + 1 => by
    show (bset f n ||| _).testBit p = _
    rw [Nat.testBit_or, bset_bit f p n]
    by_cases h : p = n
    · subst h
      by_cases hf : f p = true
      · simp [hf, Nat.testBit_two_pow_self]
      · simp [hf]
    · have h2 : (if f n = true then 2 ^ n else 0).testBit p = false := by
        split
        · rw [Nat.testBit_two_pow]; simp; omega
        · simp
      rw [h2]
      by_cases hp : p < n
      · simp [hp, show p < n + 1 by omega]
      · simp [hp, show ¬ p < n + 1 by omega]
theorem bset_cong {f g : Nat → Bool} : ∀ {n : Nat}, (∀ k, k < n → f k = g k) → bset f n = bset g n
  | 0, _ => rfl
  | n + 1, h => by
    show bset f n ||| _ = bset g n ||| _
    rw [bset_cong (fun k hk => h k (by omega)), h n (by omega)]
theorem nI_or (a b : Nat) : nI a ||| nI b = nI (a ||| b) := by
  apply Int32.toBitVec_inj.mp
  show BitVec.ofNat 32 a ||| BitVec.ofNat 32 b = BitVec.ofNat 32 (a ||| b)
  rw [BitVec.ofNat_or]
theorem nI_and (a b : Nat) : nI a &&& nI b = nI (a &&& b) := by
  apply Int32.toBitVec_inj.mp
  show BitVec.ofNat 32 a &&& BitVec.ofNat 32 b = BitVec.ofNat 32 (a &&& b)
  rw [BitVec.ofNat_and]
theorem shl_p : ∀ p, p < 31 → (1 : Int32) <<< (nI p &&& 31) = nI (2 ^ p) := by decide +kernel
theorem smod_p : ∀ p, p < 31 → ((nI p &&& 31).toBitVec.smod 32).toNat = p := by decide +kernel
theorem shr_bit {m p : Nat} (hm : m < 2 ^ 31) (hp : p < 31) : (nI m >>> (nI p &&& 31)) &&& 1 = nI (m / 2 ^ p % 2) := by
  rw [pk_shrN hm (nI p &&& 31) p (smod_p p hp)]
  exact pk_andN (Nat.lt_of_le_of_lt (Nat.div_le_self _ _) (by omega)) (m := 1) 1 (by decide)
theorem bit_01 {m p : Nat} (hm : m < 2 ^ 31) (hp : p < 31) : (nI m >>> (nI p &&& 31)) &&& 1 = bz (m.testBit p) := by
  rw [shr_bit hm hp, Nat.testBit_eq_decide_div_mod_eq]
  rcases Nat.mod_two_eq_zero_or_one (m / 2 ^ p) with h | h
  · rw [h]; rfl
  · rw [h]; rfl
theorem bset_nI (f : Nat → Bool) {n : Nat} (hn : n < 31) : nI (bset f n) ||| (if f n = true then (1 : Int32) <<< (nI n &&& 31) else 0) = nI (bset f (n + 1)) := by
  show _ = nI (bset f n ||| _)
  rw [← nI_or, shl_p n hn]
  split
  · rfl
  · rfl
def pc (m : Nat) : Nat := cn (m.testBit) 7
theorem pc_bset (f : Nat → Bool) {n : Nat} (hn : n ≤ 7) : pc (bset f n) = cn f n := by
  unfold pc
  rw [← cn_cut (p := f) hn]
  exact cn_cong (fun k _ => bset_bit f k n)
def bcv (x0 : Int32) : Int32 :=
  (fun v1 : Int32 => (fun v2 : Int32 => (fun v3 : Int32 => (fun v4 : Int32 => (fun v5 : Int32 => v5 &&& (63 : Int32)) (v4 + ((v4.toUInt32 >>> ((16 : Int32).toUInt32 &&& Int32.toUInt32 31)).toInt32))) (v3 + ((v3.toUInt32 >>> ((8 : Int32).toUInt32 &&& Int32.toUInt32 31)).toInt32))) ((v2 + ((v2.toUInt32 >>> ((4 : Int32).toUInt32 &&& Int32.toUInt32 31)).toInt32)) &&& (252645135 : Int32))) ((v1 &&& (858993459 : Int32)) + (((v1.toUInt32 >>> ((2 : Int32).toUInt32 &&& Int32.toUInt32 31)).toInt32) &&& (858993459 : Int32)))) (x0 - (((x0.toUInt32 >>> ((1 : Int32).toUInt32 &&& Int32.toUInt32 31)).toInt32) &&& (1431655765 : Int32)))
theorem bcv_all : ∀ m, m < 128 → bcv (nI m) = nI (pc m) := by decide +kernel
theorem bc_eq (μ : Mm) {m : Nat} (hm : m < 128) : f_J6_bitCount_0f7a4 μ (nI m) = some (nI (pc m), μ) := by
  rw [← bcv_all m hm]
  rfl
def btv (x0 : Int32) : Int32 := (((((((0 : Int32) + ((x0 >>> ((0 : Int32) &&& 31)) &&& (1 : Int32))) + ((x0 >>> ((0 + 1 : Int32) &&& 31)) &&& (1 : Int32))) + ((x0 >>> ((0 + 1 + 1 : Int32) &&& 31)) &&& (1 : Int32))) + ((x0 >>> ((0 + 1 + 1 + 1 : Int32) &&& 31)) &&& (1 : Int32))) + ((x0 >>> ((0 + 1 + 1 + 1 + 1 : Int32) &&& 31)) &&& (1 : Int32))) + ((x0 >>> ((0 + 1 + 1 + 1 + 1 + 1 : Int32) &&& 31)) &&& (1 : Int32))) + ((x0 >>> ((0 + 1 + 1 + 1 + 1 + 1 + 1 : Int32) &&& 31)) &&& (1 : Int32))
theorem btv_all : ∀ m, m < 128 → btv (nI m) = nI (pc m) := by decide +kernel
theorem bt_eq (μ : Mm) {m : Nat} (hm : m < 128) : f_X10_bits μ (nI m) = some (nI (pc m), μ) := by
  rw [← btv_all m hm]
  rfl
