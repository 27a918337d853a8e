/-! spread, item, waltz -/
def anyF (S : Nat) : Nat → Bool
  | 0 => false
  | k + 1 => anyF S k || S.testBit k
def loF (S : Nat) (H : Nat → Nat) : Nat → Nat
  | 0 => 9
  | k + 1 => if S.testBit k = true then (if H k < loF S H k then H k else loF S H k) else loF S H k
def hiF (S : Nat) (H : Nat → Nat) : Nat → Nat
  | 0 => 0
  | k + 1 => if S.testBit k = true then (if hiF S H k < H k then H k else hiF S H k) else hiF S H k
theorem lo_le (S : Nat) (H : Nat → Nat) : ∀ k, loF S H k ≤ 9
  | 0 => Nat.le_refl 9
  | k + 1 => by
    have := lo_le S H k
    unfold loF
    split
    · split <;> omega
    · omega
theorem hi_le (S : Nat) {H : Nat → Nat} (hH : ∀ c, H c ≤ 9) : ∀ k, hiF S H k ≤ 9
  | 0 => Nat.zero_le 9
  | k + 1 => by
    have := hi_le S hH k
    have := hH k
    unfold hiF
    split
    · split <;> omega
    · omega
theorem any_f (S : Nat) (H : Nat → Nat) : ∀ k, anyF S k = false → loF S H k = 9 ∧ hiF S H k = 0
  | 0, _ => ⟨rfl, rfl⟩
  | k + 1, q => by
    have q : (anyF S k || S.testBit k) = false := q
    rw [Bool.or_eq_false_iff] at q
    have h := any_f S H k q.1
    unfold loF hiF
    rw [q.2]
    exact h
theorem any_t (S : Nat) {H : Nat → Nat} (hH : ∀ c, H c ≤ 9) : ∀ k, anyF S k = true → loF S H k ≤ hiF S H k
  | 0, q => Bool.noConfusion (show false = true from q)
  | k + 1, q => by
    have q : (anyF S k || S.testBit k) = true := q
    have hk := hH k
    unfold loF hiF
    by_cases b : S.testBit k = true
    · rw [if_pos b, if_pos b]
      by_cases a : anyF S k = true
      · have h := any_t S hH k a
        split <;> split <;> omega
      · have h := any_f S H k (by simpa using a)
        rw [h.1, h.2]
        split <;> split <;> omega
    · rw [if_neg b, if_neg b]
      exact any_t S hH k (by simpa [b] using q)
def loM (S : Nat) (H : Nat → Nat) (k : Nat) : Int32 := if anyF S k = true then nI (loF S H k) else 1000
def hiM (S : Nat) (H : Nat → Nat) (k : Nat) : Int32 := if anyF S k = true then nI (hiF S H k) else -1
theorem d_lo : ∀ v, v < 10 → ¬ (1000 : Int32) ≤ nI v := by decide +kernel
theorem d_hi : ∀ v, v < 10 → ¬ nI v ≤ (-1 : Int32) := by decide +kernel
theorem d_sp : ∀ a, a < 10 → ∀ b, b < 10 → (if (0 : Int32) < nI a - nI b then nI a - nI b else (0 : Int32)) = nI (a - b) := by decide +kernel
theorem d_sq : ∀ a, a < 10 → ∀ b, b < 10 → (!(decide (b ≤ a)) || decide (nI a - nI b = nI (a - b))) = true := by decide +kernel
theorem d_s0 : ∀ a, a < 10 → (0 : Int32) ≤ nI a := by decide +kernel
theorem anyF_s (S k : Nat) : anyF S (k + 1) = (anyF S k || S.testBit k) := rfl
theorem loF_s (S k : Nat) (H : Nat → Nat) : loF S H (k + 1) = if S.testBit k = true then (if H k < loF S H k then H k else loF S H k) else loF S H k := rfl
theorem hiF_s (S k : Nat) (H : Nat → Nat) : hiF S H (k + 1) = if S.testBit k = true then (if hiF S H k < H k then H k else hiF S H k) else hiF S H k := rfl
theorem loM_s (S : Nat) {H : Nat → Nat} (hH : ∀ c, H c ≤ 9) (k : Nat) : loM S H (k + 1) = if S.testBit k = true then (if loM S H k ≤ nI (H k) then loM S H k else nI (H k)) else loM S H k := by
  have hk := hH k
  have hl := lo_le S H k
  unfold loM
  rw [anyF_s, loF_s]
  by_cases b : S.testBit k = true
  · rw [if_pos b, if_pos b, b, Bool.or_true, if_pos rfl]
    by_cases a : anyF S k = true
    · rw [if_pos a]
      by_cases c : H k < loF S H k
      · rw [if_pos c, if_neg (nI_ge c (by omega))]
      · rw [if_neg c, if_pos (nI_le (by omega) (by omega))]
    · rw [if_neg a, if_neg (d_lo _ (by omega)), (any_f S H k (by simpa using a)).1]
      by_cases c : H k < 9
      · rw [if_pos c]
      · rw [if_neg c, show H k = 9 by omega]
  · rw [if_neg b, if_neg b, show S.testBit k = false by simpa using b, Bool.or_false]
theorem hiM_s (S : Nat) {H : Nat → Nat} (hH : ∀ c, H c ≤ 9) (k : Nat) : hiM S H (k + 1) = if S.testBit k = true then (if nI (H k) ≤ hiM S H k then hiM S H k else nI (H k)) else hiM S H k := by
  have hk := hH k
  have hl := hi_le S hH k
  unfold hiM
  rw [anyF_s, hiF_s]
  by_cases b : S.testBit k = true
  · rw [if_pos b, if_pos b, b, Bool.or_true, if_pos rfl]
    by_cases a : anyF S k = true
    · rw [if_pos a]
      by_cases c : hiF S H k < H k
      · rw [if_pos c, if_neg (nI_ge c (by omega))]
      · rw [if_neg c, if_pos (nI_le (by omega) (by omega))]
    · rw [if_neg a, if_neg (d_hi _ (by omega)), (any_f S H k (by simpa using a)).2]
      by_cases c : 0 < H k
      · rw [if_pos c]
      · rw [if_neg c, show H k = 0 by omega]
  · rw [if_neg b, if_neg b, show S.testBit k = false by simpa using b, Bool.or_false]
theorem spread_loop {σ : St} {P Q S : Nat} {s : Nat → Nat} {μ : Mm} (y : HY σ P Q μ) (hx : CX μ (sH σ) s) (hS : S < 2 ^ 31) : ∀ (m k f : Nat), k + m = hZ (sH σ) → m < f →
    f_X9_spread_L8 f μ 0 (nI S) (nI (loF S (hgt (sH σ) s) k)) (nI (hiF S (hgt (sH σ) s) k)) (nI k) = some (nI (hiF S (hgt (sH σ) s) (hZ (sH σ)) - loF S (hgt (sH σ) s) (hZ (sH σ))), μ) := by
  have hz := y.hk.z
  have hH : ∀ c, hgt (sH σ) s c ≤ 9 := hgt_le y.hk s
  intro m
  induction m with
  | zero =>
    intro k f hkm hf
    obtain ⟨f, rfl⟩ := fs1 hf
    have h1 := lo_le S (hgt (sH σ) s) k
    have h2 := hi_le S hH k
    show f_X9_spread_L8b _ _ _ _ _ _ _ = _
    unfold f_X9_spread_L8b
    rw [rd y.2.1 (rt_p P Q), bR_s, y.ch.2.2.1, if_pos (nI_le (by omega) (by omega)), d_sp _ (by omega) _ (by omega), show k = hZ (sH σ) by omega]
  | succ m ih =>
    intro k f hkm hf
    obtain ⟨f, rfl⟩ := fs1 hf
    have h1 := lo_le S (hgt (sH σ) s) k
    have h2 := hi_le S hH k
    have h3 := hH k
    rw [← ih (k + 1) f (by omega) (by omega), loF_s, hiF_s]
    show f_X9_spread_L8b _ _ _ _ _ _ _ = _
    unfold f_X9_spread_L8b f_X9_spread_j57
    rw [rd y.2.1 (rt_p P Q), bR_s, y.ch.2.2.1, if_neg (nI_ge (by omega) (by omega)), bit_01 hS (by omega), nI_p1]
    by_cases b : S.testBit k = true
    · rw [if_neg (bz_t b), if_pos b, if_pos b, rd y.2.1 (rt_0_10 P Q), bR_s, hl_height y.hk y.2.1 hx (by omega), bC_s, bI_s, rd y.2.1 (rt_0_10 P Q), bR_s, hl_height y.hk y.2.1 hx (by omega), bC_s, bI_s]
      congr 1
      · by_cases c : hgt (sH σ) s k < loF S (hgt (sH σ) s) k
        · rw [if_pos c, if_pos (nI_lt c (by omega))]
        · rw [if_neg c, if_neg (nI_nlt (by omega) (by omega))]
      · by_cases c : hiF S (hgt (sH σ) s) k < hgt (sH σ) s k
        · rw [if_pos c, if_pos (nI_lt c (by omega))]
        · rw [if_neg c, if_neg (nI_nlt (by omega) (by omega))]
    · rw [if_pos (bz_f (by simpa using b)), if_neg b, if_neg b]
theorem spread_eq {σ : St} {P Q S : Nat} {s : Nat → Nat} {μ : Mm} (y : HY σ P Q μ) (hx : CX μ (sH σ) s) (hS : S < 2 ^ 31) :
    f_X9_spread μ 0 (nI S) = some (nI (hiF S (hgt (sH σ) s) (hZ (sH σ)) - loF S (hgt (sH σ) s) (hZ (sH σ))), μ) :=
  spread_loop y hx hS (hZ (sH σ)) 0 FU (by omega) (by rw [FU_eq]; have := y.hk.z; omega)
theorem has_eq (μ : Mm) {S p : Nat} (hS : S < 2 ^ 31) (hp : p < 31) : f_X10_has μ (nI S) (nI p) = some (bz (S.testBit p), μ) := by
  unfold f_X10_has
  rw [bit_01 hS hp]
  by_cases b : S.testBit p = true
  · rw [b]; rfl
  · rw [show S.testBit p = false by simpa using b]; rfl
theorem sp53 {σ : St} {P Q S k : Nat} {s : Nat → Nat} {μ : Mm} (y : HY σ P Q μ) (hg : MG μ (sH σ) s) (hS : S < 2 ^ 31) (hk : k < hZ (sH σ)) (rc : Mm → Nat → Int32 → Int32 → Int32 → Int32 → Option (Int32 × Mm)) (lo hi : Int32) :
    f_X10_spreadOf_j53 rc μ 107 (nI S) hi (nI k) lo = rc μ 107 (nI S) lo (if S.testBit k = true then (if nI (hgt (sH σ) s k) ≤ hi then hi else nI (hgt (sH σ) s k)) else hi) (nI (k + 1)) := by
  have hz := y.hk.z
  have hcb : ckb (nI k) (ln 121) = true := ckb_n (show k < 20 by omega) (by decide)
  unfold f_X10_spreadOf_j53 f_X10_spreadOf_j84 f_X10_spreadOf_j85
  rw [has_eq μ hS (by omega), bC_s, nI_p1]
  by_cases b : S.testBit k = true
  · rw [if_neg (bz_t b), if_pos b, rd y.2.1 (rt_107_26 P Q), bR_s, hcb, gd_t, nI_clamp (by omega), hg k (by omega)]
    by_cases d : nI (hgt (sH σ) s k) ≤ hi
    · rw [if_pos d, if_pos d]
    · rw [if_neg d, if_neg d, bR_s, hcb, gd_t, hg k (by omega)]
  · rw [if_pos (bz_f (by simpa using b)), if_neg b]
theorem mspread_loop {σ : St} {P Q S : Nat} {s : Nat → Nat} {μ : Mm} (y : HY σ P Q μ) (hg : MG μ (sH σ) s) (hS : S < 2 ^ 31) : ∀ (m k f : Nat), k + m = hZ (sH σ) → m < f →
    f_X10_spreadOf_L13 f μ 107 (nI S) (loM S (hgt (sH σ) s) k) (hiM S (hgt (sH σ) s) k) (nI k) = some (nI (hiF S (hgt (sH σ) s) (hZ (sH σ)) - loF S (hgt (sH σ) s) (hZ (sH σ))), μ) := by
  have hz := y.hk.z
  have hH : ∀ c, hgt (sH σ) s c ≤ 9 := hgt_le y.hk s
  intro m
  induction m with
  | zero =>
    intro k f hkm hf
    obtain ⟨f, rfl⟩ := fs1 hf
    have h1 := lo_le S (hgt (sH σ) s) k
    have h2 := hi_le S hH k
    show f_X10_spreadOf_L13b _ _ _ _ _ _ _ = _
    unfold f_X10_spreadOf_L13b
    rw [mcells_eq y.mh, bC_s, if_pos (nI_le (by omega) (by omega)), ← show k = hZ (sH σ) by omega]
    unfold loM hiM
    by_cases a : anyF S k = true
    · have h3 := any_t S hH k a
      have h4 := d_sq _ (show hiF S (hgt (sH σ) s) k < 10 by omega) _ (show loF S (hgt (sH σ) s) k < 10 by omega)
      rw [if_pos a, if_pos a, if_pos (d_s0 _ (by omega))]
      rw [decide_eq_true h3] at h4
      have h4 : nI (hiF S (hgt (sH σ) s) k) - nI (loF S (hgt (sH σ) s) k) = nI (hiF S (hgt (sH σ) s) k - loF S (hgt (sH σ) s) k) := by simpa using h4
      rw [h4]
    · have h5 := any_f S (hgt (sH σ) s) k (by simpa using a)
      rw [if_neg a, if_neg a, if_neg (by decide), h5.1, h5.2]
      rfl
  | succ m ih =>
    intro k f hkm hf
    obtain ⟨f, rfl⟩ := fs1 hf
    have h3 := hH k
    have hcb : ckb (nI k) (ln 121) = true := ckb_n (show k < 20 by omega) (by decide)
    rw [← ih (k + 1) f (by omega) (by omega), loM_s S hH, hiM_s S hH]
    show f_X10_spreadOf_L13b _ _ _ _ _ _ _ = _
    unfold f_X10_spreadOf_L13b f_X10_spreadOf_j52
    rw [mcells_eq y.mh, bC_s, if_neg (nI_ge (by omega) (by omega)), has_eq μ hS (by omega), bC_s]
    by_cases b : S.testBit k = true
    · rw [if_neg (bz_t b), if_pos b, rd y.2.1 (rt_107_26 P Q), bR_s, hcb, gd_t, nI_clamp (by omega), hg k (by omega)]
      by_cases c : loM S (hgt (sH σ) s) k ≤ nI (hgt (sH σ) s k)
      · rw [if_pos c, if_pos c]
        exact sp53 y hg hS (by omega) _ _ _
      · rw [if_neg c, if_neg c, bR_s, hcb, gd_t, hg k (by omega)]
        exact sp53 y hg hS (by omega) _ _ _
    · rw [if_pos (bz_f (by simpa using b)), if_neg b]
      exact sp53 y hg hS (by omega) _ _ _
theorem mspread_eq {σ : St} {P Q S : Nat} {μ : Mm} (y : HY σ P Q μ) (hS : S < 2 ^ 31) :
    ∃ μ', f_X10_spreadOf μ 107 (nI S) = some (nI (hiF S (hgt (sH σ) (stand (sH σ) (sB σ))) (hZ (sH σ)) - loF S (hgt (sH σ) (stand (sH σ) (sB σ))) (hZ (sH σ))), μ') ∧ HY σ P Q μ' := by
  obtain ⟨μ2, d1, d2, d3, d4⟩ := y.lk
  have y2 := y.m d2
  refine ⟨μ2, ?_, y2⟩
  unfold f_X10_spreadOf
  rw [d1, bV_s]
  exact mspread_loop y2 d4 hS (hZ (sH σ)) 0 FU (by omega) (by rw [FU_eq]; have := y.hk.z; omega)
theorem mcellsOf_loop {σ : St} {P Q i : Nat} {μ : Mm} (y : HY σ P Q μ) (hi : i < hN (sH σ)) : ∀ (m k f : Nat), k + m = hZ (sH σ) → m < f →
    f_X10_cellsOf_L4 f μ 107 (nI i) (nI (bset (fun c => isOf (sH σ) i c) k)) (nI k) = some (nI (oS (sH σ) i), μ) := by
  have hz := y.hk.z
  intro m
  induction m with
  | zero =>
    intro k f hkm hf
    obtain ⟨f, rfl⟩ := fs1 hf
    show f_X10_cellsOf_L4b _ _ _ _ _ _ = _
    unfold f_X10_cellsOf_L4b
    rw [mcells_eq y.mh, bC_s, if_pos (nI_le (by omega) (by omega)), show k = hZ (sH σ) by omega]
    rfl
  | succ m ih =>
    intro k f hkm hf
    obtain ⟨f, rfl⟩ := fs1 hf
    have hs := bset_nI (fun c => isOf (sH σ) i c) (show k < 31 by omega)
    rw [← ih (k + 1) f (by omega) (by omega), ← hs]
    show f_X10_cellsOf_L4b _ _ _ _ _ _ = _
    unfold f_X10_cellsOf_L4b f_X10_cellsOf_j29
    rw [mcells_eq y.mh, bC_s, if_neg (nI_ge (by omega) (by omega)), misOf_eq y.hk y.2.1 y.mh hi (by omega), bC_s, nI_p1, bI_s, bI_s]
    by_cases b : isOf (sH σ) i k = true
    · rw [if_neg (bz_t b), if_pos b]
    · rw [if_pos (bz_f (by simpa using b)), if_neg b]
theorem mcellsOf_eq {σ : St} {P Q i : Nat} {μ : Mm} (y : HY σ P Q μ) (hi : i < hN (sH σ)) : f_X10_cellsOf μ 107 (nI i) = some (nI (oS (sH σ) i), μ) :=
  mcellsOf_loop y hi (hZ (sH σ)) 0 FU (by omega) (by rw [FU_eq]; have := y.hk.z; omega)
theorem st_item : Sp2 Inv f_X9_item f_X10_item := by
  intro μ x w hI
  obtain ⟨σ, P, Q, y⟩ := id hI
  have hr := y.2.1
  have hN5 := y.hk.2.2.1
  have hM7 := y.hk.2.2.2.1
  unfold f_X9_item f_X10_item
  rw [rd hr (rt_p P Q), bR_s, hasItem_eq y, bC_s]
  by_cases c : inI x (hN (sH σ)) = true
  · obtain ⟨i, hi, rfl⟩ := inI_j c (by omega)
    rw [if_neg (bz_t c)]
    by_cases q0 : w = 0
    · rw [if_pos q0, rd hr (rt_p P Q), bR_s, cellsOf_eq y.p y.hk hr y.ch hi, bC_s]
      refine ⟨_, μ, μ, rfl, ?_, hI⟩
      rw [isItem_eq y, bC_s, if_neg (bz_t c), if_pos q0, mcellsOf_eq y hi, bC_s]
    rw [if_neg q0]
    by_cases q1 : w = 1
    · rw [if_pos q1, rd hr (rt_p P Q), bR_s, levelOf_eq y.p y.hk hr y.ch hi, bC_s]
      refine ⟨_, μ, μ, rfl, ?_, hI⟩
      rw [isItem_eq y, bC_s, if_neg (bz_t c), if_neg q0, if_pos q1, rd hr (rt_107_6 P Q), bR_s, ckb_n (show i < ln 111 by show i < 5; omega) (by decide), gd_t, nI_clamp (by omega), (y.mh.2.2.2.2.2 i hi).2.2]
    rw [if_neg q1]
    by_cases q2 : w = 2
    · rw [if_pos q2, rd hr (rt_0_4 P Q), bR_s, standOf_eq hr bal_19 hM7 y.cb (by omega), bC_s]
      refine ⟨_, μ, μ, rfl, ?_, hI⟩
      rw [isItem_eq y, bC_s, if_neg (bz_t c), if_neg q0, if_neg q1, if_pos q2, mstandOf_eq hr hM7 y.mh.2.2.2.2.1 y.mb y.bk (by omega), bC_s]
    rw [if_neg q2]
    by_cases q3 : w = 3
    · rw [if_pos q3, rd hr (rt_0_4 P Q), bR_s, yesOf_eq hr bal_19 (by omega), bC_s, (y.cb.1 i (by omega)).1]
      refine ⟨_, μ, μ, rfl, ?_, hI⟩
      have v := voters_eq (v := 1) hr hM7 y.mh.2.2.2.2.1 y.mb y.bk (show i < 5 by omega) (by omega)
      rw [isItem_eq y, bC_s, if_neg (bz_t c), if_neg q0, if_neg q1, if_neg q2, if_pos q3, show (1 : Int32) = nI 1 from rfl, v, bC_s]
      rfl
    rw [if_neg q3]
    by_cases q4 : w = 4
    · rw [if_pos q4, rd hr (rt_0_4 P Q), bR_s, noOf_eq hr bal_19 (by omega), bC_s, (y.cb.1 i (by omega)).2]
      refine ⟨_, μ, μ, rfl, ?_, hI⟩
      have v := voters_eq (v := 0) hr hM7 y.mh.2.2.2.2.1 y.mb y.bk (show i < 5 by omega) (by omega)
      rw [isItem_eq y, bC_s, if_neg (bz_t c), if_neg q0, if_neg q1, if_neg q2, if_neg q3, if_pos q4]
      show bC (f_X10_voters μ 107 (nI i) (nI 0)) _ = _
      rw [v, bC_s]
      rfl
    rw [if_neg q4]
    by_cases q5 : w = 5
    · obtain ⟨μ1, e1, e2, e3⟩ := y.sh
      have y1 := y.c e2
      obtain ⟨μ2, d1, d2⟩ := mspread_eq y1 (oS_lt y.hk i)
      rw [if_pos q5]
      unfold f_X9_isLevel
      rw [e1, bV_s, rd y1.2.1 (rt_p P Q), bR_s, cellsOf_eq y.p y.hk y1.2.1 y1.ch hi, bC_s, spread_eq y1 e3 (oS_lt y.hk i), bC_s]
      have hm : bC (f_X10_isItem μ1 107 (nI i)) (fun r2 μ1 => if r2 = 0 then (some ((-1000000001 : Int32), μ1)) else (if w = 0 then (bC (f_X10_cellsOf μ1 107 (nI i)) (fun r7 μ6 => some (r7, μ6))) else (if w = 1 then (bR (μ1.2 107 6) (fun b10 => gd (ckb (nI i) (ln b10)) (some (μ1.1 b10 (nI i).toNatClampNeg, μ1)))) else (if w = 2 then (bC (f_X10_standOf μ1 107 (nI i)) (fun r14 μ13 => some (r14, μ13))) else (if w = 3 then (bC (f_X10_voters μ1 107 (nI i) (1 : Int32)) (fun r18 μ17 => some (r18, μ17))) else (if w = 4 then (bC (f_X10_voters μ1 107 (nI i) (0 : Int32)) (fun r22 μ21 => some (r22, μ21))) else (if w = 5 then (bC (f_X10_cellsOf μ1 107 (nI i)) (fun r26 μ25 => bC (f_X10_spreadOf μ25 107 r26) (fun r29 μ28 => if r29 = 0 then (some ((1 : Int32), μ28)) else (some ((0 : Int32), μ28))))) else (some ((-1000000002 : Int32), μ1)))))))))
        = if nI (hiF (oS (sH σ) i) (hgt (sH σ) (stand (sH σ) (sB σ))) (hZ (sH σ)) - loF (oS (sH σ) i) (hgt (sH σ) (stand (sH σ) (sB σ))) (hZ (sH σ))) = 0 then some ((1 : Int32), μ2) else some ((0 : Int32), μ2) := by
        rw [isItem_eq y1, bC_s, if_neg (bz_t c), if_neg q0, if_neg q1, if_neg q2, if_neg q3, if_neg q4, if_pos q5, mcellsOf_eq y1 hi, bC_s, d1, bC_s]
      by_cases z : nI (hiF (oS (sH σ) i) (hgt (sH σ) (stand (sH σ) (sB σ))) (hZ (sH σ)) - loF (oS (sH σ) i) (hgt (sH σ) (stand (sH σ) (sB σ))) (hZ (sH σ))) = 0
      · rw [if_pos z] at hm
        rw [if_pos z, bC_s, if_neg (by decide)]
        exact ⟨_, μ1, μ2, rfl, hm, d2.i⟩
      · rw [if_neg z] at hm
        rw [if_neg z, bC_s, if_pos rfl]
        exact ⟨_, μ1, μ2, rfl, hm, d2.i⟩
    rw [if_neg q5]
    refine ⟨_, μ, μ, rfl, ?_, hI⟩
    rw [isItem_eq y, bC_s, if_neg (bz_t c), if_neg q0, if_neg q1, if_neg q2, if_neg q3, if_neg q4, if_neg q5]
  · rw [if_pos (bz_f (by simpa using c))]
    refine ⟨_, μ, μ, rfl, ?_, hI⟩
    rw [isItem_eq y, bC_s, if_pos (bz_f (by simpa using c))]
theorem and_not_z (v M : BitVec 32) : v &&& ~~~M = 0#32 ↔ v &&& M = v := by
  constructor
  · intro h
    apply BitVec.eq_of_getLsbD_eq
    intro i hi
    have := congrArg (fun t => t.getLsbD i) h
    simp [hi] at this ⊢
    exact this
  · intro h
    apply BitVec.eq_of_getLsbD_eq
    intro i hi
    have := congrArg (fun t => t.getLsbD i) h
    simp [hi] at this ⊢
    exact this
theorem mask_eq (x : Int32) {Z : Nat} (hZ : Z ≤ 20) : (x &&& ((((1 : Int32) <<< (nI Z &&& 31)) - (1 : Int32)) ^^^ (-1 : Int32)) = 0) ↔ inI x (2 ^ Z) = true := by
  have h2 : 2 ^ Z ≤ 2 ^ 20 := Nat.pow_le_pow_right (by decide) hZ
  have hp := Nat.two_pow_pos Z
  have e1 : (((1 : Int32) <<< (nI Z &&& 31)) - (1 : Int32)) = nI (2 ^ Z - 1) := by
    rw [shl_p Z (by omega)]
    have := nI_sub1 (2 ^ Z - 1)
    rw [show 2 ^ Z - 1 + 1 = 2 ^ Z by omega] at this
    exact this
  rw [e1]
  have e2 : (x &&& (nI (2 ^ Z - 1) ^^^ (-1 : Int32)) = 0) ↔ (x.toBitVec &&& ~~~(BitVec.ofNat 32 (2 ^ Z - 1)) = 0#32) := by
    rw [← Int32.toBitVec_inj]
    show x.toBitVec &&& (BitVec.ofNat 32 (2 ^ Z - 1) ^^^ (-1#32)) = 0#32 ↔ _
    rw [show (-1#32) = BitVec.allOnes 32 from by decide, BitVec.xor_allOnes]
  rw [e2, and_not_z, ← BitVec.toNat_inj, BitVec.toNat_and, BitVec.toNat_ofNat, Nat.mod_eq_of_lt (by omega), Nat.and_two_pow_sub_one_eq_mod]
  constructor
  · intro h
    have hl : x.toBitVec.toNat < 2 ^ Z := by rw [← h]; exact Nat.mod_lt _ hp
    have ex : x = nI x.toBitVec.toNat := by
      apply Int32.toBitVec_inj.mp
      show x.toBitVec = BitVec.ofNat 32 x.toBitVec.toNat
      simp
    rw [ex]
    exact inI_n hl (by omega)
  · intro h
    obtain ⟨j, hj, rfl⟩ := inI_j h (by omega)
    show (BitVec.ofNat 32 j).toNat % 2 ^ Z = (BitVec.ofNat 32 j).toNat
    rw [BitVec.toNat_ofNat, Nat.mod_eq_of_lt (show j < 2 ^ 32 by omega), Nat.mod_eq_of_lt hj]
theorem st_waltz : Sp1 Inv f_X9_waltz f_X10_waltz := by
  intro μ x hI
  obtain ⟨σ, P, Q, y⟩ := id hI
  have hr := y.2.1
  have hz := y.hk.z
  have h2 : 2 ^ hZ (sH σ) ≤ 2 ^ 20 := Nat.pow_le_pow_right (by decide) hz
  unfold f_X9_waltz f_X10_waltz f_X4_allCells
  rw [rd hr (rt_p P Q), bR_s, bC_s, y.ch.2.2.1]
  by_cases c : inI x (2 ^ hZ (sH σ)) = true
  · obtain ⟨S, hS, rfl⟩ := inI_j c (by omega)
    obtain ⟨μ1, e1, e2, e3⟩ := y.sh
    have y1 := y.c e2
    obtain ⟨μ2, d1, d2⟩ := mspread_eq y1 (show S < 2 ^ 31 by omega)
    rw [if_pos ((mask_eq _ hz).mpr c), e1, bV_s, spread_eq y1 e3 (by omega), bC_s]
    refine ⟨_, μ1, μ2, rfl, ?_, d2.i⟩
    rw [mcells_eq y1.mh, bC_s, shl_p _ (by omega), in_n μ1 _ (by omega), bC_s, if_neg (bz_t c), d1, bC_s]
  · rw [if_neg (fun q => c ((mask_eq _ hz).mp q))]
    refine ⟨_, μ, μ, rfl, ?_, hI⟩
    rw [mcells_eq y.mh, bC_s, shl_p _ (by omega), in_n μ _ (by omega), bC_s, if_pos (bz_f (by simpa using c))]
