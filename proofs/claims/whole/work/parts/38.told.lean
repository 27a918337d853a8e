theorem i_or0 (x : Int32) : x ||| 0 = x := by simp
theorem i_add0 (x : Int32) : x + 0 = x := by simp
theorem i_sub0 (x : Int32) : x - 0 = x := by simp
theorem i_subn (x : Int32) : x - (-1) = x + 1 := by
  rw [Int32.sub_eq_add_neg]
  rfl
theorem i_addn (x : Int32) : x + (-1) = x - 1 := by
  rw [Int32.sub_eq_add_neg]
/-! rests -/
theorem mrests_loop {P Q : Nat} {h : Hs} {s : Nat → Nat} {μ : Mm} (w : Int32) (hk : hok h) (hr : μ.2 = RFt P Q) (hh : MH μ h) (hg : MG μ h s) : ∀ (k c t f : Nat), hgt h s c < k → k < f → c < hZ h → t + k < 2 ^ 20 →
    f_X10_rests_L40 f μ 107 w (nI c) (nI t) (nI (nx h s c)) = some (if w = 0 then nI (rsF (nx h s) k c) else nI (t + rlF (nx h s) k c), μ) := by
  have hz := hk.z
  intro k
  induction k with
  | zero => intro c t f h1; omega
  | succ k ih =>
    intro c t f h1 hf hc ht
    obtain ⟨f, rfl⟩ := fs1 hf
    have hn := nx_lt s hc
    show f_X10_rests_L40b _ _ _ _ _ _ _ = some (if w = 0 then nI (if nx h s c = c then c else rsF (nx h s) k (nx h s c)) else nI (t + (if nx h s c = c then 0 else rlF (nx h s) k (nx h s c) + 1)), μ)
    unfold f_X10_rests_L40b
    by_cases q : nx h s c = c
    · rw [if_pos (by rw [q]), if_pos q, if_pos q]
      split <;> rfl
    · rw [if_neg (nI_ne q (by omega) (by omega)), if_neg q, if_neg q, mrollsTo_eq hk hr hh hg hn, bC_s, nI_p1]
      have := nx_dn c q
      rw [ih (nx h s c) (t + 1) f (by omega) (by omega) hn (by omega), show t + 1 + rlF (nx h s) k (nx h s c) = t + (rlF (nx h s) k (nx h s c) + 1) by omega]
theorem st_rests : Sp2 Inv f_X9_rests f_X10_rests := by
  intro μ x w hI
  obtain ⟨σ, P, Q, y⟩ := id hI
  have hr := y.2.1
  have hz := y.hk.z
  unfold f_X9_rests f_X10_rests
  rw [rd hr (rt_p P Q), bR_s, hasCell_eq y, bC_s]
  by_cases c : inI x (hZ (sH σ)) = true
  · obtain ⟨j, hj, rfl⟩ := inI_j c (by omega)
    rw [if_neg (bz_t c), lit_in w 1 1 rfl (by decide)]
    by_cases c2 : inI w 2 = true
    · rw [if_pos c2]
      obtain ⟨μ1, e1, e2, e3⟩ := y.sh
      have y1 := y.c e2
      have hmod : ∀ μ1, HY σ P Q μ1 → ∃ μ2, (bC (f_X10_isCell μ1 107 (nI j)) (fun r2 μ1 => if r2 = 0 then (some ((-1000000001 : Int32), μ1)) else (bC (f_X10_in μ1 (w.toInt64) (0 : Int64) (1 : Int64)) (fun r6 μ5 => if r6 = 0 then (some ((-1000000002 : Int32), μ5)) else (bV (f_X10_lookNow μ5 107) (fun μ9 => bC (f_X10_rollsTo μ9 107 (nI j)) (fun r13 μ12 => f_X10_rests_L40 FU μ12 107 w (nI j) (0 : Int32) r13))))))) = some (if w = 0 then nI (rst (sH σ) (stand (sH σ) (sB σ)) j) else nI (rol (sH σ) (stand (sH σ) (sB σ)) j), μ2) ∧ HY σ P Q μ2 := by
        intro μ1 y1
        obtain ⟨μ2, d1, d2, d3, d4⟩ := y1.lk
        have y2 := y1.m d2
        refine ⟨μ2, ?_, y2⟩
        have hl := mrests_loop (w := w) y.hk y2.2.1 y2.mh d4 10 j 0 FU (by have := hgt_le y.hk (stand (sH σ) (sB σ)) j; omega) (by rw [FU_eq]; omega) hj (by omega)
        rw [Nat.zero_add, (rst_10 y.hk _ j).1, (rst_10 y.hk _ j).2] at hl
        rw [isCell_eq y1, bC_s, if_neg (bz_t c), in_lit μ1 w 1 1 rfl (by decide), bC_s, if_neg (bz_t c2), d1, bV_s, mrollsTo_eq y.hk y2.2.1 y2.mh d4 hj, bC_s]
        exact hl
      rw [e1, bV_s]
      by_cases c3 : w = 0
      · obtain ⟨μ2, f1, f2, f3⟩ := restFrom_eq y.hk y1.2.1 e3 hj
        have y2 := y1.c (f2.wk (fun a q => by omega))
        obtain ⟨μ3, g1, g2⟩ := hmod μ2 y2
        rw [if_pos c3, rd y1.2.1 (rt_0_10 P Q), bR_s, f1, bC_s]
        rw [if_pos c3] at g1
        exact ⟨_, μ2, μ3, rfl, g1, g2.i⟩
      · obtain ⟨μ2, f1, f2, f3⟩ := rollsFrom_eq y.hk y1.2.1 e3 hj
        have y2 := y1.c (f2.wk (fun a q => by omega))
        obtain ⟨μ3, g1, g2⟩ := hmod μ2 y2
        rw [if_neg c3, rd y1.2.1 (rt_0_10 P Q), bR_s, f1, bC_s]
        rw [if_neg c3] at g1
        exact ⟨_, μ2, μ3, rfl, g1, g2.i⟩
    · rw [if_neg c2]
      refine ⟨_, μ, μ, rfl, ?_, hI⟩
      rw [isCell_eq y, bC_s, if_neg (bz_t c), in_lit μ w 1 1 rfl (by decide), bC_s, if_pos (bz_f (by simpa using c2))]
  · rw [if_pos (bz_f (by simpa using c))]
    refine ⟨_, μ, μ, rfl, ?_, hI⟩
    rw [isCell_eq y, bC_s, if_pos (bz_f (by simpa using c))]
/-! judge -/
theorem row15_eq {μ : Mm} {P Q a k b i n : Nat} (hr : μ.2 = RFt P Q) (hb : RFt P Q a k = some b) (hl : ln b = n) (hn : n < 2 ^ 31) (hi : i < n) :
    (if nI i < 0 then some ((0 : Int32), μ) else bR (μ.2 a k) (fun b2 => if Int32.ofNat (ln b2) ≤ nI i then some ((0 : Int32), μ) else bR (μ.2 a k) (fun b4 => gd (ckb (nI i) (ln b4)) (some (μ.1 b4 (nI i).toNatClampNeg, μ))))) = some (μ.1 b i, μ) := by
  rw [if_neg (nI_pos (by omega)), rd hr hb, bR_s, bR_s, hl, if_neg (show ¬ Int32.ofNat n ≤ nI i from nI_ge hi hn), ckb_n hi hn, gd_t, nI_clamp (by omega)]
def jdF (H : Nat → Nat) (e1 e2 : Nat → Nat) : Nat → Nat → Int32
  | 0, _ => -1
  | m + 1, k => if H (e1 k) = e2 k then jdF H e1 e2 m (k + 1) else nI k
theorem judge_loop {σ : St} {P Q : Nat} {μ : Mm} {s : Nat → Nat} (y : HY σ P Q μ) (hx : CX μ (sH σ) s) : ∀ (m k f : Nat), k + m = σ.2 0 4 → m < f →
    f_X9_judge_L6 f μ 0 (nI k) = some (jdF (hgt (sH σ) s) (σ.2 4) (σ.2 5) m k, μ) := by
  have hr := y.2.1
  obtain ⟨he, hes⟩ := y.2.2.1.2.2.2.2.2.2.2.1
  obtain ⟨ce, ces⟩ := y.2.2.2.1.2.2.2.2.2.2.1
  have hz := y.hk.z
  intro m
  induction m with
  | zero =>
    intro k f hkm hf
    obtain ⟨f, rfl⟩ := fs1 hf
    show f_X9_judge_L6b _ _ _ _ = _
    unfold f_X9_judge_L6b
    rw [rd hr (rt_0_8 P Q), bR_s, ce, if_pos (nI_le (by omega) (by omega))]
    rfl
  | succ m ih =>
    intro k f hkm hf
    obtain ⟨f, rfl⟩ := fs1 hf
    have hkl : k < σ.2 0 4 := by omega
    obtain ⟨b1, b2⟩ := hes k hkl
    obtain ⟨v1, v2⟩ := ces k hkl
    have l1 := hgt_le y.hk s (σ.2 4 k)
    show f_X9_judge_L6b _ _ _ _ = some (if hgt (sH σ) s (σ.2 4 k) = σ.2 5 k then jdF (hgt (sH σ) s) (σ.2 4) (σ.2 5) m (k + 1) else nI k, μ)
    unfold f_X9_judge_L6b
    have ec : f_X6_entryCell μ 86 (nI k) = some (nI (σ.2 4 k), μ) := by
      rw [← v1]
      exact row15_eq hr (rt_86_2 P Q) (show ln 89 = 15 from rfl) (by decide) (by omega)
    have eh : f_X6_entryHeight μ 86 (nI k) = some (nI (σ.2 5 k), μ) := by
      rw [← v2]
      exact row15_eq hr (rt_86_3 P Q) (show ln 90 = 15 from rfl) (by decide) (by omega)
    rw [rd hr (rt_0_8 P Q), bR_s, ce, if_neg (nI_ge (by omega) (by omega)), rd hr (rt_0_10 P Q), bR_s, bR_s, ec, bC_s, hl_height y.hk hr hx b1, bC_s, rd hr (rt_0_8 P Q), bR_s, eh, bC_s, nI_p1]
    by_cases q : hgt (sH σ) s (σ.2 4 k) = σ.2 5 k
    · rw [if_pos (by rw [q]), if_pos q]
      exact ih (k + 1) f (by omega) (by omega)
    · rw [if_neg (nI_ne q (by omega) (by omega)), if_neg q]
theorem mjudge_loop {σ : St} {P Q : Nat} {μ : Mm} {s : Nat → Nat} (y : HY σ P Q μ) (hg : MG μ (sH σ) s) : ∀ (m k f : Nat), k + m = σ.2 0 4 → m < f →
    f_X10_judge_L6 f μ 107 (nI k) = some (jdF (hgt (sH σ) s) (σ.2 4) (σ.2 5) m k, μ) := by
  have hr := y.2.1
  obtain ⟨he, hes⟩ := y.2.2.1.2.2.2.2.2.2.2.1
  obtain ⟨ce, ces⟩ := y.2.2.2.2.1.2.2.2.2.2.2.1
  have hz := y.hk.z
  intro m
  induction m with
  | zero =>
    intro k f hkm hf
    obtain ⟨f, rfl⟩ := fs1 hf
    show f_X10_judge_L6b _ _ _ _ = _
    unfold f_X10_judge_L6b
    rw [ce, if_pos (nI_le (by omega) (by omega))]
    rfl
  | succ m ih =>
    intro k f hkm hf
    obtain ⟨f, rfl⟩ := fs1 hf
    have hkl : k < σ.2 0 4 := by omega
    obtain ⟨b1, b2⟩ := hes k hkl
    obtain ⟨v1, v2⟩ := ces k hkl
    have l1 := hgt_le y.hk s (σ.2 4 k)
    show f_X10_judge_L6b _ _ _ _ = some (if hgt (sH σ) s (σ.2 4 k) = σ.2 5 k then jdF (hgt (sH σ) s) (σ.2 4) (σ.2 5) m (k + 1) else nI k, μ)
    unfold f_X10_judge_L6b
    rw [ce, if_neg (nI_ge (by omega) (by omega)), rd hr (rt_107_26 P Q), bR_s, rd hr (rt_107_35 P Q), bR_s, ckb_n (show k < ln 127 by show k < 15; omega) (by decide), gd_t, nI_clamp (by omega), v1, ckb_n (show σ.2 4 k < ln 121 by show _ < 20; omega) (by decide), gd_t, rd hr (rt_107_36 P Q), bR_s, ckb_n (show k < ln 128 by show k < 15; omega) (by decide), gd_t, nI_clamp (by omega), hg _ b1, v2, nI_p1]
    by_cases q : hgt (sH σ) s (σ.2 4 k) = σ.2 5 k
    · rw [if_pos (by rw [q]), if_pos q]
      exact ih (k + 1) f (by omega) (by omega)
    · rw [if_neg (nI_ne q (by omega) (by omega)), if_neg q]
theorem st_judge : Sp0 Inv f_X9_judge f_X10_judge := by
  intro μ hI
  obtain ⟨σ, P, Q, y⟩ := id hI
  have he := y.2.2.1.2.2.2.2.2.2.2.1.1
  obtain ⟨μ1, e1, e2, e3⟩ := y.sh
  have y1 := y.c e2
  obtain ⟨μ2, d1, d2, d3, d4⟩ := y1.lk
  have y2 := y1.m d2
  refine ⟨jdF (hgt (sH σ) (stand (sH σ) (sB σ))) (σ.2 4) (σ.2 5) (σ.2 0 4) 0, μ1, μ2, ?_, ?_, y2.i⟩
  · unfold f_X9_judge
    rw [e1, bV_s]
    exact judge_loop y1 e3 (σ.2 0 4) 0 FU (by omega) (by rw [FU_eq]; omega)
  · unfold f_X10_judge
    rw [d1, bV_s]
    exact mjudge_loop y2 d4 (σ.2 0 4) 0 FU (by omega) (by rw [FU_eq]; omega)
/-! pool, pools -/
def plC (h : Hs) (s : Nat → Nat) (x : Int32) : Nat → Int32
  | 0 => 0
  | k + 1 => if nI (rst h s k) = x then plC h s x k + 1 else plC h s x k
def plA (h : Hs) (s : Nat → Nat) : Nat → Int32
  | 0 => 0
  | k + 1 => plA h s k ||| ((1 : Int32) <<< (nI (rst h s k) &&& 31))
theorem pool_loop {σ : St} {P Q : Nat} {s : Nat → Nat} (x : Int32) : ∀ (m k f : Nat) (μ : Mm), HY σ P Q μ → CX μ (sH σ) s → k + m = hZ (sH σ) → m < f →
    ∃ μ', f_X9_pool_L22 f μ 0 x (plC (sH σ) s x k) (nI k) = some (plC (sH σ) s x (hZ (sH σ)), μ') ∧ Ag μ μ' Xc := by
  intro m
  induction m with
  | zero =>
    intro k f μ y hx hkm hf
    obtain ⟨f, rfl⟩ := fs1 hf
    have hz := y.hk.z
    refine ⟨μ, ?_, Ag.rf⟩
    show f_X9_pool_L22b _ _ _ _ _ _ = _
    unfold f_X9_pool_L22b
    rw [rd y.2.1 (rt_p P Q), bR_s, y.ch.2.2.1, if_pos (nI_le (by omega) (by omega)), show k = hZ (sH σ) by omega]
  | succ m ih =>
    intro k f μ y hx hkm hf
    obtain ⟨f, rfl⟩ := fs1 hf
    have hz := y.hk.z
    obtain ⟨μ1, e1, e2, e3⟩ := restFrom_eq y.hk y.2.1 hx (show k < hZ (sH σ) by omega)
    have g1 : Ag μ μ1 Xc := e2.wk (fun a q => by omega)
    obtain ⟨μ', d1, d2⟩ := ih (k + 1) f μ1 (y.c g1) e3 (by omega) (by omega)
    refine ⟨μ', ?_, g1.tr d2⟩
    show f_X9_pool_L22b _ _ _ _ _ _ = _
    unfold f_X9_pool_L22b f_X9_pool_j48
    rw [rd y.2.1 (rt_p P Q), bR_s, y.ch.2.2.1, if_neg (nI_ge (by omega) (by omega)), rd y.2.1 (rt_0_10 P Q), bR_s, e1, bC_s, nI_p1, ← d1]
    show _ = f_X9_pool_L22 f μ1 0 x (if nI (rst (sH σ) s k) = x then plC (sH σ) s x k + 1 else plC (sH σ) s x k) (nI (k + 1))
    split <;> rfl
theorem mpool_loop {σ : St} {P Q : Nat} {μ : Mm} {s : Nat → Nat} (x : Int32) (y : HY σ P Q μ) (hg : MG μ (sH σ) s) : ∀ (m k f : Nat), k + m = hZ (sH σ) → m < f →
    f_X10_pool_L19 f μ 107 x (plC (sH σ) s x k) (nI k) = some (plC (sH σ) s x (hZ (sH σ)), μ) := by
  have hz := y.hk.z
  intro m
  induction m with
  | zero =>
    intro k f hkm hf
    obtain ⟨f, rfl⟩ := fs1 hf
    show f_X10_pool_L19b _ _ _ _ _ _ = _
    unfold f_X10_pool_L19b
    rw [mcells_eq y.mh, bC_s, if_pos (nI_le (by omega) (by omega)), show k = hZ (sH σ) by omega]
  | succ m ih =>
    intro k f hkm hf
    obtain ⟨f, rfl⟩ := fs1 hf
    show f_X10_pool_L19b _ _ _ _ _ _ = _
    unfold f_X10_pool_L19b f_X10_pool_j42
    rw [mcells_eq y.mh, bC_s, if_neg (nI_ge (by omega) (by omega)), mrestOf_eq y.hk y.2.1 y.mh hg (by omega), bC_s, nI_p1, bI_s, bI_s, i_add0, ← ih (k + 1) f (by omega) (by omega)]
    show _ = f_X10_pool_L19 f μ 107 x (if nI (rst (sH σ) s k) = x then plC (sH σ) s x k + 1 else plC (sH σ) s x k) (nI (k + 1))
    split <;> rfl
theorem st_pool : Sp1 Inv f_X9_pool f_X10_pool := by
  intro μ x hI
  obtain ⟨σ, P, Q, y⟩ := id hI
  have hr := y.2.1
  have hz := y.hk.z
  unfold f_X9_pool f_X10_pool
  rw [rd hr (rt_p P Q), bR_s, hasCell_eq y, bC_s]
  by_cases c : inI x (hZ (sH σ)) = true
  · obtain ⟨μ1, e1, e2, e3⟩ := y.sh
    have y1 := y.c e2
    obtain ⟨μ2, f1, f2⟩ := pool_loop x (hZ (sH σ)) 0 FU μ1 y1 e3 (by omega) (by rw [FU_eq]; omega)
    have y2 := y1.c f2
    obtain ⟨μ3, d1, d2, d3, d4⟩ := y2.lk
    have y3 := y2.m d2
    rw [if_neg (bz_t c), e1, bV_s]
    refine ⟨_, μ2, μ3, f1, ?_, y3.i⟩
    rw [isCell_eq y2, bC_s, if_neg (bz_t c), d1, bV_s]
    exact mpool_loop x y3 d4 (hZ (sH σ)) 0 FU (by omega) (by rw [FU_eq]; omega)
  · rw [if_pos (bz_f (by simpa using c))]
    refine ⟨_, μ, μ, rfl, ?_, hI⟩
    rw [isCell_eq y, bC_s, if_pos (bz_f (by simpa using c))]
theorem pools_loop {σ : St} {P Q : Nat} {s : Nat → Nat} : ∀ (m k f : Nat) (μ : Mm), HY σ P Q μ → CX μ (sH σ) s → k + m = hZ (sH σ) → m < f →
    ∃ μ', f_X9_pools_L8 f μ 0 (plA (sH σ) s k) (nI k) = some (plA (sH σ) s (hZ (sH σ)), μ') ∧ Ag μ μ' Xc := by
  intro m
  induction m with
  | zero =>
    intro k f μ y hx hkm hf
    obtain ⟨f, rfl⟩ := fs1 hf
    have hz := y.hk.z
    refine ⟨μ, ?_, Ag.rf⟩
    show f_X9_pools_L8b _ _ _ _ _ = _
    unfold f_X9_pools_L8b
    rw [rd y.2.1 (rt_p P Q), bR_s, y.ch.2.2.1, if_pos (nI_le (by omega) (by omega)), show k = hZ (sH σ) by omega]
  | succ m ih =>
    intro k f μ y hx hkm hf
    obtain ⟨f, rfl⟩ := fs1 hf
    have hz := y.hk.z
    obtain ⟨μ1, e1, e2, e3⟩ := restFrom_eq y.hk y.2.1 hx (show k < hZ (sH σ) by omega)
    have g1 : Ag μ μ1 Xc := e2.wk (fun a q => by omega)
    obtain ⟨μ', d1, d2⟩ := ih (k + 1) f μ1 (y.c g1) e3 (by omega) (by omega)
    refine ⟨μ', ?_, g1.tr d2⟩
    show f_X9_pools_L8b _ _ _ _ _ = _
    unfold f_X9_pools_L8b
    rw [rd y.2.1 (rt_p P Q), bR_s, y.ch.2.2.1, if_neg (nI_ge (by omega) (by omega)), rd y.2.1 (rt_0_10 P Q), bR_s, e1, bC_s, nI_p1, bI_s]
    exact d1
theorem mpools_loop {σ : St} {P Q : Nat} {μ : Mm} {s : Nat → Nat} (y : HY σ P Q μ) (hg : MG μ (sH σ) s) : ∀ (m k f : Nat), k + m = hZ (sH σ) → m < f →
    f_X10_pools_L8 f μ 107 (plA (sH σ) s k) (nI k) = some (plA (sH σ) s (hZ (sH σ)), μ) := by
  have hz := y.hk.z
  intro m
  induction m with
  | zero =>
    intro k f hkm hf
    obtain ⟨f, rfl⟩ := fs1 hf
    show f_X10_pools_L8b _ _ _ _ _ = _
    unfold f_X10_pools_L8b
    rw [mcells_eq y.mh, bC_s, if_pos (nI_le (by omega) (by omega)), show k = hZ (sH σ) by omega]
  | succ m ih =>
    intro k f hkm hf
    obtain ⟨f, rfl⟩ := fs1 hf
    show f_X10_pools_L8b _ _ _ _ _ = _
    unfold f_X10_pools_L8b
    rw [mcells_eq y.mh, bC_s, if_neg (nI_ge (by omega) (by omega)), mrestOf_eq y.hk y.2.1 y.mh hg (by omega), bC_s, nI_p1, bI_s]
    exact ih (k + 1) f (by omega) (by omega)
/-! who lost more than he won -/
def agn (h : Hs) (b : Bt) (p : Nat) : Nat → Int32
  | 0 => 0
  | k + 1 => if stand h b k = 0 then agn h b p k else if b p k = 1 then agn h b p k - 1 else if b p k = 0 then agn h b p k + 1 else agn h b p k
def dhl (h : Hs) (b : Bt) : Nat → Int32
  | 0 => 0
  | p + 1 => if agn h b p (hN h) ≤ 0 then dhl h b p else dhl h b p ||| ((1 : Int32) <<< (nI p &&& 31))
theorem weightOf_eq (μ : Mm) {v : Nat} (hv : v ≤ 2) : f_X9_weightOf μ (nI v) = some (if v = 1 then 1 else if v = 0 then -1 else 0, μ) := by
  have : v = 0 ∨ v = 1 ∨ v = 2 := by omega
  rcases this with rfl | rfl | rfl <;> rfl
theorem lost_loop {σ : St} {P Q : Nat} {μ : Mm} {p : Nat} (y : HY σ P Q μ) (hp : p < hM (sH σ)) : ∀ (m k f : Nat), k + m = hN (sH σ) → m < f →
    f_X9_lostMore_L4 f μ 0 (nI p) (agn (sH σ) (sB σ) p k) (nI k) = some (if agn (sH σ) (sB σ) p (hN (sH σ)) ≤ 0 then 0 else 1, μ) := by
  have hN5 := y.hk.2.2.1
  have hM7 := y.hk.2.2.2.1
  have hr := y.2.1
  intro m
  induction m with
  | zero =>
    intro k f hkm hf
    obtain ⟨f, rfl⟩ := fs1 hf
    show f_X9_lostMore_L4b _ _ _ _ _ _ = _
    unfold f_X9_lostMore_L4b
    rw [rd hr (rt_p P Q), bR_s, y.ch.2.2.2.1, if_pos (nI_le (by omega) (by omega)), show k = hN (sH σ) by omega]
    split <;> rfl
  | succ m ih =>
    intro k f hkm hf
    obtain ⟨f, rfl⟩ := fs1 hf
    have h2 := y.bk.1 p hp k (by omega)
    have hs := stand_le (sH σ) (sB σ) k
    rw [← ih (k + 1) f (by omega) (by omega)]
    show f_X9_lostMore_L4b _ _ _ _ _ _ = f_X9_lostMore_L4 f μ 0 (nI p) (if stand (sH σ) (sB σ) k = 0 then agn (sH σ) (sB σ) p k else if sB σ p k = 1 then agn (sH σ) (sB σ) p k - 1 else if sB σ p k = 0 then agn (sH σ) (sB σ) p k + 1 else agn (sH σ) (sB σ) p k) (nI (k + 1))
    unfold f_X9_lostMore_L4b f_X9_lostMore_j41
    rw [rd hr (rt_p P Q), bR_s, y.ch.2.2.2.1, if_neg (nI_ge (by omega) (by omega)), rd hr (rt_0_4 P Q), bR_s, standOf_eq hr bal_19 hM7 y.cb (by omega), bC_s, nI_p1]
    by_cases q : stand (sH σ) (sB σ) k = 0
    · rw [if_pos (by rw [q]; rfl), if_pos q]
    · rw [if_neg (fun w => nI_ne0 (show 0 < stand (sH σ) (sB σ) k by omega) (by omega) w), if_neg q, rd hr (rt_0_4 P Q), bR_s, howOf_eq hr bal_19 hM7 y.cb y.bk (by omega) hp, bC_s, weightOf_eq μ h2, bC_s, bI_s]
      by_cases q1 : sB σ p k = 1
      · rw [if_pos q1, if_pos q1]
      · by_cases q0 : sB σ p k = 0
        · rw [if_neg q1, if_pos q0, if_neg q1, if_pos q0, i_subn]
        · rw [if_neg q1, if_neg q0, if_neg q1, if_neg q0, i_sub0]
theorem downhill_loop {σ : St} {P Q : Nat} {μ : Mm} (y : HY σ P Q μ) : ∀ (m k f : Nat), k + m = hM (sH σ) → m < f →
    f_X9_downhill_L4 f μ 0 (dhl (sH σ) (sB σ) k) (nI k) = some (dhl (sH σ) (sB σ) (hM (sH σ)), μ) := by
  have hM7 := y.hk.2.2.2.1
  have hN5 := y.hk.2.2.1
  have hr := y.2.1
  intro m
  induction m with
  | zero =>
    intro k f hkm hf
    obtain ⟨f, rfl⟩ := fs1 hf
    show f_X9_downhill_L4b _ _ _ _ _ = _
    unfold f_X9_downhill_L4b
    rw [rd hr (rt_p P Q), bR_s, y.ch.2.2.2.2.1, if_pos (nI_le (by omega) (by omega)), show k = hM (sH σ) by omega]
  | succ m ih =>
    intro k f hkm hf
    obtain ⟨f, rfl⟩ := fs1 hf
    have hl : f_X9_lostMore μ 0 (nI k) = some (if agn (sH σ) (sB σ) k (hN (sH σ)) ≤ 0 then 0 else 1, μ) := lost_loop y (show k < hM (sH σ) by omega) (hN (sH σ)) 0 FU (by omega) (by rw [FU_eq]; omega)
    rw [← ih (k + 1) f (by omega) (by omega)]
    show f_X9_downhill_L4b _ _ _ _ _ = f_X9_downhill_L4 f μ 0 (if agn (sH σ) (sB σ) k (hN (sH σ)) ≤ 0 then dhl (sH σ) (sB σ) k else dhl (sH σ) (sB σ) k ||| ((1 : Int32) <<< (nI k &&& 31))) (nI (k + 1))
    unfold f_X9_downhill_L4b f_X9_downhill_j29
    rw [rd hr (rt_p P Q), bR_s, y.ch.2.2.2.2.1, if_neg (nI_ge (by omega) (by omega)), hl, bC_s, nI_p1, bI_s]
    by_cases q : agn (sH σ) (sB σ) k (hN (sH σ)) ≤ 0
    · rw [if_pos q, if_pos rfl, if_pos q]
    · rw [if_neg q, if_neg (by decide), if_neg q]
theorem mlost_loop {σ : St} {P Q : Nat} {μ : Mm} {p : Nat} (y : HY σ P Q μ) (hw : MW μ (stand (sH σ) (sB σ)) (hN (sH σ))) (hp : p < hM (sH σ)) (rc : Mm → Nat → Int32 → Int32 → Option (Int32 × Mm)) (x : Int32) : ∀ (m k f : Nat), k + m = hN (sH σ) → m < f →
    f_X10_downhill_L23 rc f μ 107 x (nI p) (agn (sH σ) (sB σ) p k) (nI k) = rc μ 107 (if agn (sH σ) (sB σ) p (hN (sH σ)) ≤ 0 then x else x ||| ((1 : Int32) <<< (nI p &&& 31))) (nI (p + 1)) := by
  have hN5 := y.hk.2.2.1
  have hM7 := y.hk.2.2.2.1
  have hr := y.2.1
  intro m
  induction m with
  | zero =>
    intro k f hkm hf
    obtain ⟨f, rfl⟩ := fs1 hf
    show f_X10_downhill_L23b _ _ _ _ _ _ _ _ = _
    unfold f_X10_downhill_L23b f_X10_downhill_j99
    rw [y.mh.2.2.2.1, if_pos (nI_le (by omega) (by omega)), show k = hN (sH σ) by omega, nI_p1, bI_s, bI_s, i_or0]
    split <;> rfl
  | succ m ih =>
    intro k f hkm hf
    obtain ⟨f, rfl⟩ := fs1 hf
    have h2 := y.bk.1 p hp k (by omega)
    have hs := stand_le (sH σ) (sB σ) k
    have e := y.mb.1 p hp k (by omega)
    rw [Nat.zero_add] at e
    rw [← ih (k + 1) f (by omega) (by omega)]
    show f_X10_downhill_L23b _ _ _ _ _ _ _ _ = f_X10_downhill_L23 rc f μ 107 x (nI p) (if stand (sH σ) (sB σ) k = 0 then agn (sH σ) (sB σ) p k else if sB σ p k = 1 then agn (sH σ) (sB σ) p k - 1 else if sB σ p k = 0 then agn (sH σ) (sB σ) p k + 1 else agn (sH σ) (sB σ) p k) (nI (k + 1))
    unfold f_X10_downhill_L23b f_X10_downhill_j63 f_X10_downhill_j77
    rw [y.mh.2.2.2.1, if_neg (nI_ge (by omega) (by omega)), rd hr (rt_107_8 P Q), bR_s, nI_5, ckb_n (show 5 * p + k < ln 112 by show _ < 37; omega) (by decide), gd_t, nI_clamp (by omega), e, bI_s, rd hr (rt_107_25 P Q), bR_s, ckb_n (show k < ln 120 by show k < 5; omega) (by decide), gd_t, nI_clamp (by omega), hw k (by omega), nI_p1, bI_s, bI_s, bI_s, i_add0, i_addn]
    by_cases q : stand (sH σ) (sB σ) k = 0
    · rw [if_pos (by rw [q]; rfl), if_pos q]
    · rw [if_neg (fun w => nI_ne0 (show 0 < stand (sH σ) (sB σ) k by omega) (by omega) w), if_neg q]
      have : sB σ p k = 0 ∨ sB σ p k = 1 ∨ sB σ p k = 2 := by omega
      rcases this with q0 | q0 | q0
      · rw [q0, if_neg (show ¬ nI 0 = (2 : Int32) by decide), if_pos (show nI 0 = (0 : Int32) from rfl), if_neg (show ¬ (0 : Nat) = 1 by decide), if_pos (show (0 : Nat) = 0 from rfl)]
      · rw [q0, if_neg (show ¬ nI 1 = (2 : Int32) by decide), if_neg (show ¬ nI 1 = (0 : Int32) by decide), if_pos (show (1 : Nat) = 1 from rfl)]
      · rw [q0, if_pos (show nI 2 = (2 : Int32) from rfl), if_neg (show ¬ (2 : Nat) = 1 by decide), if_neg (show ¬ (2 : Nat) = 0 by decide)]
theorem mdownhill_loop {σ : St} {P Q : Nat} {μ : Mm} (y : HY σ P Q μ) (hw : MW μ (stand (sH σ) (sB σ)) (hN (sH σ))) : ∀ (m k f : Nat), k + m = hM (sH σ) → m < f →
    f_X10_downhill_L9 f μ 107 (dhl (sH σ) (sB σ) k) (nI k) = some (dhl (sH σ) (sB σ) (hM (sH σ)), μ) := by
  have hM7 := y.hk.2.2.2.1
  have hN5 := y.hk.2.2.1
  intro m
  induction m with
  | zero =>
    intro k f hkm hf
    obtain ⟨f, rfl⟩ := fs1 hf
    show f_X10_downhill_L9b _ _ _ _ _ = _
    unfold f_X10_downhill_L9b
    rw [y.mh.2.2.2.2.1, if_pos (nI_le (by omega) (by omega)), show k = hM (sH σ) by omega]
  | succ m ih =>
    intro k f hkm hf
    obtain ⟨f, rfl⟩ := fs1 hf
    show f_X10_downhill_L9b _ _ _ _ _ = _
    unfold f_X10_downhill_L9b
    have hl := mlost_loop y hw (show k < hM (sH σ) by omega) (f_X10_downhill_L9 f) (dhl (sH σ) (sB σ) k) (hN (sH σ)) 0 FU (by omega) (by rw [FU_eq]; omega)
    rw [y.mh.2.2.2.2.1, if_neg (nI_ge (by omega) (by omega))]
    refine Eq.trans hl ?_
    exact ih (k + 1) f (by omega) (by omega)
theorem HY.sn {σ : St} {P Q : Nat} {μ : Mm} (y : HY σ P Q μ) : ∃ μ', f_X9_standNow μ 0 = some (nI (figs (stand (sH σ) (sB σ)) (hN (sH σ))), μ') ∧ Ag μ μ' Xc := by
  obtain ⟨μ', e1, e2, e3⟩ := standNow_eq y.hk y.2.1 y.ch.2.2.2.1 y.cb
  exact ⟨μ', e1, e2.wk (fun a q => by omega)⟩
theorem HY.ms {σ : St} {P Q : Nat} {μ : Mm} (y : HY σ P Q μ) : ∃ μ', f_X10_standNow μ 107 = some (nI (figs (stand (sH σ) (sB σ)) (hN (sH σ))), μ') ∧ Ag μ μ' Xm ∧ MW μ' (stand (sH σ) (sB σ)) (hN (sH σ)) := by
  obtain ⟨μ', e1, e2, e3⟩ := mstandNow_eq y.hk y.bk y.2.1 y.mh y.mb
  exact ⟨μ', e1, e2.wk (fun a q => Or.inl q), e3⟩
theorem st_told : Sp1 Inv f_X9_told f_X10_told := by
  intro μ x hI
  obtain ⟨σ, P, Q, y⟩ := id hI
  have hr := y.2.1
  unfold f_X9_told f_X10_told
  by_cases q0 : x = 0
  · rw [if_pos q0, rd hr (rt_p P Q), bR_s]
    exact ⟨_, μ, μ, rfl, by rw [if_pos q0, y.ch.1, y.mh.1], hI⟩
  rw [if_neg q0]
  by_cases q1 : x = 1
  · rw [if_pos q1, rd hr (rt_p P Q), bR_s]
    exact ⟨_, μ, μ, rfl, by rw [if_neg q0, if_pos q1, y.ch.2.1, y.mh.2.1], hI⟩
  rw [if_neg q1]
  by_cases q2 : x = 2
  · rw [if_pos q2, rd hr (rt_p P Q), bR_s]
    exact ⟨_, μ, μ, rfl, by rw [if_neg q0, if_neg q1, if_pos q2, y.ch.2.2.2.1, y.mh.2.2.2.1], hI⟩
  rw [if_neg q2]
  by_cases q3 : x = 3
  · rw [if_pos q3, rd hr (rt_p P Q), bR_s]
    exact ⟨_, μ, μ, rfl, by rw [if_neg q0, if_neg q1, if_neg q2, if_pos q3, y.ch.2.2.2.2.1, y.mh.2.2.2.2.1], hI⟩
  rw [if_neg q3]
  by_cases q4 : x = 4
  · rw [if_pos q4, rd hr (rt_0_0 P Q), bR_s]
    exact ⟨_, μ, μ, rfl, by rw [if_neg q0, if_neg q1, if_neg q2, if_neg q3, if_pos q4, y.2.2.2.1.2.2.2.2.1.1, y.2.2.2.2.1.2.2.2.2.1.1], hI⟩
  rw [if_neg q4]
  by_cases q5 : x = 5
  · rw [if_pos q5, rd hr (rt_0_4 P Q), bR_s]
    refine ⟨_, μ, μ, rfl, ?_, hI⟩
    rw [if_neg q0, if_neg q1, if_neg q2, if_neg q3, if_neg q4, if_pos q5, rd hr (rt_107_8 P Q), bR_s, show ckb (35 : Int32) (ln 112) = true from by decide, gd_t, y.cb.2.1]
    show some (μ.1 112 35, μ) = _
    rw [y.mb.2.1]
  rw [if_neg q5]
  by_cases q6 : x = 6
  · obtain ⟨μ1, e1, e2⟩ := y.sn
    have y1 := y.c e2
    obtain ⟨μ2, d1, d2, d3⟩ := y1.ms
    rw [if_pos q6, e1, bC_s]
    exact ⟨_, μ1, μ2, rfl, by rw [if_neg q0, if_neg q1, if_neg q2, if_neg q3, if_neg q4, if_neg q5, if_pos q6, d1, bC_s], (y1.m d2).i⟩
  rw [if_neg q6]
  by_cases q7 : x = 7
  · rw [if_pos q7, rd hr (rt_0_4 P Q), bR_s]
    refine ⟨_, μ, μ, rfl, ?_, hI⟩
    rw [if_neg q0, if_neg q1, if_neg q2, if_neg q3, if_neg q4, if_neg q5, if_neg q6, if_pos q7, rd hr (rt_107_8 P Q), bR_s, show ckb (36 : Int32) (ln 112) = true from by decide, gd_t, y.cb.2.2]
    show some (μ.1 112 36, μ) = _
    rw [y.mb.2.2]
  rw [if_neg q7]
  by_cases q8 : x = 8
  · have h1 : f_X9_downhill μ 0 = some (dhl (sH σ) (sB σ) (hM (sH σ)), μ) := downhill_loop y (hM (sH σ)) 0 FU (by omega) (by rw [FU_eq]; have := y.hk.2.2.2.1; omega)
    obtain ⟨μ2, d1, d2, d3⟩ := y.ms
    have y2 := y.m d2
    have h2 := mdownhill_loop y2 d3 (hM (sH σ)) 0 FU (by omega) (by rw [FU_eq]; have := y.hk.2.2.2.1; omega)
    rw [if_pos q8, h1, bC_s]
    refine ⟨_, μ, μ2, rfl, ?_, y2.i⟩
    rw [if_neg q0, if_neg q1, if_neg q2, if_neg q3, if_neg q4, if_neg q5, if_neg q6, if_neg q7, if_pos q8]
    unfold f_X10_downhill
    rw [d1, bC_s]
    show bC (f_X10_downhill_L9 FU μ2 107 (dhl (sH σ) (sB σ) 0) (nI 0)) _ = _
    rw [h2, bC_s]
  rw [if_neg q8]
  by_cases q9 : x = 9
  · have hz := y.hk.z
    obtain ⟨μ1, e1, e2, e3⟩ := y.sh
    have y1 := y.c e2
    obtain ⟨μ2, f1, f2⟩ := pools_loop (hZ (sH σ)) 0 FU μ1 y1 e3 (by omega) (by rw [FU_eq]; omega)
    have y2 := y1.c f2
    obtain ⟨μ3, d1, d2, d3, d4⟩ := y2.lk
    have y3 := y2.m d2
    have h1 : f_X9_pools μ 0 = some (plA (sH σ) (stand (sH σ) (sB σ)) (hZ (sH σ)), μ2) := by
      unfold f_X9_pools
      rw [e1, bV_s]
      exact f1
    have h2 : f_X10_pools μ2 107 = some (plA (sH σ) (stand (sH σ) (sB σ)) (hZ (sH σ)), μ3) := by
      unfold f_X10_pools
      rw [d1, bV_s]
      exact mpools_loop y3 d4 (hZ (sH σ)) 0 FU (by omega) (by rw [FU_eq]; omega)
    rw [if_pos q9, h1, bC_s]
    refine ⟨_, μ2, μ3, rfl, ?_, y3.i⟩
    rw [if_neg q0, if_neg q1, if_neg q2, if_neg q3, if_neg q4, if_neg q5, if_neg q6, if_neg q7, if_neg q8, if_pos q9, h2, bC_s]
  rw [if_neg q9]
  by_cases q10 : x = 10
  · rw [if_pos q10, rd hr (rt_0_8 P Q), bR_s]
    exact ⟨_, μ, μ, rfl, by rw [if_neg q0, if_neg q1, if_neg q2, if_neg q3, if_neg q4, if_neg q5, if_neg q6, if_neg q7, if_neg q8, if_neg q9, if_pos q10, y.2.2.2.1.2.2.2.2.2.1.1, y.2.2.2.2.1.2.2.2.2.2.1.1], hI⟩
  rw [if_neg q10]
  by_cases q11 : x = 11
  · rw [if_pos q11, rd hr (rt_0_8 P Q), bR_s]
    exact ⟨_, μ, μ, rfl, by rw [if_neg q0, if_neg q1, if_neg q2, if_neg q3, if_neg q4, if_neg q5, if_neg q6, if_neg q7, if_neg q8, if_neg q9, if_neg q10, if_pos q11, y.2.2.2.1.2.2.2.2.2.2.1.1, y.2.2.2.2.1.2.2.2.2.2.2.1.1], hI⟩
  rw [if_neg q11]
  by_cases q12 : x = 12
  · rw [if_pos q12, rd hr (rt_0_5 P Q), bR_s]
    exact ⟨_, μ, μ, rfl, by rw [if_neg q0, if_neg q1, if_neg q2, if_neg q3, if_neg q4, if_neg q5, if_neg q6, if_neg q7, if_neg q8, if_neg q9, if_neg q10, if_neg q11, if_pos q12, y.2.2.2.1.2.2.1.1, y.2.2.2.2.1.2.2.1.1], hI⟩
  rw [if_neg q12]
  exact ⟨_, μ, μ, rfl, by rw [if_neg q0, if_neg q1, if_neg q2, if_neg q3, if_neg q4, if_neg q5, if_neg q6, if_neg q7, if_neg q8, if_neg q9, if_neg q10, if_neg q11, if_neg q12], hI⟩
