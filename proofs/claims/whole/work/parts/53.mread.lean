/-! the reference's reader: letters, numbers -/
def MT (μ : Mm) (T : Tx) : Prop := T.1 ≤ 240 ∧ (∀ j, j < T.1 → T.2 j ≤ 255) ∧ QT μ T.1 T.2
theorem MT.cg {μ μ' : Mm} {T : Tx} (c : MT μ T) (e1 : μ'.1 107 11 = μ.1 107 11) (e : μ'.1 113 = μ.1 113) : MT μ' T := ⟨c.1, c.2.1, c.2.2.cg e1 e⟩
/-- only the place moved on -/
def MvM (μ μ' : Mm) (k : Nat) : Prop := μ'.2 = μ.2 ∧ (∀ a, a ≠ 107 → μ'.1 a = μ.1 a) ∧ (∀ s, s ≠ 13 → μ'.1 107 s = μ.1 107 s) ∧ μ'.1 107 13 = nI k
theorem MvM.one {μ μ' : Mm} {j k : Nat} (h : MvM (up2 μ.1 107 13 (nI j), μ.2) μ' k) : MvM μ μ' k :=
  ⟨h.1, fun a ha => (h.2.1 a ha).trans (up2_ne ha), fun s hs => (h.2.2.1 s hs).trans (up2_nk hs), h.2.2.2⟩
theorem MvM.mt {μ μ' : Mm} {k : Nat} {T : Tx} (h : MvM μ μ' k) (c : MT μ T) : MT μ' T := c.cg (h.2.2.1 11 (by decide)) (h.2.1 113 (by decide))
theorem here_j {P Q k : Nat} {T : Tx} {μ : Mm} (hr : μ.2 = RFt P Q) (c : MT μ T) (h : μ.1 107 13 = nI k) (hk : k ≤ T.1) : f_X10_here_j38 μ 107 = some (lc T k, μ) := by
  have h240 := c.1
  unfold f_X10_here_j38
  rw [c.2.2.1, h]
  by_cases q : k < T.1
  · rw [if_neg (nI_ge q (by omega)), rd hr (rt_107_10 P Q), bR_s, ckb_n (show k < ln 113 by show k < 240; omega) (by decide), gd_t, nI_clamp (by omega), c.2.2.2 k q, lc_in q]
  · rw [if_pos (nI_le (by omega) (by omega)), lc_end (by omega)]
theorem here_loop {P Q : Nat} {T : Tx} : ∀ (m k f : Nat) (μ : Mm), m < f → μ.2 = RFt P Q → MT μ T → μ.1 107 13 = nI k → k ≤ T.1 → T.1 ≤ k + m →
    ∃ μ', f_X10_here_L0 f μ 107 = some (lc T (skF T m k), μ') ∧ MvM μ μ' (skF T m k) := by
  intro m
  induction m with
  | zero =>
    intro k f μ hf hr c h hk hm
    obtain ⟨f, rfl⟩ := fs1 hf
    have h240 := c.1
    refine ⟨μ, ?_, rfl, fun _ _ => rfl, fun _ _ => rfl, h⟩
    show f_X10_here_L0b _ _ _ = some (lc T k, μ)
    unfold f_X10_here_L0b
    rw [here_j hr c h hk, c.2.2.1, h, if_pos (nI_le (by omega) (by omega))]
  | succ m ih =>
    intro k f μ hf hr c h hk hm
    obtain ⟨f, rfl⟩ := fs1 hf
    have h240 := c.1
    show ∃ μ', f_X10_here_L0b _ _ _ = some (lc T (if lc T k = 32 then skF T m (k + 1) else k), μ') ∧ MvM μ μ' (if lc T k = 32 then skF T m (k + 1) else k)
    unfold f_X10_here_L0b
    rw [here_j hr c h hk, c.2.2.1, h]
    by_cases q0 : k < T.1
    · rw [if_neg (nI_ge q0 (by omega)), rd hr (rt_107_10 P Q), bR_s, ckb_n (show k < ln 113 by show k < 240; omega) (by decide), gd_t, nI_clamp (by omega), c.2.2.2 k q0, ← lc_in q0]
      by_cases q : lc T k = 32
      · obtain ⟨μ', e1, e2⟩ := ih (k + 1) f (up2 μ.1 107 13 (nI (k + 1)), μ.2) (by omega) hr (c.cg rfl rfl) rfl (by omega) (by omega)
        rw [if_pos q, if_pos q, nI_p1, bM_s]
        exact ⟨μ', e1, e2.one⟩
      · rw [if_neg q, if_neg q]
        exact ⟨μ, rfl, rfl, fun _ _ => rfl, fun _ _ => rfl, h⟩
    · rw [if_pos (nI_le (by omega) (by omega)), if_neg (show ¬ lc T k = 32 by rw [lc_end (by omega)]; decide)]
      exact ⟨μ, rfl, rfl, fun _ _ => rfl, fun _ _ => rfl, h⟩
theorem here_eq {P Q k : Nat} {T : Tx} {μ : Mm} (hr : μ.2 = RFt P Q) (c : MT μ T) (h : μ.1 107 13 = nI k) (hk : k ≤ T.1) :
    ∃ μ', f_X10_here μ 107 = some (lc T (sk T k), μ') ∧ MvM μ μ' (sk T k) := by
  have h240 := c.1
  exact here_loop T.1 k FU μ (by rw [FU_eq]; omega) hr c h hk (by omega)
/-- no fault so far, the place is k -/
def GM (μ : Mm) (T : Tx) (k : Nat) : Prop := MT μ T ∧ μ.1 107 12 = -1 ∧ μ.1 107 13 = nI k ∧ k ≤ T.1
theorem GM.hr {P Q k : Nat} {T : Tx} {μ : Mm} (g : GM μ T k) (hr : μ.2 = RFt P Q) : ∃ μ', f_X10_here μ 107 = some (lc T (sk T k), μ') ∧ MvM μ μ' (sk T k) ∧ GM μ' T (sk T k) := by
  obtain ⟨μ', e1, e2⟩ := here_eq hr g.1 g.2.2.1 g.2.2.2
  exact ⟨μ', e1, e2, e2.mt g.1, by rw [e2.2.2.1 12 (by decide)]; exact g.2.1, e2.2.2.2, sk_le g.2.2.2⟩
/-- only the slots 12 to 15 changed -/
def NmA (μ μ' : Mm) : Prop := μ'.2 = μ.2 ∧ (∀ a, a ≠ 107 → μ'.1 a = μ.1 a) ∧ ∀ s, ¬ (12 ≤ s ∧ s ≤ 15) → μ'.1 107 s = μ.1 107 s
theorem NmA.rf {μ : Mm} : NmA μ μ := ⟨rfl, fun _ _ => rfl, fun _ _ => rfl⟩
theorem NmA.tr {μ μ1 μ2 : Mm} (h : NmA μ μ1) (g : NmA μ1 μ2) : NmA μ μ2 := ⟨g.1.trans h.1, fun a ha => (g.2.1 a ha).trans (h.2.1 a ha), fun s hs => (g.2.2 s hs).trans (h.2.2 s hs)⟩
theorem MvM.nm {μ μ' : Mm} {k : Nat} (h : MvM μ μ' k) : NmA μ μ' := ⟨h.1, h.2.1, fun s hs => h.2.2.1 s (by omega)⟩
theorem NmA.up {μ : Mm} {s : Nat} {v : Int32} (h : 12 ≤ s ∧ s ≤ 15) : NmA μ (up2 μ.1 107 s v, μ.2) := ⟨rfl, fun a ha => up2_ne ha, fun j hj => up2_nk (by omega)⟩
theorem NmA.mt {μ μ' : Mm} {T : Tx} (h : NmA μ μ') (c : MT μ T) : MT μ' T := c.cg (h.2.2 11 (by decide)) (h.2.1 113 (by decide))
theorem in_fig {μ : Mm} {T : Tx} (hT : ∀ j, j < T.1 → T.2 j ≤ 255) (k : Nat) : f_X10_in μ (lc T k).toInt64 (48 : Int64) (57 : Int64) = some (bz (isF T k), μ) := by
  have e : (decide ((48 : Int32) ≤ lc T k) && decide (lc T k ≤ (57 : Int32))) = isF T k := by
    by_cases q : k < T.1
    · have h255 := hT k q
      rw [lc_in q]
      by_cases a : 48 ≤ T.2 k
      · by_cases b : T.2 k ≤ 57
        · rw [decide_eq_true (show (48 : Int32) ≤ nI (T.2 k) from nI_le (a := 48) a (by omega)), decide_eq_true (show nI (T.2 k) ≤ (57 : Int32) from nI_le (b := 57) b (by decide)), show isF T k = true from decide_eq_true ⟨q, a, b⟩]
          rfl
        · rw [decide_eq_false (show ¬ nI (T.2 k) ≤ (57 : Int32) from nI_ge (a := 57) (by omega) (by omega)), Bool.and_false, show isF T k = false from decide_eq_false (by omega)]
      · rw [decide_eq_false (show ¬ (48 : Int32) ≤ nI (T.2 k) from nI_ge (b := 48) (by omega) (by decide)), Bool.false_and, show isF T k = false from decide_eq_false (by omega)]
    · rw [lc_end (by omega), isF_f (by omega)]
      decide
  rw [← e]
  exact in_core μ (lc T k) 48 57
theorem num_y {T : Tx} {a k : Nat} (hf : isF T k = true) (ha : a ≤ k) : (10 : Int32) * nI (nvF T a (k - a)) + nI (T.2 k) - (48 : Int32) = nI (nvF T a (k + 1 - a)) := by
  have h := of_decide_eq_true hf
  rw [nI_10m, show k + 1 - a = (k - a) + 1 by omega]
  show nI (10 * nvF T a (k - a) + T.2 k) - nI 48 = nI (10 * nvF T a (k - a) + dgt T (a + (k - a)))
  rw [pk_sub (by omega), show a + (k - a) = k by omega]
  unfold dgt
  rw [show 10 * nvF T a (k - a) + T.2 k - 48 = 10 * nvF T a (k - a) + (T.2 k - 48) by omega]
/-- what the loop over figures keeps -/
def NL (μ : Mm) (T : Tx) (a k : Nat) : Prop := MT μ T ∧ μ.1 107 13 = nI k ∧ k ≤ T.1 ∧ a ≤ k ∧ μ.1 107 15 = nI a ∧ (k - a ≤ 5 → μ.1 107 14 = nI (nvF T a (k - a))) ∧ ∀ j, a ≤ j → j < k → isF T j = true
theorem tn_loop {P Q a : Nat} {T : Tx} {lo hi : Int32} : ∀ (m k f : Nat) (μ : Mm), m < f → μ.2 = RFt P Q → NL μ T a k → T.1 ≤ k + m →
    ∃ μ', f_X10_takeNumber_L42 f μ 107 lo hi = f_X10_takeNumber_j128 μ' 107 lo hi ∧ NmA μ μ' ∧ μ'.1 107 12 = μ.1 107 12 ∧ NL μ' T a (feF T m k) := by
  intro m
  induction m with
  | zero =>
    intro k f μ hf hr n hm
    obtain ⟨f, rfl⟩ := fs1 hf
    have h240 := n.1.1
    refine ⟨μ, ?_, NmA.rf, rfl, n⟩
    show f_X10_takeNumber_L42b _ _ _ _ _ = _
    unfold f_X10_takeNumber_L42b
    rw [n.1.2.2.1, n.2.1, if_pos (nI_le (by omega) (by have := n.2.2.1; omega))]
  | succ m ih =>
    intro k f μ hf hr n hm
    obtain ⟨f, rfl⟩ := fs1 hf
    obtain ⟨c, h13, hk, hak, h15, h14, hd⟩ := id n
    have h240 := c.1
    show ∃ μ', f_X10_takeNumber_L42b _ _ _ _ _ = _ ∧ NmA μ μ' ∧ μ'.1 107 12 = μ.1 107 12 ∧ NL μ' T a (if isF T k = true then feF T m (k + 1) else k)
    unfold f_X10_takeNumber_L42b
    by_cases q0 : k < T.1
    · rw [c.2.2.1, h13, if_neg (nI_ge q0 (by omega)), rd hr (rt_107_10 P Q), bR_s, ckb_n (show k < ln 113 by show k < 240; omega) (by decide), gd_t, nI_clamp (by omega), c.2.2.2 k q0, ← lc_in q0, in_fig c.2.1, bC_s]
      by_cases q : isF T k = true
      · have go : ∀ y : Int32, (k + 1 - a ≤ 5 → y = nI (nvF T a (k + 1 - a))) → ∃ μ', f_X10_takeNumber_j112 (f_X10_takeNumber_L42 f) μ 107 lo hi y 107 = f_X10_takeNumber_j128 μ' 107 lo hi ∧ NmA μ μ' ∧ μ'.1 107 12 = μ.1 107 12 ∧ NL μ' T a (feF T m (k + 1)) := by
          intro y hy
          have n1 : NmA μ (up2 (up2 μ.1 107 14 y) 107 13 (nI (k + 1)), μ.2) := (NmA.up (μ := μ) (s := 14) (v := y) (by decide)).tr (NmA.up (μ := (up2 μ.1 107 14 y, μ.2)) (s := 13) (by decide))
          obtain ⟨μ', e1, e2, e3, e4⟩ := ih (k + 1) f (up2 (up2 μ.1 107 14 y) 107 13 (nI (k + 1)), μ.2) (by omega) hr ⟨n1.mt c, rfl, by omega, by omega, h15, hy, fun j h1 h2 => by
            by_cases z : j = k
            · rw [z]; exact q
            · exact hd j h1 (by omega)⟩ (by omega)
          refine ⟨μ', ?_, n1.tr e2, e3, e4⟩
          rw [← e1]
          unfold f_X10_takeNumber_j112
          rw [bM_s, bM_s]
          show f_X10_takeNumber_L42 f (up2 (up2 μ.1 107 14 y) 107 13 (μ.1 107 13 + 1), μ.2) 107 lo hi = _
          rw [h13, nI_p1]
        rw [if_neg (bz_t q), if_pos q]
        by_cases z : μ.1 107 14 ≤ (1000000 : Int32)
        · rw [if_pos z, rd hr (rt_107_10 P Q), bR_s, h13, ckb_n (show k < ln 113 by show k < 240; omega) (by decide), gd_t, nI_clamp (by omega), c.2.2.2 k q0]
          exact go _ (fun w => by rw [h14 (by omega)]; exact num_y q hak)
        · rw [if_neg z]
          refine go _ (fun w => absurd ?_ z)
          have hv := nv5 (T := T) (a := a) (j := k - a) (fun i hi => hd (a + i) (by omega) (by omega)) (by omega)
          rw [h14 (by omega)]
          exact nI_le (b := 1000000) (by omega) (by decide)
      · rw [if_pos (bz_f (by simpa using q)), if_neg q]
        exact ⟨μ, rfl, NmA.rf, rfl, n⟩
    · rw [c.2.2.1, h13, if_pos (nI_le (by omega) (by omega)), if_neg (show ¬ isF T k = true by rw [isF_f (by omega)]; decide)]
      exact ⟨μ, rfl, NmA.rf, rfl, n⟩
theorem tn_in {μ : Mm} {v lo hi : Nat} (hv : v < 2 ^ 31) (hlo : lo < 2 ^ 31) (hhi : hi < 2 ^ 31) : f_X10_in μ (nI v).toInt64 (nI lo).toInt64 (nI hi).toInt64 = some (bz (decide (lo ≤ v ∧ v ≤ hi)), μ) := by
  have e : (decide (nI lo ≤ nI v) && decide (nI v ≤ nI hi)) = decide (lo ≤ v ∧ v ≤ hi) := by
    by_cases a : lo ≤ v
    · by_cases b : v ≤ hi
      · rw [decide_eq_true (nI_le a hv), decide_eq_true (nI_le b hhi), decide_eq_true (show lo ≤ v ∧ v ≤ hi from ⟨a, b⟩)]
        rfl
      · rw [decide_eq_false (nI_ge (show hi < v by omega) hv), Bool.and_false, decide_eq_false (show ¬ (lo ≤ v ∧ v ≤ hi) by omega)]
    · rw [decide_eq_false (nI_ge (show v < lo by omega) hlo), Bool.false_and, decide_eq_false (show ¬ (lo ≤ v ∧ v ≤ hi) by omega)]
  rw [← e]
  exact in_core μ (nI v) (nI lo) (nI hi)
theorem fe_1 {T : Tx} {k : Nat} : fe T k = k ↔ isF T k = false := by
  unfold fe
  constructor
  · intro h
    by_cases q : k < T.1
    · obtain ⟨n, hn⟩ : ∃ n, T.1 = n + 1 := ⟨T.1 - 1, by omega⟩
      rw [hn] at h
      by_cases z : isF T k = true
      · have h : (if isF T k = true then feF T n (k + 1) else k) = k := h
        rw [if_pos z] at h
        have := (feF_r (T := T) n (k + 1) (by omega)).1
        omega
      · simpa using z
    · exact isF_f (by omega)
  · intro h
    cases hn : T.1 with
    | zero => rfl
    | succ n =>
      show (if isF T k = true then feF T n (k + 1) else k) = k
      rw [h, if_neg (by decide)]
/-- the first fault is e.1, at e.2; x is answered -/
def Bd (μ : Mm) (x : Int32) (e : Nat × Nat) : Prop := (0 < e.1 ∧ e.1 < 5) ∧ x = nI e.1 ∧ μ.1 107 12 = nI e.2
theorem Bd.nle {μ : Mm} {x : Int32} {e : Nat × Nat} (b : Bd μ x e) : ¬ x ≤ 0 := by
  obtain ⟨⟨h1, h2⟩, h3, -⟩ := b
  rw [h3]
  exact nI_nle h1 (by omega)
theorem Bd.ne {μ : Mm} {x : Int32} {e : Nat × Nat} (b : Bd μ x e) : ¬ x = 0 := by
  obtain ⟨⟨h1, h2⟩, h3, -⟩ := b
  rw [h3]
  exact nI_ne0 h1 (by omega)
theorem Bd.cg {μ μ' : Mm} {x : Int32} {e : Nat × Nat} (b : Bd μ x e) (h : μ'.1 107 12 = μ.1 107 12) : Bd μ' x e := ⟨b.1, b.2.1, h.trans b.2.2⟩
/-- a number told: what the reference answers, what it leaves -/
theorem tk_num {P Q k lo hi : Nat} {T : Tx} {μ : Mm} {loI hiI : Int32} (hl : loI = nI lo) (hh : hiI = nI hi) (hlo : lo < 2 ^ 31) (hhi : hi < 2 ^ 31) (hr : μ.2 = RFt P Q) (g : GM μ T k) :
    ∃ x μ', f_X10_takeNumber μ 107 loI hiI = some (x, μ') ∧ NmA μ μ' ∧ (match rdN T lo hi k with
      | Sum.inl e => Bd μ' x e
      | Sum.inr y => x = 0 ∧ GM μ' T y.2 ∧ μ'.1 107 14 = nI y.1 ∧ μ'.1 107 15 = nI (sk T k)) := by
  subst hl hh
  have h240 := g.1.1
  obtain ⟨μ1, e1, e2, e3⟩ := g.hr hr
  have hr1 := e2.1.trans hr
  unfold f_X10_takeNumber f_X10_fails rdN
  rw [e1, bC_s, in_fig e3.1.2.1, bC_s]
  by_cases q1 : fe T (sk T k) = sk T k
  · rw [if_pos (bz_f (fe_1.mp q1)), if_pos q1, bM_s, bC_s]
    exact ⟨1, _, rfl, e2.nm.tr (NmA.up (by decide)), show Bd _ 1 (1, sk T k) from ⟨show 0 < 1 ∧ 1 < 5 by decide, rfl, e3.2.2.1⟩⟩
  · have qt : isF T (sk T k) = true := by
      cases z : isF T (sk T k) with
      | true => rfl
      | false => exact absurd (fe_1.mpr z) q1
    rw [if_neg (bz_t qt), if_neg q1, bM_s, bM_s, e3.2.2.1]
    have n1 : NmA μ1 (up2 (up2 μ1.1 107 15 (nI (sk T k))) 107 14 0, μ1.2) := (NmA.up (μ := μ1) (s := 15) (by decide)).tr (NmA.up (μ := (up2 μ1.1 107 15 (nI (sk T k)), μ1.2)) (s := 14) (by decide))
    obtain ⟨μ2, d1, d2, d3, d4⟩ := tn_loop (P := P) (Q := Q) (a := sk T k) (T := T) (lo := nI lo) (hi := nI hi) T.1 (sk T k) FU (up2 (up2 μ1.1 107 15 (nI (sk T k))) 107 14 0, μ1.2) (by rw [FU_eq]; omega) hr1 ⟨n1.mt e3.1, e3.2.2.1, e3.2.2.2, Nat.le_refl _, rfl, fun _ => by rw [Nat.sub_self]; rfl, fun j h1 h2 => absurd h2 (by omega)⟩ (by omega)
    have d4 : NL μ2 T (sk T k) (fe T (sk T k)) := d4
    obtain ⟨c, h13, hk, hak, h15, h14, hd⟩ := d4
    have hnm : NmA μ μ2 := (e2.nm.tr n1).tr d2
    have h12 : μ2.1 107 12 = -1 := d3.trans e3.2.1
    have hbad : f_X10_takeNumber_j156 μ2 107 = some (2, (up2 μ2.1 107 12 (nI (sk T k)), μ2.2)) := by
      unfold f_X10_takeNumber_j156 f_X10_fails
      rw [h15, bM_s, bC_s]
    have hout : ∃ x μ', some ((2 : Int32), (up2 μ2.1 107 12 (nI (sk T k)), μ2.2)) = some (x, μ') ∧ NmA μ μ' ∧ Bd μ' x (2, sk T k) := ⟨2, _, rfl, hnm.tr (NmA.up (by decide)), show 0 < 2 ∧ 2 < 5 by decide, rfl, rfl⟩
    show ∃ x μ', f_X10_takeNumber_L42 FU (up2 (up2 μ1.1 107 15 (nI (sk T k))) 107 14 0, μ1.2) 107 (nI lo) (nI hi) = some (x, μ') ∧ NmA μ μ' ∧ _
    rw [d1]
    unfold f_X10_takeNumber_j128
    rw [hbad, h13, h15, pk_sub hak]
    by_cases q3 : 5 < fe T (sk T k) - sk T k
    · rw [if_pos (show (5 : Int32) < nI (fe T (sk T k) - sk T k) from nI_lt (a := 5) q3 (by omega)), if_pos (Or.inl q3)]
      exact hout
    · have hv := nv5 (T := T) (a := sk T k) (j := fe T (sk T k) - sk T k) (fun i hi => hd (sk T k + i) (by omega) (by omega)) (by omega)
      rw [if_neg (show ¬ (5 : Int32) < nI (fe T (sk T k) - sk T k) from nI_nlt (a := 5) (by omega) (by omega)), h14 (by omega), tn_in (by omega) hlo hhi, bC_s, hbad]
      by_cases q4 : lo ≤ nvF T (sk T k) (fe T (sk T k) - sk T k) ∧ nvF T (sk T k) (fe T (sk T k) - sk T k) ≤ hi
      · rw [if_neg (bz_t (decide_eq_true q4)), if_neg (by omega)]
        exact ⟨0, μ2, rfl, hnm, rfl, ⟨c, h12, h13, hk⟩, h14 (by omega), h15⟩
      · rw [if_pos (bz_f (decide_eq_false q4)), if_pos (by omega)]
        exact hout
