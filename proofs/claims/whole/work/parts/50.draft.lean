/-! the draft, told clause by clause -/
abbrev Dr : Type := Hs × Bt
def bnd {α β : Type} (r : Sum (Nat × Nat) α) (g : α → Sum (Nat × Nat) β) : Sum (Nat × Nat) β := match r with
  | Sum.inl e => Sum.inl e
  | Sum.inr x => g x
theorem bnd_l {α β : Type} (e : Nat × Nat) (g : α → Sum (Nat × Nat) β) : bnd (Sum.inl e) g = Sum.inl e := rfl
theorem bnd_r {α β : Type} (x : α) (g : α → Sum (Nat × Nat) β) : bnd (Sum.inr x) g = g x := rfl
def dSz (D : Dr) (c r : Nat) : Dr := (up2 (up2 D.1 0 0 c) 0 1 r, D.2)
def dHt (D : Dr) (v : Nat) : Dr := (up2 (up2 D.1 1 (D.1 0 4) v) 0 4 (D.1 0 4 + 1), D.2)
def dIt (D : Dr) (a b l : Nat) : Dr := (up2 (up2 (up2 (up2 D.1 2 (hN D.1) a) 3 (hN D.1) b) 4 (hN D.1) l) 0 2 (hN D.1 + 1), D.2)
def dPe (D : Dr) (T : Tx) (a : Nat) : Dr := (up2 D.1 0 3 (hM D.1 + 1), fun p => if p = hM D.1 then (fun i => dgt T (a + i)) else D.2 p)
def szF (T : Tx) (D : Dr) (k : Nat) : Sum (Nat × Nat) (Dr × Nat) := bnd (rdN T 1 5 k) (fun x => bnd (rdN T 1 4 x.2) (fun z => Sum.inr (dSz D x.1 z.1, z.2)))
def htF (T : Tx) : Nat → Dr → Nat → Sum (Nat × Nat) (Dr × Nat)
  | 0, _, k => Sum.inl (1, k)
  | m + 1, D, k => bnd (rdN T 0 9 k) (fun x => if lc T (sk T x.2) = 44 ∧ m ≠ 0 then htF T m (dHt D x.1) (sk T x.2 + 1) else Sum.inr (dHt D x.1, sk T x.2))
def bhd (C x z : Nat) : Bool := decide (z / C < x / C ∨ z % C < x % C)
def itF (T : Tx) (D : Dr) (k : Nat) : Sum (Nat × Nat) (Dr × Nat) :=
  bnd (rdN T 0 (hZ D.1 - 1) k) (fun x => bnd (rdN T 0 (hZ D.1 - 1) x.2) (fun z => if bhd (hC D.1) x.1 z.1 = true then Sum.inl (4, sk T x.2) else bnd (rdN T 0 9 z.2) (fun w => Sum.inr (dIt D x.1 z.1 w.1, w.2))))
def okd (T : Tx) (a : Nat) : Nat → Bool
  | 0 => true
  | i + 1 => okd T a i && decide (dgt T (a + i) ≤ 2)
def peF (T : Tx) (D : Dr) (k : Nat) : Sum (Nat × Nat) (Dr × Nat) :=
  if fe T (sk T k) = sk T k then Sum.inl (1, sk T k) else if fe T (sk T k) - sk T k = 5 ∧ okd T (sk T k) 5 = true then Sum.inr (dPe D T (sk T k), fe T (sk T k)) else Sum.inl (2, sk T k)
def cls (T : Tx) (r : Sum (Nat × Nat) (Dr × Nat)) : Sum (Nat × Nat) (Dr × Nat) := bnd r (fun x => bnd (clz T x.2) (fun k => Sum.inr (x.1, k)))
def clF (T : Tx) (D : Dr) (k : Nat) : Sum (Nat × Nat) (Dr × Nat) :=
  if hC D.1 = 0 then (if lc T k = 104 then cls T (szF T D (k + 1)) else Sum.inl (1, k))
  else if lc T k = 104 then Sum.inl (3, k)
  else if lc T k = 103 then (if 0 < D.1 0 4 then Sum.inl (3, k) else cls T (htF T 20 D (k + 1)))
  else if lc T k = 105 then (if 5 ≤ hN D.1 then Sum.inl (3, k) else cls T (itF T D (k + 1)))
  else if lc T k = 112 then (if 7 ≤ hM D.1 then Sum.inl (3, k) else cls T (peF T D (k + 1)))
  else Sum.inl (1, k)
def DOK (D : Dr) : Prop := hC D.1 ≤ 5 ∧ hR D.1 ≤ 4 ∧ hN D.1 ≤ 5 ∧ hM D.1 ≤ 7 ∧ D.1 0 4 ≤ 20 ∧ (hC D.1 = 0 → hR D.1 = 0 ∧ hN D.1 = 0 ∧ hM D.1 = 0 ∧ D.1 0 4 = 0) ∧ (0 < hC D.1 → 0 < hR D.1) ∧ (∀ j, j < D.1 0 4 → D.1 1 j ≤ 9) ∧
  (∀ i, i < hN D.1 → D.1 2 i < hZ D.1 ∧ D.1 3 i < hZ D.1 ∧ D.1 2 i / hC D.1 ≤ D.1 3 i / hC D.1 ∧ D.1 2 i % hC D.1 ≤ D.1 3 i % hC D.1 ∧ D.1 4 i ≤ 9) ∧ (∀ p, p < hM D.1 → ∀ i, i < 5 → D.2 p i ≤ 2)
def CD (μ : Mm) (W : Nat) (D : Dr) : Prop := μ.1 W 0 = nI (hC D.1) ∧ μ.1 W 1 = nI (hR D.1) ∧ μ.1 W 2 = nI (hZ D.1) ∧ μ.1 W 3 = nI (hN D.1) ∧ μ.1 W 4 = nI (hM D.1) ∧ μ.1 W 5 = nI (D.1 0 4) ∧
  (∀ j, j < D.1 0 4 → μ.1 (W + 1) j = nI (D.1 1 j)) ∧ (∀ i, i < hN D.1 → μ.1 (W + 2) i = nI (oS D.1 i) ∧ μ.1 (W + 3) i = nI (D.1 4 i) ∧ μ.1 (W + 4) i = nI (D.1 2 i % hC D.1)) ∧
  (∀ i, i < 5 → μ.1 (W + 6) i = nI (yS D.1 D.2 i) ∧ μ.1 (W + 7) i = nI (nS D.1 D.2 i)) ∧ μ.1 (W + 5) 2 = 0 ∧ μ.1 (W + 5) 3 = -1
theorem CD.cg {μ μ' : Mm} {W : Nat} {D : Dr} (c : CD μ W D) (e : ∀ a, W ≤ a → a ≤ W + 7 → μ'.1 a = μ.1 a) : CD μ' W D := by
  unfold CD
  rw [e W (by omega) (by omega), e (W + 1) (by omega) (by omega), e (W + 2) (by omega) (by omega), e (W + 3) (by omega) (by omega), e (W + 4) (by omega) (by omega), e (W + 5) (by omega) (by omega), e (W + 6) (by omega) (by omega), e (W + 7) (by omega) (by omega)]
  exact c
theorem CD.x1 {μ μ' : Mm} {W : Nat} {D : Dr} (c : CD μ W D) (hW : W = 3 ∨ W = 11) (g : Ag μ μ' X1) : CD μ' W D := c.cg (fun a h1 h2 => g.2 a (by omega))
abbrev XW (W a : Nat) : Prop := a = 1 ∨ (W ≤ a ∧ a ≤ W + 7)
theorem GD.w {μ μ' : Mm} {T : Tx} {k : Nat} (g : GD μ T k) (e1 : μ'.1 1 = μ.1 1) (e2 : μ'.1 2 = μ.1 2) : GD μ' T k :=
  ⟨g.1.cg (by rw [e1]) e2, by rw [e1]; exact g.2.1, by rw [e1]; exact g.2.2.1, by rw [e1]; exact g.2.2.2.1, g.2.2.2.2⟩
/-- what became of a clause -/
def OutC (μ : Mm) (T : Tx) (W : Nat) (r : Sum (Nat × Nat) (Dr × Nat)) : Prop := match r with
  | Sum.inl e => BD μ T e.1 e.2
  | Sum.inr x => GD μ T x.2 ∧ CD μ W x.1
set_option maxRecDepth 100000 in
theorem rt_w6 {W : Nat} (P Q : Nat) (hW : W = 3 ∨ W = 11) : RFt P Q W 6 = some (W + 1) := by rcases hW with rfl | rfl <;> rfl
set_option maxRecDepth 100000 in
theorem rt_w7 {W : Nat} (P Q : Nat) (hW : W = 3 ∨ W = 11) : RFt P Q W 7 = some (W + 2) := by rcases hW with rfl | rfl <;> rfl
set_option maxRecDepth 100000 in
theorem rt_w8 {W : Nat} (P Q : Nat) (hW : W = 3 ∨ W = 11) : RFt P Q W 8 = some (W + 3) := by rcases hW with rfl | rfl <;> rfl
set_option maxRecDepth 100000 in
theorem rt_w9 {W : Nat} (P Q : Nat) (hW : W = 3 ∨ W = 11) : RFt P Q W 9 = some (W + 4) := by rcases hW with rfl | rfl <;> rfl
set_option maxRecDepth 100000 in
theorem rt_w10 {W : Nat} (P Q : Nat) (hW : W = 3 ∨ W = 11) : RFt P Q W 10 = some (W + 5) := by rcases hW with rfl | rfl <;> rfl
theorem hZ_20 {D : Dr} (d : DOK D) : hZ D.1 ≤ 20 := Nat.le_trans (Nat.mul_le_mul d.1 d.2.1) (by decide)
/-! sizes -/
theorem rdN_v {T : Tx} {lo hi k v e : Nat} (h : rdN T lo hi k = Sum.inr (v, e)) : lo ≤ v ∧ v ≤ hi ∧ k < e ∧ (k ≤ T.1 → e ≤ T.1) := by
  unfold rdN at h
  by_cases q1 : fe T (sk T k) = sk T k
  · rw [if_pos q1] at h; cases h
  · rw [if_neg q1] at h
    by_cases q2 : 5 < fe T (sk T k) - sk T k ∨ nvF T (sk T k) (fe T (sk T k) - sk T k) < lo ∨ hi < nvF T (sk T k) (fe T (sk T k) - sk T k)
    · rw [if_pos q2] at h; cases h
    · rw [if_neg q2] at h
      cases h
      have h1 := sk_ge T k
      have h2 := fe_ge T (sk T k)
      exact ⟨by omega, by omega, by omega, fun w => fe_le (sk_le w)⟩
theorem size_c {P Q W k : Nat} {T : Tx} {μ : Mm} {D : Dr} (hW : W = 3 ∨ W = 11) (hr : μ.2 = RFt P Q) (g : GD μ T k) (c : CD μ W D) (d : DOK D) (h0 : hC D.1 = 0) :
    ∃ μ', f_X7_readSize μ 1 W = some μ' ∧ Ag μ μ' (XW W) ∧ OutC μ' T W (szF T D k) := by
  unfold f_X7_readSize szF
  rcases h1 : rdN T 1 5 k with ⟨fl, w⟩ | ⟨x, k1⟩
  · obtain ⟨v, μ1, e1, e2, e3⟩ := num_f (loI := 1) (hiI := 5) rfl rfl (by decide) (by decide) hr g h1
    have hr1 := e2.1.trans hr
    obtain ⟨v2, μ2, d1, d2, d3⟩ := num_b 1 4 hr1 e3
    rw [e1, bC_s, d1, bC_s, if_neg d3.ne, bnd_l]
    exact ⟨μ2, rfl, (e2.tr d2).wk (fun a q => Or.inl q), d3⟩
  · obtain ⟨μ1, e1, e2, e3, e4⟩ := num_g (loI := 1) (hiI := 5) rfl rfl (by decide) (by decide) hr g h1
    have hr1 := e2.1.trans hr
    rw [e1, bC_s, bnd_r]
    dsimp only
    rcases h2 : rdN T 1 4 k1 with ⟨fl, w⟩ | ⟨z, k2⟩
    · obtain ⟨v2, μ2, d1, d2, d3⟩ := num_f (loI := 1) (hiI := 4) rfl rfl (by decide) (by decide) hr1 e3 h2
      rw [d1, bC_s, if_neg d3.ne, bnd_l]
      exact ⟨μ2, rfl, (e2.tr d2).wk (fun a q => Or.inl q), d3⟩
    · obtain ⟨μ2, d1, d2, d3, d4⟩ := num_g (loI := 1) (hiI := 4) rfl rfl (by decide) (by decide) hr1 e3 h2
      have c2 := (c.x1 hW e2).x1 hW d2
      have hh := d.2.2.2.2.2.1 h0
      have gu : Ag μ2 (up2 (up2 (up2 μ2.1 W 0 (nI x)) W 1 (nI z)) W 2 (nI (x * z)), μ2.2) (fun a => a = W) := ((Ag.up (X := fun a => a = W) rfl).u1 rfl).u1 rfl
      rw [d1, bC_s, if_pos d3.2.1, bnd_r]
      refine ⟨(up2 (up2 (up2 μ2.1 W 0 (nI x)) W 1 (nI z)) W 2 (nI (x * z)), μ2.2), ?_, ((e2.tr d2).wk (fun a q => Or.inl q)).tr (gu.wk (fun a q => Or.inr (by omega))), d3.w (gu.2 1 (by omega)) (gu.2 2 (by omega)), ?_⟩
      · unfold f_X4_setSize
        rw [bM_s, bM_s, bM_s, pk_mul, bV_s]
      · obtain ⟨c1', c2', c3', c4', c5', c6', c7', c8', c9', c10', c11'⟩ := c2
        refine ⟨?_, ?_, ?_, ?_, ?_, ?_, fun j hj => absurd hj ?_, fun i hi => absurd hi ?_, fun i hi => ?_, ?_, ?_⟩
        · show up2 (up2 (up2 μ2.1 W 0 (nI x)) W 1 (nI z)) W 2 (nI (x * z)) W 0 = _
          rw [up2_nk (by decide), up2_nk (by decide), up2_at]
          rfl
        · show up2 (up2 (up2 μ2.1 W 0 (nI x)) W 1 (nI z)) W 2 (nI (x * z)) W 1 = _
          rw [up2_nk (by decide), up2_at]
          rfl
        · show up2 (up2 (up2 μ2.1 W 0 (nI x)) W 1 (nI z)) W 2 (nI (x * z)) W 2 = _
          rw [up2_at]
          rfl
        · show up2 (up2 (up2 μ2.1 W 0 (nI x)) W 1 (nI z)) W 2 (nI (x * z)) W 3 = _
          rw [up2_nk (by decide), up2_nk (by decide), up2_nk (by decide)]
          exact c4'
        · show up2 (up2 (up2 μ2.1 W 0 (nI x)) W 1 (nI z)) W 2 (nI (x * z)) W 4 = _
          rw [up2_nk (by decide), up2_nk (by decide), up2_nk (by decide)]
          exact c5'
        · show up2 (up2 (up2 μ2.1 W 0 (nI x)) W 1 (nI z)) W 2 (nI (x * z)) W 5 = _
          rw [up2_nk (by decide), up2_nk (by decide), up2_nk (by decide)]
          exact c6'
        · show ¬ j < D.1 0 4
          omega
        · show ¬ i < hN D.1
          omega
        · rw [gu.2 (W + 6) (by omega), gu.2 (W + 7) (by omega)]
          exact c9' i hi
        · rw [gu.2 (W + 5) (by omega)]
          exact c10'
        · rw [gu.2 (W + 5) (by omega)]
          exact c11'
/-! heights -/
theorem addH_c {P Q W k v : Nat} {T : Tx} {μ : Mm} {D : Dr} (hW : W = 3 ∨ W = 11) (hr : μ.2 = RFt P Q) (g : GD μ T k) (c : CD μ W D) (ht : D.1 0 4 < 20) :
    ∃ μ', f_X4_addHeight μ W (nI v) = some μ' ∧ Ag μ μ' (XW W) ∧ GD μ' T k ∧ CD μ' W (dHt D v) := by
  obtain ⟨c1, c2, c3, c4, c5, c6, c7, c8, c9, c10, c11⟩ := c
  obtain ⟨μ1, e1, T1⟩ := one_run (a := W) (k := 5) v (fun μ9 => some μ9) hr (rt_w6 P Q hW) (L := 20) (lnP1 hW) ht (by decide) c6 (by omega)
  have g1 : Ag μ μ1 (fun a => a = W ∨ a = W + 1) := T1.ag (Or.inl rfl) (Or.inr rfl)
  refine ⟨μ1, ?_, g1.wk (fun a q => Or.inr (by omega)), g.w (g1.2 1 (by omega)) (g1.2 2 (by omega)), ?_⟩
  · unfold f_X4_addHeight
    rw [if_neg (show ¬ μ.1 W 5 < 0 by rw [c6]; exact nI_pos (by omega)), rd hr (rt_w6 P Q hW), bR_s, if_neg (show ¬ Int32.ofNat (ln (W + 1)) ≤ μ.1 W 5 by rw [c6, lnP1 hW]; exact nI_ge (show D.1 0 4 < 20 from ht) (by decide))]
    rw [rd hr (rt_w6 P Q hW)] at e1
    exact e1
  · have s : ∀ k', k' ≠ 5 → μ1.1 W k' = μ.1 W k' := T1.2.2.1
    refine ⟨by rw [s 0 (by decide)]; exact c1, by rw [s 1 (by decide)]; exact c2, by rw [s 2 (by decide)]; exact c3, by rw [s 3 (by decide)]; exact c4, by rw [s 4 (by decide)]; exact c5, T1.2.2.2.1, fun j hj => ?_, fun i hi => ?_, fun i hi => ?_, ?_, ?_⟩
    · have hj : j < D.1 0 4 + 1 := hj
      rw [T1.2.2.2.2 (D.1 1) c7 j hj]
      show nI (put (D.1 1) (D.1 0 4) v j) = nI (up2 D.1 1 (D.1 0 4) v 1 j)
      by_cases q : j = D.1 0 4
      · rw [q, put_at, up2_at]
      · rw [put_ne q, up2_nk q]
    · rw [g1.2 (W + 2) (by omega), g1.2 (W + 3) (by omega), g1.2 (W + 4) (by omega)]
      exact c8 i hi
    · rw [g1.2 (W + 6) (by omega), g1.2 (W + 7) (by omega)]
      exact c9 i hi
    · rw [g1.2 (W + 5) (by omega)]
      exact c10
    · rw [g1.2 (W + 5) (by omega)]
      exact c11
theorem heights_loop {P Q W : Nat} {T : Tx} (hW : W = 3 ∨ W = 11) : ∀ (m f k : Nat) (D : Dr) (μ : Mm), μ.2 = RFt P Q → GD μ T k → CD μ W D → D.1 0 4 + (m + 1) = 20 → m + 1 < f →
    ∃ μ', f_X7_readHeights_L2 f μ 1 W (nI (D.1 0 4 + 1)) = some μ' ∧ Ag μ μ' (XW W) ∧ OutC μ' T W (htF T (m + 1) D k) := by
  intro m
  induction m with
  | zero =>
    intro f k D μ hr g c hm hf
    obtain ⟨f, rfl⟩ := fs1 hf
    have h240 := g.1.1
    show ∃ μ', f_X7_readHeights_L2b _ _ _ _ _ = _ ∧ _ ∧ OutC μ' T W (bnd (rdN T 0 9 k) (fun x => if lc T (sk T x.2) = 44 ∧ 0 ≠ 0 then htF T 0 (dHt D x.1) (sk T x.2 + 1) else Sum.inr (dHt D x.1, sk T x.2)))
    unfold f_X7_readHeights_L2b f_X7_readHeights_j39
    rw [if_neg (show ¬ (20 : Int32) < nI (D.1 0 4 + 1) from nI_nlt (a := 20) (by omega) (by omega)), if_pos g.2.1]
    rcases h1 : rdN T 0 9 k with ⟨fl, w⟩ | ⟨x, k1⟩
    · obtain ⟨v, μ1, e1, e2, e3⟩ := num_f (loI := 0) (hiI := 9) rfl rfl (by decide) (by decide) hr g h1
      have hr1 := e2.1.trans hr
      obtain ⟨μ2, d1, d2, d3⟩ := e3.skp hr1
      have hr2 := d2.1.trans hr1
      obtain ⟨kk, hk, h4⟩ := d3.2.2.2.2
      rw [e1, bC_s, d1, bV_s, if_neg d3.ne, h4, letterAt_eq hr2 d3.1 (by omega), bC_s, bnd_l, if_pos (show nI (D.1 0 4 + 1) = (20 : Int32) by rw [show D.1 0 4 + 1 = 20 by omega]; rfl)]
      refine ⟨μ2, ?_, (e2.tr d2).wk (fun a q => Or.inl q), d3⟩
      split <;> rfl
    · obtain ⟨μ1, e1, e2, e3, e4⟩ := num_g (loI := 0) (hiI := 9) rfl rfl (by decide) (by decide) hr g h1
      have hr1 := e2.1.trans hr
      obtain ⟨μ2, d1, d2, d3⟩ := e3.skp hr1
      have hr2 := d2.1.trans hr1
      obtain ⟨μ3, f1, f2, f3, f4⟩ := addH_c (v := x) hW hr2 d3 ((c.x1 hW e2).x1 hW d2) (by omega)
      have hr3 := f2.1.trans hr2
      have hle := d3.2.2.2.2
      rw [e1, bC_s, d1, bV_s, if_pos d3.2.1, f1, bV_s, f3.2.2.2.1, letterAt_eq hr3 f3.1 (by omega), bC_s, bnd_r, if_pos (show nI (D.1 0 4 + 1) = (20 : Int32) by rw [show D.1 0 4 + 1 = 20 by omega]; rfl)]
      dsimp only
      rw [if_neg (show ¬ (lc T (sk T k1) = 44 ∧ 0 ≠ 0) from fun q => q.2 rfl)]
      refine ⟨μ3, ?_, ((e2.tr d2).wk (fun a q => Or.inl q)).tr f2, f3, f4⟩
      split <;> rfl
  | succ m ih =>
    intro f k D μ hr g c hm hf
    obtain ⟨f, rfl⟩ := fs1 hf
    have h240 := g.1.1
    show ∃ μ', f_X7_readHeights_L2b _ _ _ _ _ = _ ∧ _ ∧ OutC μ' T W (bnd (rdN T 0 9 k) (fun x => if lc T (sk T x.2) = 44 ∧ m + 1 ≠ 0 then htF T (m + 1) (dHt D x.1) (sk T x.2 + 1) else Sum.inr (dHt D x.1, sk T x.2)))
    unfold f_X7_readHeights_L2b f_X7_readHeights_j39
    rw [if_neg (show ¬ (20 : Int32) < nI (D.1 0 4 + 1) from nI_nlt (a := 20) (by omega) (by omega)), if_pos g.2.1]
    have h20 : ¬ nI (D.1 0 4 + 1) = (20 : Int32) := nI_ne (b := 20) (by omega) (by omega) (by omega)
    rcases h1 : rdN T 0 9 k with ⟨fl, w⟩ | ⟨x, k1⟩
    · obtain ⟨v, μ1, e1, e2, e3⟩ := num_f (loI := 0) (hiI := 9) rfl rfl (by decide) (by decide) hr g h1
      have hr1 := e2.1.trans hr
      obtain ⟨μ2, d1, d2, d3⟩ := e3.skp hr1
      have hr2 := d2.1.trans hr1
      obtain ⟨kk, hk, h4⟩ := d3.2.2.2.2
      rw [e1, bC_s, d1, bV_s, if_neg d3.ne, h4, letterAt_eq hr2 d3.1 (by omega), bC_s, bnd_l, if_neg h20]
      by_cases q : lc T kk = 44
      · have hl := lc_lt q (by decide)
        have b3 : BD (up2 μ2.1 1 4 (nI (kk + 1)), μ2.2) T fl w := ⟨d3.1.at4, d3.2.1, d3.2.2.1, d3.2.2.2.1, kk + 1, by omega, rfl⟩
        rw [if_pos q, h4, nI_p1, bM_s]
        refine ⟨(up2 μ2.1 1 4 (nI (kk + 1)), μ2.2), ?_, ((e2.tr d2).tr (Ag.up rfl)).wk (fun a q => Or.inl q), b3⟩
        obtain ⟨f, rfl⟩ : ∃ g, f = g + 1 := ⟨f - 1, by omega⟩
        show f_X7_readHeights_L2b _ _ _ _ _ = _
        unfold f_X7_readHeights_L2b
        rw [if_neg b3.ne]
        split <;> rfl
      · rw [if_neg q]
        exact ⟨μ2, rfl, (e2.tr d2).wk (fun a q => Or.inl q), d3⟩
    · obtain ⟨μ1, e1, e2, e3, e4⟩ := num_g (loI := 0) (hiI := 9) rfl rfl (by decide) (by decide) hr g h1
      have hr1 := e2.1.trans hr
      obtain ⟨μ2, d1, d2, d3⟩ := e3.skp hr1
      have hr2 := d2.1.trans hr1
      obtain ⟨μ3, f1, f2, f3, f4⟩ := addH_c (v := x) hW hr2 d3 ((c.x1 hW e2).x1 hW d2) (by omega)
      have hr3 := f2.1.trans hr2
      have hle := d3.2.2.2.2
      have gA : Ag μ μ3 (XW W) := ((e2.tr d2).wk (fun a q => Or.inl q)).tr f2
      rw [e1, bC_s, d1, bV_s, if_pos d3.2.1, f1, bV_s, f3.2.2.2.1, letterAt_eq hr3 f3.1 (by omega), bC_s, bnd_r, if_neg h20]
      dsimp only
      by_cases q : lc T (sk T k1) = 44
      · have hl := lc_lt q (by decide)
        have gu : Ag μ3 (up2 μ3.1 1 4 (nI (sk T k1 + 1)), μ3.2) X1 := Ag.up rfl
        obtain ⟨μ4, k1', k2', k3'⟩ := ih f (sk T k1 + 1) (dHt D x) (up2 μ3.1 1 4 (nI (sk T k1 + 1)), μ3.2) hr3 ⟨f3.1.at4, f3.2.1, f3.2.2.1, rfl, by omega⟩ (f4.x1 hW gu) (by show D.1 0 4 + 1 + (m + 1) = 20; omega) (by omega)
        rw [if_pos q, f3.2.2.2.1, nI_p1, bM_s, nI_p1, if_pos ⟨q, by omega⟩]
        exact ⟨μ4, k1', (gA.tr (gu.wk (fun a q => Or.inl q))).tr k2', k3'⟩
      · rw [if_neg q, if_neg (fun z => q z.1)]
        exact ⟨μ3, rfl, gA, f3, f4⟩
