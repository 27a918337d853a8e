/-! the reference's draft, told clause by clause -/
/-- the draft, with the counts of items and persons as they stand -/
def MX (μ : Mm) (D : Dr) (n p : Nat) : Prop := μ.1 114 0 = nI (hC D.1) ∧ μ.1 114 1 = nI (hR D.1) ∧ μ.1 107 18 = nI (D.1 0 4) ∧ (∀ j, j < D.1 0 4 → μ.1 115 j = nI (D.1 1 j)) ∧ μ.1 107 19 = nI n ∧
  (∀ i, i < hN D.1 → μ.1 116 i = nI (D.1 2 i) ∧ μ.1 117 i = nI (D.1 3 i) ∧ μ.1 118 i = nI (D.1 4 i)) ∧ μ.1 107 23 = nI p ∧ ∀ q, q < hM D.1 → ∀ i, i < 5 → μ.1 119 (5 * q + i) = nI (D.2 q i)
def MD (μ : Mm) (D : Dr) : Prop := MX μ D (hN D.1) (hM D.1)
theorem MX.cg {μ μ' : Mm} {D : Dr} {n p : Nat} (c : MX μ D n p) (e : ∀ a, 114 ≤ a → a ≤ 119 → μ'.1 a = μ.1 a) (e7 : ∀ s, s = 18 ∨ s = 19 ∨ s = 23 → μ'.1 107 s = μ.1 107 s) : MX μ' D n p := by
  unfold MX
  rw [e 114 (by decide) (by decide), e 115 (by decide) (by decide), e 116 (by decide) (by decide), e 117 (by decide) (by decide), e 118 (by decide) (by decide), e 119 (by decide) (by decide), e7 18 (Or.inl rfl), e7 19 (Or.inr (Or.inl rfl)), e7 23 (Or.inr (Or.inr rfl))]
  exact c
theorem MX.nm {μ μ' : Mm} {D : Dr} {n p : Nat} (c : MX μ D n p) (h : NmA μ μ') : MX μ' D n p := c.cg (fun a h1 h2 => h.2.1 a (by omega)) (fun s hs => h.2.2 s (by omega))
theorem MD.nm {μ μ' : Mm} {D : Dr} (c : MD μ D) (h : NmA μ μ') : MD μ' D := MX.nm c h
/-- only the reader's own changed: slots 12 to 15, 18, 19, 23, rows 114 to 119 -/
def RdA (μ μ' : Mm) : Prop := μ'.2 = μ.2 ∧ (∀ a, a ≠ 107 → ¬ (114 ≤ a ∧ a ≤ 119) → μ'.1 a = μ.1 a) ∧ ∀ s, ¬ (12 ≤ s ∧ s ≤ 15 ∨ s = 18 ∨ s = 19 ∨ s = 23) → μ'.1 107 s = μ.1 107 s
theorem RdA.rf {μ : Mm} : RdA μ μ := ⟨rfl, fun _ _ _ => rfl, fun _ _ => rfl⟩
theorem RdA.tr {μ μ1 μ2 : Mm} (h : RdA μ μ1) (g : RdA μ1 μ2) : RdA μ μ2 := ⟨g.1.trans h.1, fun a h1 h2 => (g.2.1 a h1 h2).trans (h.2.1 a h1 h2), fun s hs => (g.2.2 s hs).trans (h.2.2 s hs)⟩
theorem NmA.rd {μ μ' : Mm} (h : NmA μ μ') : RdA μ μ' := ⟨h.1, fun a h1 _ => h.2.1 a h1, fun s hs => h.2.2 s (fun q => hs (Or.inl q))⟩
theorem RdA.us {μ : Mm} {s : Nat} {v : Int32} (h : 12 ≤ s ∧ s ≤ 15 ∨ s = 18 ∨ s = 19 ∨ s = 23) : RdA μ (up2 μ.1 107 s v, μ.2) := ⟨rfl, fun a h1 _ => up2_ne h1, fun j hj => up2_nk (fun q => hj (by rw [q]; exact h))⟩
/-- a row's place written, and a number read -/
def Wr (μ μ' : Mm) (a i : Nat) : Prop := μ'.2 = μ.2 ∧ (∀ b, b ≠ 107 → b ≠ a → μ'.1 b = μ.1 b) ∧ (∀ j, j ≠ i → μ'.1 a j = μ.1 a j) ∧ ∀ s, ¬ (12 ≤ s ∧ s ≤ 15) → μ'.1 107 s = μ.1 107 s
theorem Wr.rd {μ μ' : Mm} {a i : Nat} (w : Wr μ μ' a i) (ha : 114 ≤ a ∧ a ≤ 119) : RdA μ μ' := ⟨w.1, fun b h1 h2 => w.2.1 b h1 (fun q => h2 (by rw [q]; exact ha)), fun s hs => w.2.2.2 s (fun q => hs (Or.inl q))⟩
theorem GM.cg {μ μ' : Mm} {T : Tx} {k : Nat} (g : GM μ T k) (e : μ'.1 113 = μ.1 113) (e7 : ∀ s, s = 11 ∨ s = 12 ∨ s = 13 → μ'.1 107 s = μ.1 107 s) : GM μ' T k :=
  ⟨g.1.cg (e7 11 (Or.inl rfl)) e, (e7 12 (Or.inr (Or.inl rfl))).trans g.2.1, (e7 13 (Or.inr (Or.inr rfl))).trans g.2.2.1, g.2.2.2⟩
theorem into_eq {P Q k lo hi a i L : Nat} {T : Tx} {μ : Mm} {loI hiI : Int32} (hl : loI = nI lo) (hh : hiI = nI hi) (hlo : lo < 2 ^ 31) (hhi : hi < 2 ^ 31) (hr : μ.2 = RFt P Q) (g : GM μ T k) (ha : 114 ≤ a ∧ a ≤ 119) (hln : ln a = L) (hi' : i < L) (hL : L < 2 ^ 31) :
    ∃ x μ', f_X10_into μ 107 a (nI i) loI hiI = some (x, μ') ∧ Wr μ μ' a i ∧ (match rdN T lo hi k with
      | Sum.inl e => Bd μ' x e
      | Sum.inr y => x = 0 ∧ GM μ' T y.2 ∧ μ'.1 107 15 = nI (sk T k) ∧ μ'.1 a i = nI y.1) := by
  obtain ⟨x, μ1, e1, e2, e3⟩ := tk_num hl hh hlo hhi hr g
  have e4 : f_X10_into μ 107 a (nI i) loI hiI = some (x, (up2 μ1.1 a i (μ1.1 107 14), μ1.2)) := by
    unfold f_X10_into
    rw [e1, bC_s, hln, ckb_n hi' hL, gd_t, nI_clamp (by omega), bM_s]
  have h7 : ∀ s, up2 μ1.1 a i (μ1.1 107 14) 107 s = μ1.1 107 s := fun s => up2_na (by omega)
  refine ⟨x, _, e4, ⟨e2.1, fun b h1 h2 => (up2_ne h2).trans (e2.2.1 b h1), fun j hj => (up2_nk hj).trans (congrFun (e2.2.1 a (by omega)) j), fun s hs => (h7 s).trans (e2.2.2 s hs)⟩, ?_⟩
  rcases h : rdN T lo hi k with e | y
  · rw [h] at e3
    have e3 : Bd μ1 x e := e3
    exact e3.cg (h7 12)
  · rw [h] at e3
    obtain ⟨f1, f2, f3, f4⟩ := e3
    exact ⟨f1, f2.cg (up2_ne (by omega)) (fun s _ => h7 s), (h7 15).trans f4, (up2_at _ a i _).trans f3⟩
def OutM (μ : Mm) (T : Tx) (x : Int32) (r : Sum (Nat × Nat) (Dr × Nat)) : Prop := match r with
  | Sum.inl e => Bd μ x e
  | Sum.inr y => x = 0 ∧ GM μ T y.2 ∧ MD μ y.1
/-! sizes -/
theorem size_m {P Q k : Nat} {T : Tx} {μ : Mm} {D : Dr} (hr : μ.2 = RFt P Q) (g : GM μ T k) (c : MD μ D) :
    ∃ x μ', f_X10_takeSize μ 107 = some (x, μ') ∧ RdA μ μ' ∧ OutM μ' T x (szF T D k) := by
  obtain ⟨x1, μ1, e1, e2, e3⟩ := into_eq (a := 114) (i := 0) (L := 2) (lo := 1) (hi := 5) (loI := 1) (hiI := 5) rfl rfl (by decide) (by decide) hr g (by decide) rfl (by decide) (by decide)
  have hr1 := e2.1.trans hr
  have r1 : RdA μ μ1 := e2.rd (by decide)
  unfold f_X10_takeSize szF
  rw [rd hr (rt_107_16 P Q), bR_s, show f_X10_into μ 107 114 (0 : Int32) 1 5 = some (x1, μ1) from e1, bC_s]
  rcases h1 : rdN T 1 5 k with e | ⟨c1, k1⟩
  · rw [h1] at e3
    have e3 : Bd μ1 x1 e := e3
    rw [if_neg e3.nle, bnd_l]
    exact ⟨x1, μ1, rfl, r1, e3⟩
  · rw [h1] at e3
    obtain ⟨f1, f2, f3, f4⟩ := e3
    have f2 : GM μ1 T k1 := f2
    obtain ⟨x2, μ2, d1, d2, d3⟩ := into_eq (a := 114) (i := 1) (L := 2) (lo := 1) (hi := 4) (loI := 1) (hiI := 4) rfl rfl (by decide) (by decide) hr1 f2 (by decide) rfl (by decide) (by decide)
    have r2 : RdA μ1 μ2 := d2.rd (by decide)
    rw [if_pos (show x1 ≤ 0 by rw [f1]; decide), rd hr1 (rt_107_16 P Q), bR_s, show f_X10_into μ1 107 114 (1 : Int32) 1 4 = some (x2, μ2) from d1, bC_s, bnd_r]
    dsimp only
    rcases h2 : rdN T 1 4 k1 with e | ⟨r, k2⟩
    · rw [h2] at d3
      rw [bnd_l]
      exact ⟨x2, μ2, rfl, r1.tr r2, d3⟩
    · rw [h2] at d3
      obtain ⟨l1, l2, l3, l4⟩ := d3
      obtain ⟨c1', c2', c3', c4', c5', c6', c7', c8'⟩ := c
      have rw7 : ∀ s, ¬ (12 ≤ s ∧ s ≤ 15) → μ2.1 107 s = μ.1 107 s := fun s hs => (d2.2.2.2 s hs).trans (e2.2.2.2 s hs)
      have rwb : ∀ b, b ≠ 107 → b ≠ 114 → μ2.1 b = μ.1 b := fun b h1 h2 => (d2.2.1 b h1 h2).trans (e2.2.1 b h1 h2)
      rw [bnd_r]
      refine ⟨x2, μ2, rfl, r1.tr r2, l1, l2, ?_⟩
      refine ⟨(d2.2.2.1 0 (by decide)).trans f4, l4, (rw7 18 (by decide)).trans c3', fun j hj => ?_, (rw7 19 (by decide)).trans c5', fun i hi => ?_, (rw7 23 (by decide)).trans c7', fun q hq i hi => ?_⟩
      · rw [rwb 115 (by decide) (by decide)]; exact c4' j hj
      · rw [rwb 116 (by decide) (by decide), rwb 117 (by decide) (by decide), rwb 118 (by decide) (by decide)]; exact c6' i hi
      · rw [rwb 119 (by decide) (by decide)]; exact c8' q hq i hi
/-! the clause's end -/
theorem cls_m {P Q : Nat} {T : Tx} {μ : Mm} {x : Int32} {r : Sum (Nat × Nat) (Dr × Nat)} (hr : μ.2 = RFt P Q) (o : OutM μ T x r) : ∃ x' μ', f_X10_takeClause_j214 μ 107 x = some (x', μ') ∧ RdA μ μ' ∧ OutM μ' T x' (cls T r) := by
  unfold f_X10_takeClause_j214 f_X10_takeClause_j240 f_X10_fails cls
  rcases r with e | ⟨D, k⟩
  · have o : Bd μ x e := o
    rw [if_neg o.ne, bM_s, bnd_l]
    exact ⟨x, _, rfl, RdA.us (Or.inl (by decide)), o.cg rfl⟩
  · obtain ⟨o1, o2, o3⟩ : x = 0 ∧ GM μ T k ∧ MD μ D := o
    obtain ⟨μ1, e1, e2, e3⟩ := o2.hr hr
    have h240 := o2.1.1
    rw [if_pos o1, e1, bC_s, bnd_r]
    dsimp only
    unfold clz
    by_cases q : lc T (sk T k) = 59
    · have hl := lc_lt q (by decide)
      rw [if_pos q, if_pos q, bM_s, bnd_r, e3.2.2.1, nI_p1]
      exact ⟨x, _, rfl, e2.nm.rd.tr (RdA.us (Or.inl (by decide))), o1, ⟨e3.1.cg rfl rfl, e3.2.1, rfl, hl⟩, MX.cg (o3.nm e2.nm) (fun a h1 h2 => up2_ne (by omega)) (fun s hs => up2_nk (by omega))⟩
    · rw [if_neg q, if_neg q, bM_s, bC_s, bnd_l]
      exact ⟨1, _, rfl, e2.nm.rd.tr (RdA.us (Or.inl (by decide))), show Bd _ 1 (1, sk T k) from ⟨show 0 < 1 ∧ 1 < 5 by decide, rfl, e3.2.2.1⟩⟩
/-! heights -/
theorem gr_half {P Q m f k : Nat} {T : Tx} {D : Dr} {μ : Mm}
    (ih : ∀ (k : Nat) (D : Dr) (μ : Mm), μ.2 = RFt P Q → GM μ T k → MD μ D → D.1 0 4 + m = 20 → ∃ x μ', bC (f_X10_takeGround_L18 f μ 107 0) (fun r μ1 => f_X10_takeClause_j214 μ1 107 r) = some (x, μ') ∧ RdA μ μ' ∧ OutM μ' T x (cls T (if lc T (sk T k) = 44 ∧ m ≠ 0 then htF T m D (sk T k + 1) else Sum.inr (D, sk T k))))
    (hf : 0 < f) (hr : μ.2 = RFt P Q) (g : GM μ T k) (c : MD μ D) (hm : D.1 0 4 + (m + 1) = 20) :
    ∃ x μ9, f_X10_into μ 107 115 (nI (D.1 0 4)) 0 9 = some (x, μ9) ∧ μ9.1 107 18 = nI (D.1 0 4) ∧ ∃ y μ', bC (f_X10_takeGround_L18 f (up2 μ9.1 107 18 (nI (D.1 0 4 + 1)), μ9.2) 107 x) (fun r μ1 => f_X10_takeClause_j214 μ1 107 r) = some (y, μ') ∧ RdA μ μ' ∧ OutM μ' T y (cls T (htF T (m + 1) D k)) := by
  obtain ⟨x, μ9, d1, d2, d3⟩ := into_eq (a := 115) (i := D.1 0 4) (L := 20) (lo := 0) (hi := 9) (loI := 0) (hiI := 9) rfl rfl (by decide) (by decide) hr g (by decide) rfl (by omega) (by decide)
  have hr9 := d2.1.trans hr
  have r9 : RdA μ (up2 μ9.1 107 18 (nI (D.1 0 4 + 1)), μ9.2) := (d2.rd (by decide)).tr (RdA.us (Or.inr (Or.inl rfl)))
  obtain ⟨c1', c2', c3', c4', c5', c6', c7', c8'⟩ := c
  refine ⟨x, μ9, d1, (d2.2.2.2 18 (by decide)).trans c3', ?_⟩
  show ∃ y μ', _ = some (y, μ') ∧ RdA μ μ' ∧ OutM μ' T y (cls T (bnd (rdN T 0 9 k) (fun x => if lc T (sk T x.2) = 44 ∧ m ≠ 0 then htF T m (dHt D x.1) (sk T x.2 + 1) else Sum.inr (dHt D x.1, sk T x.2))))
  rcases h : rdN T 0 9 k with e | ⟨v, e⟩
  · rw [h] at d3
    have d3 : Bd μ9 x e := d3
    obtain ⟨f, rfl⟩ : ∃ g, f = g + 1 := ⟨f - 1, by omega⟩
    have b3 : Bd (up2 μ9.1 107 18 (nI (D.1 0 4 + 1)), μ9.2) x e := d3.cg rfl
    obtain ⟨x', μ', l1, l2, l3⟩ := cls_m (T := T) (P := P) (Q := Q) (μ := (up2 μ9.1 107 18 (nI (D.1 0 4 + 1)), μ9.2)) (x := x) (r := Sum.inl e) hr9 b3
    rw [bnd_l]
    refine ⟨x', μ', ?_, r9.tr l2, l3⟩
    show bC (f_X10_takeGround_L18b _ _ _ _) _ = _
    unfold f_X10_takeGround_L18b
    rw [if_neg d3.ne, bC_s]
    exact l1
  · rw [h] at d3
    obtain ⟨f1, f2, f3, f4⟩ := d3
    have f2 : GM μ9 T e := f2
    have f4 : μ9.1 115 (D.1 0 4) = nI v := f4
    have h7 : ∀ s, s ≠ 18 → ¬ (12 ≤ s ∧ s ≤ 15) → up2 μ9.1 107 18 (nI (D.1 0 4 + 1)) 107 s = μ.1 107 s := fun s h1 h2 => (up2_nk h1).trans (d2.2.2.2 s h2)
    have hb : ∀ b, b ≠ 107 → b ≠ 115 → up2 μ9.1 107 18 (nI (D.1 0 4 + 1)) b = μ.1 b := fun b h1 h2 => (up2_ne h1).trans (d2.2.1 b h1 h2)
    obtain ⟨y, μ', l1, l2, l3⟩ := ih e (dHt D v) (up2 μ9.1 107 18 (nI (D.1 0 4 + 1)), μ9.2) hr9 (f2.cg rfl (fun s hs => up2_nk (by omega))) (by
      refine ⟨?_, ?_, rfl, fun j hj => ?_, (h7 19 (by decide) (by decide)).trans c5', fun i hi => ?_, (h7 23 (by decide) (by decide)).trans c7', fun q hq i hi => ?_⟩
      · show up2 μ9.1 107 18 (nI (D.1 0 4 + 1)) 114 0 = _
        rw [hb 114 (by decide) (by decide)]; exact c1'
      · show up2 μ9.1 107 18 (nI (D.1 0 4 + 1)) 114 1 = _
        rw [hb 114 (by decide) (by decide)]; exact c2'
      · have hj : j < D.1 0 4 + 1 := hj
        show up2 μ9.1 107 18 (nI (D.1 0 4 + 1)) 115 j = nI (up2 D.1 1 (D.1 0 4) v 1 j)
        rw [up2_na (by decide)]
        by_cases q : j = D.1 0 4
        · rw [q, up2_at]; exact f4
        · rw [up2_nk q, d2.2.2.1 j q]
          exact c4' j (by omega)
      · show up2 μ9.1 107 18 (nI (D.1 0 4 + 1)) 116 i = _ ∧ up2 μ9.1 107 18 (nI (D.1 0 4 + 1)) 117 i = _ ∧ up2 μ9.1 107 18 (nI (D.1 0 4 + 1)) 118 i = _
        rw [hb 116 (by decide) (by decide), hb 117 (by decide) (by decide), hb 118 (by decide) (by decide)]
        exact c6' i hi
      · show up2 μ9.1 107 18 (nI (D.1 0 4 + 1)) 119 (5 * q + i) = _
        rw [hb 119 (by decide) (by decide)]
        exact c8' q hq i hi) (by show D.1 0 4 + 1 + m = 20; omega)
    rw [bnd_r, f1]
    exact ⟨y, μ', l1, r9.tr l2, l3⟩
theorem ground_L {P Q : Nat} {T : Tx} : ∀ (m f k : Nat) (D : Dr) (μ : Mm), m + 1 < f → μ.2 = RFt P Q → GM μ T k → MD μ D → D.1 0 4 + m = 20 →
    ∃ x μ', bC (f_X10_takeGround_L18 f μ 107 0) (fun r μ1 => f_X10_takeClause_j214 μ1 107 r) = some (x, μ') ∧ RdA μ μ' ∧ OutM μ' T x (cls T (if lc T (sk T k) = 44 ∧ m ≠ 0 then htF T m D (sk T k + 1) else Sum.inr (D, sk T k))) := by
  intro m
  induction m with
  | zero =>
    intro f k D μ hf hr g c hm
    obtain ⟨f, rfl⟩ : ∃ g, f = g + 1 := ⟨f - 1, by omega⟩
    obtain ⟨μ1, e1, e2, e3⟩ := g.hr hr
    have hr1 := e2.1.trans hr
    rw [if_neg (show ¬ (lc T (sk T k) = 44 ∧ 0 ≠ 0) from fun w => w.2 rfl)]
    show ∃ x μ', bC (f_X10_takeGround_L18b _ _ _ _) _ = _ ∧ _
    unfold f_X10_takeGround_L18b f_X10_fails
    rw [if_pos rfl, e1, bC_s]
    by_cases q : lc T (sk T k) = 44
    · have h18 : μ1.1 107 18 = (20 : Int32) := by
        rw [e2.2.2.1 18 (by decide), c.2.2.1, show D.1 0 4 = 20 by omega]; rfl
      rw [if_pos q, if_pos h18, bM_s, bC_s, bC_s]
      unfold f_X10_takeClause_j214 f_X10_takeClause_j240 cls clz
      rw [if_neg (show ¬ (1 : Int32) = 0 by decide), bM_s, bnd_r]
      dsimp only
      rw [sk_id (sk_nb T k), if_neg (show ¬ lc T (sk T k) = 59 by rw [q]; decide), bnd_l]
      exact ⟨1, _, rfl, (e2.nm.rd.tr (RdA.us (Or.inl (by decide)))).tr (RdA.us (Or.inl (by decide))), show Bd _ 1 (1, sk T k) from ⟨show 0 < 1 ∧ 1 < 5 by decide, rfl, e3.2.2.1⟩⟩
    · rw [if_neg q, bC_s]
      obtain ⟨x', μ', d1, d2, d3⟩ := cls_m (r := Sum.inr (D, sk T k)) (x := 0) (T := T) hr1 ⟨rfl, e3, c.nm e2.nm⟩
      exact ⟨x', μ', d1, e2.nm.rd.tr d2, d3⟩
  | succ m ih =>
    intro f k D μ hf hr g c hm
    obtain ⟨f, rfl⟩ : ∃ g, f = g + 1 := ⟨f - 1, by omega⟩
    obtain ⟨μ1, e1, e2, e3⟩ := g.hr hr
    have hr1 := e2.1.trans hr
    have h240 := g.1.1
    have hs := e3.2.2.2
    show ∃ x μ', bC (f_X10_takeGround_L18b _ _ _ _) _ = _ ∧ _
    unfold f_X10_takeGround_L18b f_X10_fails
    rw [if_pos rfl, e1, bC_s]
    by_cases q : lc T (sk T k) = 44
    · have hl := lc_lt q (by decide)
      have h18 : μ1.1 107 18 = nI (D.1 0 4) := by rw [e2.2.2.1 18 (by decide)]; exact c.2.2.1
      have g7 : GM (up2 μ1.1 107 13 (nI (sk T k + 1)), μ1.2) T (sk T k + 1) := ⟨e3.1.cg rfl rfl, e3.2.1, rfl, hl⟩
      have c7 : MD (up2 μ1.1 107 13 (nI (sk T k + 1)), μ1.2) D := MX.cg (c.nm e2.nm) (fun a h1 h2 => up2_ne (by omega)) (fun s hs => up2_nk (by omega))
      obtain ⟨x, μ9, d1, d2, y, μ', d3, d4, d5⟩ := gr_half (P := P) (Q := Q) (m := m) (f := f) (fun k D μ => ih f k D μ (by omega)) (by omega) (μ := (up2 μ1.1 107 13 (nI (sk T k + 1)), μ1.2)) hr1 g7 c7 (by omega)
      rw [if_pos q, if_neg (show ¬ μ1.1 107 18 = (20 : Int32) by rw [h18]; exact nI_ne (b := 20) (by omega) (by omega) (by omega)), if_pos ⟨q, by omega⟩, bM_s, e3.2.2.1, nI_p1]
      refine ⟨y, μ', ?_, (e2.nm.rd.tr (RdA.us (Or.inl (by decide)))).tr d4, d5⟩
      show bC (bR (μ1.2 107 17) (fun b8 => bC (f_X10_into (up2 μ1.1 107 13 (nI (sk T k + 1)), μ1.2) 107 b8 (μ1.1 107 18) 0 9) (fun r10 μ9 => bM (up2 μ9.1 107 18 (μ9.1 107 18 + 1), μ9.2) (fun μ12 => f_X10_takeGround_L18 f μ12 107 r10)))) _ = _
      rw [rd hr1 (rt_107_17 P Q), bR_s, h18, d1, bC_s, d2, nI_p1, bM_s]
      exact d3
    · rw [if_neg q, bC_s, if_neg (fun w => q w.1)]
      obtain ⟨x', μ', d1, d2, d3⟩ := cls_m (r := Sum.inr (D, sk T k)) (x := 0) (T := T) hr1 ⟨rfl, e3, c.nm e2.nm⟩
      exact ⟨x', μ', d1, e2.nm.rd.tr d2, d3⟩
theorem ground_m {P Q k : Nat} {T : Tx} {μ : Mm} {D : Dr} (hr : μ.2 = RFt P Q) (g : GM μ T k) (c : MD μ D) (h0 : D.1 0 4 = 0) :
    ∃ x μ', bC (f_X10_takeGround μ 107) (fun r μ1 => f_X10_takeClause_j214 μ1 107 r) = some (x, μ') ∧ RdA μ μ' ∧ OutM μ' T x (cls T (htF T 20 D k)) := by
  obtain ⟨x, μ9, d1, d2, y, μ', d3, d4, d5⟩ := gr_half (P := P) (Q := Q) (m := 19) (f := FU) (T := T) (fun k D μ => ground_L 19 FU k D μ (by rw [FU_eq]; omega)) (by rw [FU_eq]; omega) hr g c (by omega)
  refine ⟨y, μ', ?_, d4, d5⟩
  rw [h0] at d1 d3
  unfold f_X10_takeGround
  rw [rd hr (rt_107_17 P Q), bR_s, show f_X10_into μ 107 115 (0 : Int32) 0 9 = some (x, μ9) from d1, bC_s, bM_s]
  exact d3
