/-! the state of both, and what keeps it -/
abbrev St : Type := (Hs × (Bt × ((Nat → Bt) × (Nat → Bt)))) × (Nat → Nat → Nat)
def sH (σ : St) : Hs := σ.1.1
def sB (σ : St) : Bt := σ.1.2.1
def sU (σ : St) : Nat → Bt := σ.1.2.2.1
def sM (σ : St) : Nat → Bt := σ.1.2.2.2
def OKs (σ : St) : Prop := hok (sH σ) ∧ bok (sH σ) (sB σ) ∧ (σ.2 0 0 ≤ 20 ∧ ∀ j, j < σ.2 0 0 → bok (sH σ) (sU σ j)) ∧ σ.2 0 5 < 20 ∧ σ.2 0 1 < 2 ^ 31 ∧ (σ.2 0 2 ≤ 240 ∧ ∀ j, j < σ.2 0 2 → σ.2 1 j ≤ 255) ∧
  (σ.2 0 3 ≤ 6 ∧ ∀ j, j < σ.2 0 3 → σ.2 2 j < hZ (sH σ) ∧ σ.2 3 j < hZ (sH σ)) ∧ (σ.2 0 4 ≤ 15 ∧ ∀ j, j < σ.2 0 4 → σ.2 4 j < hZ (sH σ) ∧ σ.2 5 j ≤ 9) ∧
  ∀ i, i < 2 → σ.2 6 i ≤ 1 ∧ (σ.2 6 i = 1 → bok (sH σ) (sM σ i) ∧ σ.2 7 i < 2 ^ 31)
/-- where the j-th oldest of what may be undone lies in the ring -/
def ring (nx ul j : Nat) : Nat := (nx + 20 - ul + j) % 20
def CI (P : Nat) (μ : Mm) (σ : St) : Prop := CH μ P (sH σ) ∧ CB μ 19 (sH σ) (sB σ) ∧
  (μ.1 22 1 = nI (σ.2 0 0) ∧ μ.1 22 2 = nI (σ.2 0 5) ∧ ∀ j, j < σ.2 0 0 → CB μ (24 + 3 * ring (σ.2 0 5) (σ.2 0 0) j) (sH σ) (sU σ j)) ∧ μ.1 85 0 = nI (σ.2 0 1) ∧
  (μ.1 1 1 = nI (σ.2 0 2) ∧ ∀ j, j < σ.2 0 2 → μ.1 2 j = nI (σ.2 1 j)) ∧
  (μ.1 86 4 = nI (σ.2 0 3) ∧ ∀ j, j < σ.2 0 3 → μ.1 87 j = nI (σ.2 2 j) ∧ μ.1 88 j = nI (σ.2 3 j)) ∧
  (μ.1 86 5 = nI (σ.2 0 4) ∧ ∀ j, j < σ.2 0 4 → μ.1 89 j = nI (σ.2 4 j) ∧ μ.1 90 j = nI (σ.2 5 j)) ∧
  ∀ i, i < 2 → μ.1 (99 + 4 * i) 2 = nI (σ.2 6 i) ∧ (σ.2 6 i = 1 → CB μ (100 + 4 * i) (sH σ) (sM σ i) ∧ μ.1 (99 + 4 * i) 1 = nI (σ.2 7 i))
def MI (μ : Mm) (σ : St) : Prop := MH μ (sH σ) ∧ MB μ 112 0 (sH σ) (sB σ) ∧
  (μ.1 107 27 = nI (σ.2 0 0) ∧ ∀ j, j < σ.2 0 0 → MB μ 122 (37 * j) (sH σ) (sU σ j)) ∧ μ.1 107 9 = nI (σ.2 0 1) ∧
  (μ.1 107 11 = nI (σ.2 0 2) ∧ ∀ j, j < σ.2 0 2 → μ.1 113 j = nI (σ.2 1 j)) ∧
  (μ.1 107 30 = nI (σ.2 0 3) ∧ ∀ j, j < σ.2 0 3 → μ.1 124 j = nI (σ.2 2 j) ∧ μ.1 125 j = nI (σ.2 3 j)) ∧
  (μ.1 107 34 = nI (σ.2 0 4) ∧ ∀ j, j < σ.2 0 4 → μ.1 127 j = nI (σ.2 4 j) ∧ μ.1 128 j = nI (σ.2 5 j)) ∧
  ∀ i, i < 2 → μ.1 130 i = nI (σ.2 6 i) ∧ (σ.2 6 i = 1 → MB μ 129 (38 * i) (sH σ) (sM σ i) ∧ μ.1 129 (38 * i + 37) = nI (σ.2 7 i))
def HY (σ : St) (P Q : Nat) (μ : Mm) : Prop := (P = 3 ∧ Q = 11 ∨ P = 11 ∧ Q = 3) ∧ μ.2 = RFt P Q ∧ OKs σ ∧ CI P μ σ ∧ MI μ σ ∧ μ.1 0 3 = μ.1 107 12
def Inv (μ : Mm) : Prop := ∃ σ P Q, HY σ P Q μ
theorem HY.p {σ : St} {P Q : Nat} {μ : Mm} (y : HY σ P Q μ) : P = 3 ∨ P = 11 := by
  rcases y.1 with q | q
  · exact Or.inl q.1
  · exact Or.inr q.1
theorem ring_lt (nx ul j : Nat) : ring nx ul j < 20 := Nat.mod_lt _ (by decide)
theorem CI.ag {P : Nat} {μ μ' : Mm} {σ : St} {X : Nat → Prop} (c : CI P μ σ) (hP : P = 3 ∨ P = 11) (g : Ag μ μ' X) (hX : ∀ a, a ≤ 90 ∨ (99 ≤ a ∧ a ≤ 106) → ¬ X a) : CI P μ' σ := by
  obtain ⟨c1, c2, ⟨c3, c4, c5⟩, c6, ⟨c7, c8⟩, ⟨c9, c10⟩, ⟨c11, c12⟩, c13⟩ := c
  refine ⟨c1.as hP g (fun a h => hX a (by omega)), c2.ag g (hX _ (by omega)) (hX _ (by omega)) (hX _ (by omega)), ⟨?_, ?_, fun j hj => ?_⟩, ?_, ⟨?_, fun j hj => ?_⟩, ⟨?_, fun j hj => ?_⟩, ⟨?_, fun j hj => ?_⟩, fun i hi => ?_⟩
  · rw [g.2 22 (hX _ (by omega))]; exact c3
  · rw [g.2 22 (hX _ (by omega))]; exact c4
  · have := ring_lt (σ.2 0 5) (σ.2 0 0) j
    exact (c5 j hj).ag g (hX _ (by omega)) (hX _ (by omega)) (hX _ (by omega))
  · rw [g.2 85 (hX _ (by omega))]; exact c6
  · rw [g.2 1 (hX _ (by omega))]; exact c7
  · rw [g.2 2 (hX _ (by omega))]; exact c8 j hj
  · rw [g.2 86 (hX _ (by omega))]; exact c9
  · rw [g.2 87 (hX _ (by omega)), g.2 88 (hX _ (by omega))]; exact c10 j hj
  · rw [g.2 86 (hX _ (by omega))]; exact c11
  · rw [g.2 89 (hX _ (by omega)), g.2 90 (hX _ (by omega))]; exact c12 j hj
  · rw [g.2 (99 + 4 * i) (hX _ (by omega))]
    refine ⟨(c13 i hi).1, fun q => ⟨((c13 i hi).2 q).1.ag g (hX _ (by omega)) (hX _ (by omega)) (hX _ (by omega)), ((c13 i hi).2 q).2⟩⟩
theorem MI.ag {μ μ' : Mm} {σ : St} {X : Nat → Prop} (c : MI μ σ) (g : Ag μ μ' X) (hX : ∀ a, (107 ≤ a ∧ a ≤ 113) ∨ a = 122 ∨ a = 124 ∨ a = 125 ∨ 127 ≤ a → ¬ X a) : MI μ' σ := by
  obtain ⟨c1, c2, ⟨c3, c5⟩, c6, ⟨c7, c8⟩, ⟨c9, c10⟩, ⟨c11, c12⟩, c13⟩ := c
  have e107 := g.2 107 (hX _ (by omega))
  refine ⟨c1.ag g (hX _ (by omega)) (hX _ (by omega)) (hX _ (by omega)) (hX _ (by omega)) (hX _ (by omega)), c2.ag g (hX _ (by omega)), ⟨?_, fun j hj => ?_⟩, ?_, ⟨?_, fun j hj => ?_⟩, ⟨?_, fun j hj => ?_⟩, ⟨?_, fun j hj => ?_⟩, fun i hi => ?_⟩
  · rw [e107]; exact c3
  · exact (c5 j hj).ag g (hX _ (by omega))
  · rw [e107]; exact c6
  · rw [e107]; exact c7
  · rw [g.2 113 (hX _ (by omega))]; exact c8 j hj
  · rw [e107]; exact c9
  · rw [g.2 124 (hX _ (by omega)), g.2 125 (hX _ (by omega))]; exact c10 j hj
  · rw [e107]; exact c11
  · rw [g.2 127 (hX _ (by omega)), g.2 128 (hX _ (by omega))]; exact c12 j hj
  · rw [g.2 130 (hX _ (by omega)), g.2 129 (hX _ (by omega))]
    exact ⟨(c13 i hi).1, fun q => ⟨((c13 i hi).2 q).1.ag g (hX _ (by omega)), ((c13 i hi).2 q).2⟩⟩
abbrev Xc (a : Nat) : Prop := 91 ≤ a ∧ a ≤ 98
abbrev Xm (a : Nat) : Prop := a = 120 ∨ a = 121 ∨ a = 123 ∨ a = 126
theorem HY.c {σ : St} {P Q : Nat} {μ μ' : Mm} (y : HY σ P Q μ) (g : Ag μ μ' Xc) : HY σ P Q μ' :=
  ⟨y.1, g.1.trans y.2.1, y.2.2.1, y.2.2.2.1.ag y.p g (fun a h => by omega), y.2.2.2.2.1.ag g (fun a h => by omega), by rw [g.2 0 (by omega), g.2 107 (by omega)]; exact y.2.2.2.2.2⟩
theorem HY.m {σ : St} {P Q : Nat} {μ μ' : Mm} (y : HY σ P Q μ) (g : Ag μ μ' Xm) : HY σ P Q μ' :=
  ⟨y.1, g.1.trans y.2.1, y.2.2.1, y.2.2.2.1.ag y.p g (fun a h => by omega), y.2.2.2.2.1.ag g (fun a h => by omega), by rw [g.2 0 (by omega), g.2 107 (by omega)]; exact y.2.2.2.2.2⟩
theorem HY.i {σ : St} {P Q : Nat} {μ : Mm} (y : HY σ P Q μ) : Inv μ := ⟨σ, P, Q, y⟩
theorem HY.hk {σ : St} {P Q : Nat} {μ : Mm} (y : HY σ P Q μ) : hok (sH σ) := y.2.2.1.1
theorem HY.bk {σ : St} {P Q : Nat} {μ : Mm} (y : HY σ P Q μ) : bok (sH σ) (sB σ) := y.2.2.1.2.1
theorem HY.ch {σ : St} {P Q : Nat} {μ : Mm} (y : HY σ P Q μ) : CH μ P (sH σ) := y.2.2.2.1.1
theorem HY.cb {σ : St} {P Q : Nat} {μ : Mm} (y : HY σ P Q μ) : CB μ 19 (sH σ) (sB σ) := y.2.2.2.1.2.1
theorem HY.mh {σ : St} {P Q : Nat} {μ : Mm} (y : HY σ P Q μ) : MH μ (sH σ) := y.2.2.2.2.1.1
theorem HY.mb {σ : St} {P Q : Nat} {μ : Mm} (y : HY σ P Q μ) : MB μ 112 0 (sH σ) (sB σ) := y.2.2.2.2.1.2.1
/-! who is there -/
theorem hasCell_eq {σ : St} {P Q : Nat} {μ : Mm} (y : HY σ P Q μ) (x : Int32) : f_X4_hasCell μ P x = some (bz (inI x (hZ (sH σ))), μ) := by
  unfold f_X4_hasCell
  rw [y.ch.2.2.1]
  exact has_core μ x _ (by have := y.hk.z; omega)
theorem hasItem_eq {σ : St} {P Q : Nat} {μ : Mm} (y : HY σ P Q μ) (x : Int32) : f_X4_hasItem μ P x = some (bz (inI x (hN (sH σ))), μ) := by
  unfold f_X4_hasItem
  rw [y.ch.2.2.2.1]
  exact has_core μ x _ (by have := y.hk.2.2.1; omega)
theorem hasPerson_eq {σ : St} {P Q : Nat} {μ : Mm} (y : HY σ P Q μ) (x : Int32) : f_X4_hasPerson μ P x = some (bz (inI x (hM (sH σ))), μ) := by
  unfold f_X4_hasPerson
  rw [y.ch.2.2.2.2.1]
  exact has_core μ x _ (by have := y.hk.2.2.2.1; omega)
theorem isCell_eq {σ : St} {P Q : Nat} {μ : Mm} (y : HY σ P Q μ) (x : Int32) : f_X10_isCell μ 107 x = some (bz (inI x (hZ (sH σ))), μ) := by
  unfold f_X10_isCell
  rw [mcells_eq y.mh, bC_s, in_n μ x (by have := y.hk.z; omega), bC_s, ckz_bz, gd_t]
theorem isItem_eq {σ : St} {P Q : Nat} {μ : Mm} (y : HY σ P Q μ) (x : Int32) : f_X10_isItem μ 107 x = some (bz (inI x (hN (sH σ))), μ) := by
  unfold f_X10_isItem
  rw [y.mh.2.2.2.1, in_n μ x (by have := y.hk.2.2.1; omega), bC_s, ckz_bz, gd_t]
theorem isPerson_eq {σ : St} {P Q : Nat} {μ : Mm} (y : HY σ P Q μ) (x : Int32) : f_X10_isPerson μ 107 x = some (bz (inI x (hM (sH σ))), μ) := by
  unfold f_X10_isPerson
  rw [y.mh.2.2.2.2.1, in_n μ x (by have := y.hk.2.2.2.1; omega), bC_s, ckz_bz, gd_t]
theorem bz_f {b : Bool} (h : b = false) : bz b = 0 := by rw [h]; rfl
theorem bz_t {b : Bool} (h : b = true) : ¬ bz b = 0 := by rw [h]; decide
/-! shaping, both -/
theorem HY.sh {σ : St} {P Q : Nat} {μ : Mm} (y : HY σ P Q μ) : ∃ μ', f_X9_shapeNow μ 0 = some μ' ∧ Ag μ μ' Xc ∧ CX μ' (sH σ) (stand (sH σ) (sB σ)) := by
  obtain ⟨μ', e1, e2, e3⟩ := shapeNow_eq y.p y.hk y.2.1 y.ch y.cb
  exact ⟨μ', e1, e2.wk (fun a q => by omega), e3.x⟩
theorem HY.lk {σ : St} {P Q : Nat} {μ : Mm} (y : HY σ P Q μ) : ∃ μ', f_X10_lookNow μ 107 = some μ' ∧ Ag μ μ' Xm ∧ MW μ' (stand (sH σ) (sB σ)) (hN (sH σ)) ∧ MG μ' (sH σ) (stand (sH σ) (sB σ)) := by
  obtain ⟨μ', e1, e2, e3, e4⟩ := mlook_eq y.hk y.bk y.2.1 y.mh y.mb
  exact ⟨μ', e1, e2.wk (fun a q => by rcases q with q | q; exact Or.inl q; exact Or.inr (Or.inl q)), e3, e4⟩
/-! the methods -/
theorem st_fault : Sp0 Inv f_X9_fault f_X10_fault := by
  intro μ hI
  obtain ⟨σ, P, Q, y⟩ := id hI
  exact ⟨μ.1 0 3, μ, μ, rfl, by unfold f_X10_fault; rw [y.2.2.2.2.2], hI⟩
theorem recount_loop (μ μ' : Mm) (x q : Int32) : ∀ (f : Nat) (o : Int64) (k : Int32) (r : Int32), f_X9_recount_L30 f μ x q o k = some (r, μ) → f_X10_recount_L34 f μ' x q o k = some (r, μ') := by
  intro f
  induction f with
  | zero => intro o k r h; cases (show (none : Option (Int32 × Mm)) = _ from h)
  | succ f ih =>
    intro o k r h
    have h : f_X9_recount_L30b (f_X9_recount_L30 f) μ x q o k = some (r, μ) := h
    show f_X10_recount_L34b (f_X10_recount_L34 f) μ' x q o k = some (r, μ')
    unfold f_X9_recount_L30b at h
    unfold f_X10_recount_L34b
    by_cases c : x ≤ k
    · rw [if_pos c] at h ⊢
      cases h
      rfl
    · rw [if_neg c] at h ⊢
      rw [bL_s] at h ⊢
      exact ih _ _ _ h
theorem recount_ends (μ : Mm) {x : Nat} (q : Int32) (hx : x ≤ 60) : ∀ (m k f : Nat) (o : Int64), k + m = x → m < f → ∃ r, f_X9_recount_L30 f μ (nI x) q o (nI k) = some (r, μ) := by
  intro m
  induction m with
  | zero =>
    intro k f o hk hf
    obtain ⟨f, rfl⟩ := fs1 hf
    refine ⟨o.toInt32, ?_⟩
    show f_X9_recount_L30b _ _ _ _ _ _ = _
    unfold f_X9_recount_L30b
    rw [if_pos (nI_le (by omega) (by omega))]
  | succ m ih =>
    intro k f o hk hf
    obtain ⟨f, rfl⟩ := fs1 hf
    show ∃ r, f_X9_recount_L30b _ _ _ _ _ _ = _
    unfold f_X9_recount_L30b
    rw [if_neg (nI_ge (by omega) (by omega)), bL_s, nI_p1]
    exact ih (k + 1) f _ (by omega) (by omega)
theorem lit_in (x m : Int32) (n : Nat) (hm : m = nI n) (hn : n < 2 ^ 31) {α : Type} (a b : Option α) : (if x < 0 then a else if x ≤ m then b else a) = if inI x (n + 1) = true then b else a := by
  subst hm
  unfold inI
  by_cases h : x < 0
  · have h1 := (lt0_iff x).mp h
    rw [if_pos h, if_neg (by simp; omega)]
  · have h1 : ¬ x.toInt < 0 := fun q => h ((lt0_iff x).mpr q)
    rw [if_neg h]
    by_cases h2 : x ≤ nI n
    · rw [if_pos h2]
      rw [Int32.le_iff_toInt_le, nI_toInt hn] at h2
      rw [if_pos (by simp; omega)]
    · rw [if_neg h2]
      rw [Int32.le_iff_toInt_le, nI_toInt hn] at h2
      rw [if_neg (by simp; omega)]
theorem lit_in' (x m : Int32) (n : Nat) (hm : m = nI n) (hn : n < 2 ^ 31) {α : Type} (a b : Option α) : (if x < 0 then a else if m < x then a else b) = if inI x (n + 1) = true then b else a := by
  subst hm
  rw [← lit_in x _ n rfl hn]
  by_cases h : x < 0
  · rw [if_pos h, if_pos h]
  · rw [if_neg h, if_neg h]
    by_cases h2 : nI n < x
    · rw [if_pos h2, if_neg (by rw [Int32.lt_iff_toInt_lt] at h2; rw [Int32.le_iff_toInt_le]; omega)]
    · rw [if_neg h2, if_pos (by rw [Int32.lt_iff_toInt_lt] at h2; rw [Int32.le_iff_toInt_le]; omega)]
theorem st_recount : Sp2 Inv f_X9_recount f_X10_recount := by
  intro μ x q hI
  unfold f_X9_recount f_X10_recount
  rw [lit_in' x 60 60 rfl (by decide)]
  by_cases c : inI x 61 = true
  · rw [if_pos c, lit_in q 100 100 rfl (by decide)]
    by_cases c2 : inI q 101 = true
    · obtain ⟨j, hj, rfl⟩ := inI_j c (by decide)
      obtain ⟨r, hr⟩ := recount_ends μ q (x := j) (by omega) j 0 FU 1000000000 (by omega) (by rw [FU_eq]; omega)
      rw [if_pos c2]
      refine ⟨r, μ, μ, hr, ?_, hI⟩
      rw [in_lit μ _ 60 60 rfl (by decide), bC_s, if_neg (bz_t c), in_lit μ q 100 100 rfl (by decide), bC_s, if_neg (bz_t c2)]
      exact recount_loop μ μ _ _ _ _ _ _ hr
    · rw [if_neg c2]
      refine ⟨_, μ, μ, rfl, ?_, hI⟩
      rw [in_lit μ _ 60 60 rfl (by decide), bC_s, if_neg (bz_t c), in_lit μ q 100 100 rfl (by decide), bC_s, if_pos (bz_f (by simpa using c2))]
  · rw [if_neg c]
    refine ⟨_, μ, μ, rfl, ?_, hI⟩
    rw [in_lit μ _ 60 60 rfl (by decide), bC_s, if_pos (bz_f (by simpa using c))]
theorem st_votes : Sp2 Inv f_X9_votes f_X10_votes := by
  intro μ x q hI
  obtain ⟨σ, P, Q, y⟩ := id hI
  have hr := y.2.1
  have hm7 := y.hk.2.2.2.1
  have hN5 := y.hk.2.2.1
  unfold f_X9_votes f_X10_votes
  rw [rd hr (rt_p P Q), bR_s, hasPerson_eq y, bC_s]
  by_cases c : inI x (hM (sH σ)) = true
  · rw [if_neg (bz_t c), rd hr (rt_p P Q), bR_s, hasItem_eq y, bC_s]
    by_cases c2 : inI q (hN (sH σ)) = true
    · obtain ⟨p, hp, rfl⟩ := inI_j c (by omega)
      obtain ⟨i, hi, rfl⟩ := inI_j c2 (by omega)
      rw [if_neg (bz_t c2), rd hr (rt_0_4 P Q), bR_s, howOf_eq hr bal_19 hm7 y.cb y.bk (by omega) hp, bC_s]
      refine ⟨_, μ, μ, rfl, ?_, hI⟩
      have e := y.mb.1 p hp i (by omega)
      rw [Nat.zero_add] at e
      rw [isPerson_eq y, bC_s, if_neg (bz_t c), isItem_eq y, bC_s, if_neg (bz_t c2), rd hr (rt_107_8 P Q), bR_s, nI_5, ckb_n (show 5 * p + i < ln 112 by show _ < 37; omega) (by decide), gd_t, nI_clamp (by omega), e]
    · rw [if_pos (bz_f (by simpa using c2))]
      refine ⟨_, μ, μ, rfl, ?_, hI⟩
      rw [isPerson_eq y, bC_s, if_neg (bz_t c), isItem_eq y, bC_s, if_pos (bz_f (by simpa using c2))]
  · rw [if_pos (bz_f (by simpa using c))]
    refine ⟨_, μ, μ, rfl, ?_, hI⟩
    rw [isPerson_eq y, bC_s, if_pos (bz_f (by simpa using c))]
theorem st_cell : Sp2 Inv f_X9_cell f_X10_cell := by
  intro μ x w hI
  obtain ⟨σ, P, Q, y⟩ := id hI
  have hr := y.2.1
  have hz := y.hk.z
  unfold f_X9_cell f_X10_cell
  rw [rd hr (rt_p P Q), bR_s, hasCell_eq y, bC_s]
  by_cases c : inI x (hZ (sH σ)) = true
  · obtain ⟨j, hj, rfl⟩ := inI_j c (by omega)
    rw [if_neg (bz_t c), lit_in w 2 2 rfl (by decide)]
    by_cases c2 : inI w 3 = true
    · obtain ⟨v, hv, rfl⟩ := inI_j c2 (by decide)
      rw [if_pos c2]
      have hv3 : v = 0 ∨ v = 1 ∨ v = 2 := by omega
      rcases hv3 with rfl | rfl | rfl
      · obtain ⟨μ1, e1, e2, e3⟩ := y.sh
        have y1 := y.c e2
        obtain ⟨μ2, d1, d2, d3, d4⟩ := y1.lk
        rw [if_neg (by decide), e1, bV_s, if_pos (show nI 0 = 0 from rfl), rd y1.2.1 (rt_0_10 P Q), bR_s, hl_height y.hk y1.2.1 e3 hj, bC_s]
        refine ⟨_, μ1, μ2, rfl, ?_, (y1.m d2).i⟩
        rw [isCell_eq y1, bC_s, if_neg (bz_t c), d1, bV_s, if_pos (show nI 0 = 0 from rfl), rd (y1.m d2).2.1 (rt_107_26 P Q), bR_s, ckb_n (show j < ln 121 by show j < 20; omega) (by decide), gd_t, nI_clamp (by omega), d4 j hj]
      · obtain ⟨μ2, d1, d2, d3, d4⟩ := y.lk
        rw [if_pos (show nI 1 = 1 from rfl), rd hr (rt_p P Q), bR_s, ownHeight_eq y.p hr y.ch (by omega), bC_s]
        refine ⟨_, μ, μ2, rfl, ?_, (y.m d2).i⟩
        rw [isCell_eq y, bC_s, if_neg (bz_t c), d1, bV_s, if_neg (by decide), if_pos (show nI 1 = 1 from rfl), rd (y.m d2).2.1 (rt_107_2 P Q), bR_s, ckb_n (show j < ln 108 by show j < 20; omega) (by decide), gd_t, nI_clamp (by omega), (y.m d2).mh.2.2.1 j (by omega)]
      · obtain ⟨μ1, e1, e2, e3⟩ := y.sh
        have y1 := y.c e2
        obtain ⟨μ2, d1, d2, d3, d4⟩ := y1.lk
        rw [if_neg (by decide), e1, bV_s, if_neg (by decide), rd y1.2.1 (rt_0_10 P Q), bR_s, hl_item y.hk y1.2.1 e3 hj, bC_s]
        refine ⟨_, μ1, μ2, rfl, ?_, (y1.m d2).i⟩
        rw [isCell_eq y1, bC_s, if_neg (bz_t c), d1, bV_s, if_neg (by decide), if_neg (by decide), if_pos (show nI 2 = 2 from rfl), mitemOf_eq y.hk (stand_le _ _) (y1.m d2).2.1 (y1.m d2).mh d3 hj, bC_s]
    · rw [if_neg c2]
      obtain ⟨μ2, d1, d2, d3, d4⟩ := y.lk
      refine ⟨_, μ, μ2, rfl, ?_, (y.m d2).i⟩
      have n0 : ¬ w = 0 := fun q => c2 (by rw [q]; decide)
      have n1 : ¬ w = 1 := fun q => c2 (by rw [q]; decide)
      have n2 : ¬ w = 2 := fun q => c2 (by rw [q]; decide)
      rw [isCell_eq y, bC_s, if_neg (bz_t c), d1, bV_s, if_neg n0, if_neg n1, if_neg n2]
  · rw [if_pos (bz_f (by simpa using c))]
    refine ⟨_, μ, μ, rfl, ?_, hI⟩
    rw [isCell_eq y, bC_s, if_pos (bz_f (by simpa using c))]
