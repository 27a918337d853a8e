/-! the parts of the state, one by one -/
def PU (μ : Mm) (h : Hs) (ul nx : Nat) (U : Nat → Bt) : Prop := μ.1 22 1 = nI ul ∧ μ.1 22 2 = nI nx ∧ ∀ j, j < ul → CB μ (24 + 3 * ring nx ul j) h (U j)
def QU (μ : Mm) (h : Hs) (ul : Nat) (U : Nat → Bt) : Prop := μ.1 107 27 = nI ul ∧ ∀ j, j < ul → MB μ 122 (37 * j) h (U j)
def PT (μ : Mm) (n : Nat) (t : Nat → Nat) : Prop := μ.1 1 1 = nI n ∧ ∀ j, j < n → μ.1 2 j = nI (t j)
def QT (μ : Mm) (n : Nat) (t : Nat → Nat) : Prop := μ.1 107 11 = nI n ∧ ∀ j, j < n → μ.1 113 j = nI (t j)
def PN (μ : Mm) (n : Nat) (f t : Nat → Nat) : Prop := μ.1 86 4 = nI n ∧ ∀ j, j < n → μ.1 87 j = nI (f j) ∧ μ.1 88 j = nI (t j)
def QN (μ : Mm) (n : Nat) (f t : Nat → Nat) : Prop := μ.1 107 30 = nI n ∧ ∀ j, j < n → μ.1 124 j = nI (f j) ∧ μ.1 125 j = nI (t j)
def PE (μ : Mm) (n : Nat) (f t : Nat → Nat) : Prop := μ.1 86 5 = nI n ∧ ∀ j, j < n → μ.1 89 j = nI (f j) ∧ μ.1 90 j = nI (t j)
def QE (μ : Mm) (n : Nat) (f t : Nat → Nat) : Prop := μ.1 107 34 = nI n ∧ ∀ j, j < n → μ.1 127 j = nI (f j) ∧ μ.1 128 j = nI (t j)
def PK (μ : Mm) (h : Hs) (K S : Nat → Nat) (M : Nat → Bt) : Prop := ∀ i, i < 2 → μ.1 (99 + 4 * i) 2 = nI (K i) ∧ (K i = 1 → CB μ (100 + 4 * i) h (M i) ∧ μ.1 (99 + 4 * i) 1 = nI (S i))
def QK (μ : Mm) (h : Hs) (K S : Nat → Nat) (M : Nat → Bt) : Prop := ∀ i, i < 2 → μ.1 130 i = nI (K i) ∧ (K i = 1 → MB μ 129 (38 * i) h (M i) ∧ μ.1 129 (38 * i + 37) = nI (S i))
/-- all of the class's side, all of the reference's -/
def CA (P : Nat) (μ : Mm) (h : Hs) (b : Bt) (U M : Nat → Bt) (N : Nat → Nat → Nat) : Prop := CH μ P h ∧ CB μ 19 h b ∧ PU μ h (N 0 0) (N 0 5) U ∧ μ.1 85 0 = nI (N 0 1) ∧ PT μ (N 0 2) (N 1) ∧ PN μ (N 0 3) (N 2) (N 3) ∧ PE μ (N 0 4) (N 4) (N 5) ∧ PK μ h (N 6) (N 7) M
def MA (μ : Mm) (h : Hs) (b : Bt) (U M : Nat → Bt) (N : Nat → Nat → Nat) : Prop := MH μ h ∧ MB μ 112 0 h b ∧ QU μ h (N 0 0) U ∧ μ.1 107 9 = nI (N 0 1) ∧ QT μ (N 0 2) (N 1) ∧ QN μ (N 0 3) (N 2) (N 3) ∧ QE μ (N 0 4) (N 4) (N 5) ∧ QK μ h (N 6) (N 7) M
theorem CI_CA (P : Nat) (μ : Mm) (σ : St) : CI P μ σ = CA P μ (sH σ) (sB σ) (sU σ) (sM σ) σ.2 := rfl
theorem MI_MA (μ : Mm) (σ : St) : MI μ σ = MA μ (sH σ) (sB σ) (sU σ) (sM σ) σ.2 := rfl
theorem HY.ca {σ : St} {P Q : Nat} {μ : Mm} (y : HY σ P Q μ) : CA P μ (sH σ) (sB σ) (sU σ) (sM σ) σ.2 := y.2.2.2.1
theorem HY.ma {σ : St} {P Q : Nat} {μ : Mm} (y : HY σ P Q μ) : MA μ (sH σ) (sB σ) (sU σ) (sM σ) σ.2 := y.2.2.2.2.1
theorem CH.cg {μ μ' : Mm} {P : Nat} {h : Hs} (hb : CH μ P h) (hP : P = 3 ∨ P = 11) (e : ∀ a, 3 ≤ a → a ≤ 18 → μ'.1 a = μ.1 a) : CH μ' P h := by
  unfold CH
  rw [e P (by omega) (by omega), e (P + 1) (by omega) (by omega), e (P + 2) (by omega) (by omega), e (P + 3) (by omega) (by omega), e (P + 4) (by omega) (by omega)]
  exact hb
theorem MH.cg {μ μ' : Mm} {h : Hs} (hb : MH μ h) (e : ∀ k, k = 0 ∨ k = 1 ∨ k = 3 ∨ k = 7 → μ'.1 107 k = μ.1 107 k) (e2 : ∀ a, 108 ≤ a → a ≤ 111 → μ'.1 a = μ.1 a) : MH μ' h := by
  unfold MH
  rw [e 0 (by omega), e 1 (by omega), e 3 (by omega), e 7 (by omega), e2 108 (by omega) (by omega), e2 109 (by omega) (by omega), e2 110 (by omega) (by omega), e2 111 (by omega) (by omega)]
  exact hb
theorem MB.cg {μ μ' : Mm} {a o : Nat} {h : Hs} {b : Bt} (hb : MB μ a o h b) (e : μ'.1 a = μ.1 a) : MB μ' a o h b := by
  unfold MB
  rw [e]
  exact hb
theorem PU.cg {μ μ' : Mm} {h : Hs} {ul nx : Nat} {U : Nat → Bt} (p : PU μ h ul nx U) (e : ∀ a, 22 ≤ a → a ≤ 83 → μ'.1 a = μ.1 a) : PU μ' h ul nx U := by
  refine ⟨by rw [e 22 (by omega) (by omega)]; exact p.1, by rw [e 22 (by omega) (by omega)]; exact p.2.1, fun j hj => ?_⟩
  have := ring_lt nx ul j
  exact (p.2.2 j hj).cg (e _ (by omega) (by omega)) (e _ (by omega) (by omega)) (e _ (by omega) (by omega))
theorem QU.cg {μ μ' : Mm} {h : Hs} {ul : Nat} {U : Nat → Bt} (p : QU μ h ul U) (e1 : μ'.1 107 27 = μ.1 107 27) (e : μ'.1 122 = μ.1 122) : QU μ' h ul U :=
  ⟨by rw [e1]; exact p.1, fun j hj => (p.2 j hj).cg e⟩
theorem PT.cg {μ μ' : Mm} {n : Nat} {t : Nat → Nat} (p : PT μ n t) (e1 : μ'.1 1 1 = μ.1 1 1) (e : μ'.1 2 = μ.1 2) : PT μ' n t := by
  unfold PT; rw [e1, e]; exact p
theorem QT.cg {μ μ' : Mm} {n : Nat} {t : Nat → Nat} (p : QT μ n t) (e1 : μ'.1 107 11 = μ.1 107 11) (e : μ'.1 113 = μ.1 113) : QT μ' n t := by
  unfold QT; rw [e1, e]; exact p
theorem PN.cg {μ μ' : Mm} {n : Nat} {f t : Nat → Nat} (p : PN μ n f t) (e1 : μ'.1 86 4 = μ.1 86 4) (e : μ'.1 87 = μ.1 87) (e2 : μ'.1 88 = μ.1 88) : PN μ' n f t := by
  unfold PN; rw [e1, e, e2]; exact p
theorem QN.cg {μ μ' : Mm} {n : Nat} {f t : Nat → Nat} (p : QN μ n f t) (e1 : μ'.1 107 30 = μ.1 107 30) (e : μ'.1 124 = μ.1 124) (e2 : μ'.1 125 = μ.1 125) : QN μ' n f t := by
  unfold QN; rw [e1, e, e2]; exact p
theorem PE.cg {μ μ' : Mm} {n : Nat} {f t : Nat → Nat} (p : PE μ n f t) (e1 : μ'.1 86 5 = μ.1 86 5) (e : μ'.1 89 = μ.1 89) (e2 : μ'.1 90 = μ.1 90) : PE μ' n f t := by
  unfold PE; rw [e1, e, e2]; exact p
theorem QE.cg {μ μ' : Mm} {n : Nat} {f t : Nat → Nat} (p : QE μ n f t) (e1 : μ'.1 107 34 = μ.1 107 34) (e : μ'.1 127 = μ.1 127) (e2 : μ'.1 128 = μ.1 128) : QE μ' n f t := by
  unfold QE; rw [e1, e, e2]; exact p
theorem PK.cg {μ μ' : Mm} {h : Hs} {K S : Nat → Nat} {M : Nat → Bt} (p : PK μ h K S M) (e : ∀ a, 99 ≤ a → a ≤ 106 → μ'.1 a = μ.1 a) : PK μ' h K S M := by
  intro i hi
  obtain ⟨p1, p2⟩ := p i hi
  rw [e (99 + 4 * i) (by omega) (by omega)]
  exact ⟨p1, fun q => ⟨(p2 q).1.cg (e _ (by omega) (by omega)) (e _ (by omega) (by omega)) (e _ (by omega) (by omega)), (p2 q).2⟩⟩
theorem QK.cg {μ μ' : Mm} {h : Hs} {K S : Nat → Nat} {M : Nat → Bt} (p : QK μ h K S M) (e : μ'.1 129 = μ.1 129) (e2 : μ'.1 130 = μ.1 130) : QK μ' h K S M := by
  intro i hi
  obtain ⟨p1, p2⟩ := p i hi
  rw [e, e2]
  exact ⟨p1, fun q => ⟨(p2 q).1.cg e, (p2 q).2⟩⟩
/-- a side that was not touched -/
theorem CA.ap {P : Nat} {μ μ' : Mm} {h : Hs} {b : Bt} {U M : Nat → Bt} {N : Nat → Nat → Nat} (c : CA P μ h b U M N) (hP : P = 3 ∨ P = 11) (e : ∀ a, a < 107 → μ'.1 a = μ.1 a) : CA P μ' h b U M N := by
  obtain ⟨c1, c2, c3, c4, c5, c6, c7, c8⟩ := c
  exact ⟨c1.cg hP (fun a _ _ => e a (by omega)), c2.cg (e _ (by omega)) (e _ (by omega)) (e _ (by omega)), c3.cg (fun a _ _ => e a (by omega)), by rw [e 85 (by omega)]; exact c4,
    c5.cg (by rw [e 1 (by omega)]) (e 2 (by omega)), c6.cg (by rw [e 86 (by omega)]) (e 87 (by omega)) (e 88 (by omega)), c7.cg (by rw [e 86 (by omega)]) (e 89 (by omega)) (e 90 (by omega)), c8.cg (fun a _ _ => e a (by omega))⟩
theorem MA.ap {μ μ' : Mm} {h : Hs} {b : Bt} {U M : Nat → Bt} {N : Nat → Nat → Nat} (c : MA μ h b U M N) (e : ∀ a, 107 ≤ a → μ'.1 a = μ.1 a) : MA μ' h b U M N := by
  obtain ⟨c1, c2, c3, c4, c5, c6, c7, c8⟩ := c
  exact ⟨c1.cg (fun k _ => by rw [e 107 (by omega)]) (fun a _ _ => e a (by omega)), c2.cg (e _ (by omega)), c3.cg (by rw [e 107 (by omega)]) (e _ (by omega)), by rw [e 107 (by omega)]; exact c4,
    c5.cg (by rw [e 107 (by omega)]) (e _ (by omega)), c6.cg (by rw [e 107 (by omega)]) (e _ (by omega)) (e _ (by omega)), c7.cg (by rw [e 107 (by omega)]) (e _ (by omega)) (e _ (by omega)), c8.cg (e _ (by omega)) (e _ (by omega))⟩
/-! one part changed -/
def setr (N : Nat → Nat → Nat) (a : Nat) (t : Nat → Nat) : Nat → Nat → Nat := fun a' => if a' = a then t else N a'
theorem CA.sd {P : Nat} {μ μ' : Mm} {h : Hs} {b : Bt} {U M : Nat → Bt} {N : Nat → Nat → Nat} (c : CA P μ h b U M N) (hP : P = 3 ∨ P = 11) (e : ∀ a, a < 107 → ¬ (a = 85) → μ'.1 a = μ.1 a) {v : Nat} (q : μ'.1 85 0 = nI v) : CA P μ' h b U M (up2 N 0 1 v) := by
  obtain ⟨c1, c2, c3, c4, c5, c6, c7, c8⟩ := c
  exact ⟨c1.cg hP (fun a _ _ => e a (by omega) (by omega)), c2.cg (e 19 (by omega) (by omega)) (e 20 (by omega) (by omega)) (e 21 (by omega) (by omega)), c3.cg (fun a _ _ => e a (by omega) (by omega)), q, c5.cg (by rw [e 1 (by omega) (by omega)]) (e 2 (by omega) (by omega)), c6.cg (by rw [e 86 (by omega) (by omega)]) (e 87 (by omega) (by omega)) (e 88 (by omega) (by omega)), c7.cg (by rw [e 86 (by omega) (by omega)]) (e 89 (by omega) (by omega)) (e 90 (by omega) (by omega)), c8.cg (fun a _ _ => e a (by omega) (by omega))⟩
theorem MA.sd {μ μ' : Mm} {h : Hs} {b : Bt} {U M : Nat → Bt} {N : Nat → Nat → Nat} (m : MA μ h b U M N) (e : ∀ a, 107 < a → ¬ (a = 0) → μ'.1 a = μ.1 a) (e7 : ∀ k, ¬ (k = 9) → μ'.1 107 k = μ.1 107 k) {v : Nat} (q : μ'.1 107 9 = nI v) : MA μ' h b U M (up2 N 0 1 v) := by
  obtain ⟨m1, m2, m3, m4, m5, m6, m7, m8⟩ := m
  exact ⟨m1.cg (fun k hk => e7 k (by omega)) (fun a _ _ => e a (by omega) (by omega)), m2.cg (e 112 (by omega) (by omega)), m3.cg (e7 27 (by omega)) (e 122 (by omega) (by omega)), q, m5.cg (e7 11 (by omega)) (e 113 (by omega) (by omega)), m6.cg (e7 30 (by omega)) (e 124 (by omega) (by omega)) (e 125 (by omega) (by omega)), m7.cg (e7 34 (by omega)) (e 127 (by omega) (by omega)) (e 128 (by omega) (by omega)), m8.cg (e 129 (by omega) (by omega)) (e 130 (by omega) (by omega))⟩
theorem CA.tx {P : Nat} {μ μ' : Mm} {h : Hs} {b : Bt} {U M : Nat → Bt} {N : Nat → Nat → Nat} (c : CA P μ h b U M N) (hP : P = 3 ∨ P = 11) (e : ∀ a, a < 107 → ¬ (a = 1 ∨ a = 2) → μ'.1 a = μ.1 a) {n : Nat} {t : Nat → Nat} (q : PT μ' n t) : CA P μ' h b U M (setr (up2 N 0 2 n) 1 t) := by
  obtain ⟨c1, c2, c3, c4, c5, c6, c7, c8⟩ := c
  exact ⟨c1.cg hP (fun a _ _ => e a (by omega) (by omega)), c2.cg (e 19 (by omega) (by omega)) (e 20 (by omega) (by omega)) (e 21 (by omega) (by omega)), c3.cg (fun a _ _ => e a (by omega) (by omega)), by rw [e 85 (by omega) (by omega)]; exact c4, q, c6.cg (by rw [e 86 (by omega) (by omega)]) (e 87 (by omega) (by omega)) (e 88 (by omega) (by omega)), c7.cg (by rw [e 86 (by omega) (by omega)]) (e 89 (by omega) (by omega)) (e 90 (by omega) (by omega)), c8.cg (fun a _ _ => e a (by omega) (by omega))⟩
theorem MA.tx {μ μ' : Mm} {h : Hs} {b : Bt} {U M : Nat → Bt} {N : Nat → Nat → Nat} (m : MA μ h b U M N) (e : ∀ a, 107 < a → ¬ (a = 113) → μ'.1 a = μ.1 a) (e7 : ∀ k, ¬ (k = 11) → μ'.1 107 k = μ.1 107 k) {n : Nat} {t : Nat → Nat} (q : QT μ' n t) : MA μ' h b U M (setr (up2 N 0 2 n) 1 t) := by
  obtain ⟨m1, m2, m3, m4, m5, m6, m7, m8⟩ := m
  exact ⟨m1.cg (fun k hk => e7 k (by omega)) (fun a _ _ => e a (by omega) (by omega)), m2.cg (e 112 (by omega) (by omega)), m3.cg (e7 27 (by omega)) (e 122 (by omega) (by omega)), by rw [e7 9 (by omega)]; exact m4, q, m6.cg (e7 30 (by omega)) (e 124 (by omega) (by omega)) (e 125 (by omega) (by omega)), m7.cg (e7 34 (by omega)) (e 127 (by omega) (by omega)) (e 128 (by omega) (by omega)), m8.cg (e 129 (by omega) (by omega)) (e 130 (by omega) (by omega))⟩
theorem CA.ne {P : Nat} {μ μ' : Mm} {h : Hs} {b : Bt} {U M : Nat → Bt} {N : Nat → Nat → Nat} (c : CA P μ h b U M N) (hP : P = 3 ∨ P = 11) (e : ∀ a, a < 107 → ¬ (86 ≤ a ∧ a ≤ 90) → μ'.1 a = μ.1 a) {n n2 : Nat} {f t f2 t2 : Nat → Nat} (q : PN μ' n f t) (q2 : PE μ' n2 f2 t2) : CA P μ' h b U M (setr (setr (setr (setr (up2 (up2 N 0 3 n) 0 4 n2) 2 f) 3 t) 4 f2) 5 t2) := by
  obtain ⟨c1, c2, c3, c4, c5, c6, c7, c8⟩ := c
  exact ⟨c1.cg hP (fun a _ _ => e a (by omega) (by omega)), c2.cg (e 19 (by omega) (by omega)) (e 20 (by omega) (by omega)) (e 21 (by omega) (by omega)), c3.cg (fun a _ _ => e a (by omega) (by omega)), by rw [e 85 (by omega) (by omega)]; exact c4, c5.cg (by rw [e 1 (by omega) (by omega)]) (e 2 (by omega) (by omega)), q, q2, c8.cg (fun a _ _ => e a (by omega) (by omega))⟩
theorem MA.ne {μ μ' : Mm} {h : Hs} {b : Bt} {U M : Nat → Bt} {N : Nat → Nat → Nat} (m : MA μ h b U M N) (e : ∀ a, 107 < a → ¬ (a = 124 ∨ a = 125 ∨ a = 127 ∨ a = 128) → μ'.1 a = μ.1 a) (e7 : ∀ k, ¬ (k = 30 ∨ k = 34) → μ'.1 107 k = μ.1 107 k) {n n2 : Nat} {f t f2 t2 : Nat → Nat} (q : QN μ' n f t) (q2 : QE μ' n2 f2 t2) : MA μ' h b U M (setr (setr (setr (setr (up2 (up2 N 0 3 n) 0 4 n2) 2 f) 3 t) 4 f2) 5 t2) := by
  obtain ⟨m1, m2, m3, m4, m5, m6, m7, m8⟩ := m
  exact ⟨m1.cg (fun k hk => e7 k (by omega)) (fun a _ _ => e a (by omega) (by omega)), m2.cg (e 112 (by omega) (by omega)), m3.cg (e7 27 (by omega)) (e 122 (by omega) (by omega)), by rw [e7 9 (by omega)]; exact m4, m5.cg (e7 11 (by omega)) (e 113 (by omega) (by omega)), q, q2, m8.cg (e 129 (by omega) (by omega)) (e 130 (by omega) (by omega))⟩
theorem CA.un {P : Nat} {μ μ' : Mm} {h : Hs} {b : Bt} {U M : Nat → Bt} {N : Nat → Nat → Nat} (c : CA P μ h b U M N) (hP : P = 3 ∨ P = 11) (e : ∀ a, a < 107 → ¬ (22 ≤ a ∧ a ≤ 83) → μ'.1 a = μ.1 a) {ul nx : Nat} {U' : Nat → Bt} (q : PU μ' h ul nx U') : CA P μ' h b U' M (up2 (up2 N 0 0 ul) 0 5 nx) := by
  obtain ⟨c1, c2, c3, c4, c5, c6, c7, c8⟩ := c
  exact ⟨c1.cg hP (fun a _ _ => e a (by omega) (by omega)), c2.cg (e 19 (by omega) (by omega)) (e 20 (by omega) (by omega)) (e 21 (by omega) (by omega)), q, by rw [e 85 (by omega) (by omega)]; exact c4, c5.cg (by rw [e 1 (by omega) (by omega)]) (e 2 (by omega) (by omega)), c6.cg (by rw [e 86 (by omega) (by omega)]) (e 87 (by omega) (by omega)) (e 88 (by omega) (by omega)), c7.cg (by rw [e 86 (by omega) (by omega)]) (e 89 (by omega) (by omega)) (e 90 (by omega) (by omega)), c8.cg (fun a _ _ => e a (by omega) (by omega))⟩
theorem MA.un {μ μ' : Mm} {h : Hs} {b : Bt} {U M : Nat → Bt} {N : Nat → Nat → Nat} (m : MA μ h b U M N) (e : ∀ a, 107 < a → ¬ (a = 122) → μ'.1 a = μ.1 a) (e7 : ∀ k, ¬ (k = 27) → μ'.1 107 k = μ.1 107 k) {ul nx : Nat} {U' : Nat → Bt} (q : QU μ' h ul U') : MA μ' h b U' M (up2 (up2 N 0 0 ul) 0 5 nx) := by
  obtain ⟨m1, m2, m3, m4, m5, m6, m7, m8⟩ := m
  exact ⟨m1.cg (fun k hk => e7 k (by omega)) (fun a _ _ => e a (by omega) (by omega)), m2.cg (e 112 (by omega) (by omega)), q, by rw [e7 9 (by omega)]; exact m4, m5.cg (e7 11 (by omega)) (e 113 (by omega) (by omega)), m6.cg (e7 30 (by omega)) (e 124 (by omega) (by omega)) (e 125 (by omega) (by omega)), m7.cg (e7 34 (by omega)) (e 127 (by omega) (by omega)) (e 128 (by omega) (by omega)), m8.cg (e 129 (by omega) (by omega)) (e 130 (by omega) (by omega))⟩
theorem CA.bl {P : Nat} {μ μ' : Mm} {h : Hs} {b : Bt} {U M : Nat → Bt} {N : Nat → Nat → Nat} (c : CA P μ h b U M N) (hP : P = 3 ∨ P = 11) (e : ∀ a, a < 107 → ¬ (19 ≤ a ∧ a ≤ 21) → μ'.1 a = μ.1 a) {b' : Bt} (q : CB μ' 19 h b') : CA P μ' h b' U M N := by
  obtain ⟨c1, c2, c3, c4, c5, c6, c7, c8⟩ := c
  exact ⟨c1.cg hP (fun a _ _ => e a (by omega) (by omega)), q, c3.cg (fun a _ _ => e a (by omega) (by omega)), by rw [e 85 (by omega) (by omega)]; exact c4, c5.cg (by rw [e 1 (by omega) (by omega)]) (e 2 (by omega) (by omega)), c6.cg (by rw [e 86 (by omega) (by omega)]) (e 87 (by omega) (by omega)) (e 88 (by omega) (by omega)), c7.cg (by rw [e 86 (by omega) (by omega)]) (e 89 (by omega) (by omega)) (e 90 (by omega) (by omega)), c8.cg (fun a _ _ => e a (by omega) (by omega))⟩
theorem MA.bl {μ μ' : Mm} {h : Hs} {b : Bt} {U M : Nat → Bt} {N : Nat → Nat → Nat} (m : MA μ h b U M N) (e : ∀ a, 107 < a → ¬ (a = 112) → μ'.1 a = μ.1 a) (e7 : ∀ k, ¬ (k = 100) → μ'.1 107 k = μ.1 107 k) {b' : Bt} (q : MB μ' 112 0 h b') : MA μ' h b' U M N := by
  obtain ⟨m1, m2, m3, m4, m5, m6, m7, m8⟩ := m
  exact ⟨m1.cg (fun k hk => e7 k (by omega)) (fun a _ _ => e a (by omega) (by omega)), q, m3.cg (e7 27 (by omega)) (e 122 (by omega) (by omega)), by rw [e7 9 (by omega)]; exact m4, m5.cg (e7 11 (by omega)) (e 113 (by omega) (by omega)), m6.cg (e7 30 (by omega)) (e 124 (by omega) (by omega)) (e 125 (by omega) (by omega)), m7.cg (e7 34 (by omega)) (e 127 (by omega) (by omega)) (e 128 (by omega) (by omega)), m8.cg (e 129 (by omega) (by omega)) (e 130 (by omega) (by omega))⟩
theorem CA.im {P : Nat} {μ μ' : Mm} {h : Hs} {b : Bt} {U M : Nat → Bt} {N : Nat → Nat → Nat} (c : CA P μ h b U M N) (hP : P = 3 ∨ P = 11) (e : ∀ a, a < 107 → ¬ (99 ≤ a ∧ a ≤ 106) → μ'.1 a = μ.1 a) {K S : Nat → Nat} {M' : Nat → Bt} (q : PK μ' h K S M') : CA P μ' h b U M' (setr (setr N 6 K) 7 S) := by
  obtain ⟨c1, c2, c3, c4, c5, c6, c7, c8⟩ := c
  exact ⟨c1.cg hP (fun a _ _ => e a (by omega) (by omega)), c2.cg (e 19 (by omega) (by omega)) (e 20 (by omega) (by omega)) (e 21 (by omega) (by omega)), c3.cg (fun a _ _ => e a (by omega) (by omega)), by rw [e 85 (by omega) (by omega)]; exact c4, c5.cg (by rw [e 1 (by omega) (by omega)]) (e 2 (by omega) (by omega)), c6.cg (by rw [e 86 (by omega) (by omega)]) (e 87 (by omega) (by omega)) (e 88 (by omega) (by omega)), c7.cg (by rw [e 86 (by omega) (by omega)]) (e 89 (by omega) (by omega)) (e 90 (by omega) (by omega)), q⟩
theorem MA.im {μ μ' : Mm} {h : Hs} {b : Bt} {U M : Nat → Bt} {N : Nat → Nat → Nat} (m : MA μ h b U M N) (e : ∀ a, 107 < a → ¬ (a = 129 ∨ a = 130) → μ'.1 a = μ.1 a) (e7 : ∀ k, ¬ (k = 100) → μ'.1 107 k = μ.1 107 k) {K S : Nat → Nat} {M' : Nat → Bt} (q : QK μ' h K S M') : MA μ' h b U M' (setr (setr N 6 K) 7 S) := by
  obtain ⟨m1, m2, m3, m4, m5, m6, m7, m8⟩ := m
  exact ⟨m1.cg (fun k hk => e7 k (by omega)) (fun a _ _ => e a (by omega) (by omega)), m2.cg (e 112 (by omega) (by omega)), m3.cg (e7 27 (by omega)) (e 122 (by omega) (by omega)), by rw [e7 9 (by omega)]; exact m4, m5.cg (e7 11 (by omega)) (e 113 (by omega) (by omega)), m6.cg (e7 30 (by omega)) (e 124 (by omega) (by omega)) (e 125 (by omega) (by omega)), m7.cg (e7 34 (by omega)) (e 127 (by omega) (by omega)) (e 128 (by omega) (by omega)), q⟩
theorem CA.sc {P : Nat} {μ μ' : Mm} {h : Hs} {b : Bt} {U M : Nat → Bt} {N : Nat → Nat → Nat} (c : CA P μ h b U M N) (hP : P = 3 ∨ P = 11) (e : ∀ a, a < 107 → ¬ (91 ≤ a ∧ a ≤ 98) → μ'.1 a = μ.1 a) : CA P μ' h b U M N := by
  obtain ⟨c1, c2, c3, c4, c5, c6, c7, c8⟩ := c
  exact ⟨c1.cg hP (fun a _ _ => e a (by omega) (by omega)), c2.cg (e 19 (by omega) (by omega)) (e 20 (by omega) (by omega)) (e 21 (by omega) (by omega)), c3.cg (fun a _ _ => e a (by omega) (by omega)), by rw [e 85 (by omega) (by omega)]; exact c4, c5.cg (by rw [e 1 (by omega) (by omega)]) (e 2 (by omega) (by omega)), c6.cg (by rw [e 86 (by omega) (by omega)]) (e 87 (by omega) (by omega)) (e 88 (by omega) (by omega)), c7.cg (by rw [e 86 (by omega) (by omega)]) (e 89 (by omega) (by omega)) (e 90 (by omega) (by omega)), c8.cg (fun a _ _ => e a (by omega) (by omega))⟩
theorem MA.sc {μ μ' : Mm} {h : Hs} {b : Bt} {U M : Nat → Bt} {N : Nat → Nat → Nat} (m : MA μ h b U M N) (e : ∀ a, 107 < a → ¬ (a = 120 ∨ a = 121 ∨ a = 123 ∨ a = 126) → μ'.1 a = μ.1 a) (e7 : ∀ k, ¬ (k = 100) → μ'.1 107 k = μ.1 107 k) : MA μ' h b U M N := by
  obtain ⟨m1, m2, m3, m4, m5, m6, m7, m8⟩ := m
  exact ⟨m1.cg (fun k hk => e7 k (by omega)) (fun a _ _ => e a (by omega) (by omega)), m2.cg (e 112 (by omega) (by omega)), m3.cg (e7 27 (by omega)) (e 122 (by omega) (by omega)), by rw [e7 9 (by omega)]; exact m4, m5.cg (e7 11 (by omega)) (e 113 (by omega) (by omega)), m6.cg (e7 30 (by omega)) (e 124 (by omega) (by omega)) (e 125 (by omega) (by omega)), m7.cg (e7 34 (by omega)) (e 127 (by omega) (by omega)) (e 128 (by omega) (by omega)), m8.cg (e 129 (by omega) (by omega)) (e 130 (by omega) (by omega))⟩
abbrev XC (a : Nat) : Prop := 1 ≤ a ∧ a ≤ 106
abbrev XM (a : Nat) : Prop := 107 ≤ a
theorem HY.step {σ : St} {P Q : Nat} {μ μ1 μ2 : Mm} {h : Hs} {b : Bt} {U M : Nat → Bt} {N : Nat → Nat → Nat} (y : HY σ P Q μ) (g1 : Ag μ μ1 XC) (c : CA P μ1 h b U M N) (g2 : Ag μ1 μ2 XM) (e12 : μ2.1 107 12 = μ1.1 107 12) (m : MA μ2 h b U M N) (o : OKs ((h, (b, (U, M))), N)) : HY ((h, (b, (U, M))), N) P Q μ2 :=
  ⟨y.1, g2.1.trans (g1.1.trans y.2.1), o, c.ap y.p (fun a ha => g2.2 a (by omega)), m, by rw [g2.2 0 (by omega), e12, g1.2 0 (by omega), g1.2 107 (by omega)]; exact y.2.2.2.2.2⟩
theorem HY.ma1 {σ : St} {P Q : Nat} {μ μ1 : Mm} (y : HY σ P Q μ) (g1 : Ag μ μ1 XC) : MA μ1 (sH σ) (sB σ) (sU σ) (sM σ) σ.2 := y.ma.ap (fun a ha => g1.2 a (by omega))
theorem Ag.u1 {μ μ' : Mm} {X : Nat → Prop} {f : Nat → Nat → Int32} {a k : Nat} {v : Int32} (g : Ag μ (f, μ'.2) X) (h : X a) : Ag μ (up2 f a k v, μ'.2) X := ⟨g.1, fun b hb => (up2_ne (fun q => hb (by rw [q]; exact h))).trans (g.2 b hb)⟩
/-! seed, tear -/
theorem le0_n {x : Int32} (h : (0 : Int32) ≤ x) : ∃ n : Nat, n < 2 ^ 31 ∧ x = nI n := by
  rw [Int32.le_iff_toInt_le, Int32.toInt_zero] at h
  have h2 := Int32.toInt_lt x
  refine ⟨x.toInt.toNat, by omega, ?_⟩
  apply Int32.toInt_inj.mp
  rw [nI_toInt (by omega)]
  omega
theorem st_seed : Sp1 Inv f_X9_seed f_X10_seed := by
  intro μ x hI
  obtain ⟨σ, P, Q, y⟩ := id hI
  unfold f_X9_seed f_X10_seed
  by_cases c : (0 : Int32) ≤ x
  · obtain ⟨n, hn, rfl⟩ := le0_n c
    obtain ⟨o1, o2, o3, o4, o5, o6, o7, o8, o9⟩ := y.2.2.1
    have g1 : Ag μ (up2 μ.1 85 0 (nI n), μ.2) XC := Ag.up ⟨by decide, by decide⟩
    have c1 := y.ca.sd (μ' := (up2 μ.1 85 0 (nI n), μ.2)) y.p (fun a h1 h2 => up2_ne h2) (v := n) (up2_at μ.1 85 0 (nI n))
    have m0 := y.ma1 g1
    have g2 : Ag (up2 μ.1 85 0 (nI n), μ.2) (up2 (up2 μ.1 85 0 (nI n)) 107 9 (nI n), μ.2) XM := Ag.up (Nat.le_refl _)
    have m1 := m0.sd (μ' := (up2 (up2 μ.1 85 0 (nI n)) 107 9 (nI n), μ.2)) (fun a h1 h2 => up2_ne (by omega)) (fun k hk => up2_nk hk) (v := n) (up2_at (up2 μ.1 85 0 (nI n)) 107 9 (nI n))
    have y2 := y.step g1 c1 g2 rfl m1 ⟨o1, o2, o3, o4, hn, o6, o7, o8, o9⟩
    rw [if_pos c, rd y.2.1 (rt_0_7 P Q), bR_s, bI_s, bR_s, bM_s]
    refine ⟨_, _, _, rfl, ?_, y2.i⟩
    rw [if_pos c, bI_s, bM_s]
    show some (up2 μ.1 85 0 (nI n) 107 9, _) = _
    rw [up2_na (by decide), y.ma.2.2.2.1, y.ca.2.2.2.1]
  · rw [if_neg c]
    refine ⟨_, μ, μ, rfl, ?_, hI⟩
    rw [if_neg c]
theorem st_tear : Sp0 Inv f_X9_tear f_X10_tear := by
  intro μ hI
  obtain ⟨σ, P, Q, y⟩ := id hI
  obtain ⟨o1, o2, o3, o4, o5, o6, o7, o8, o9⟩ := y.2.2.1
  have g1 : Ag μ (up2 (up2 μ.1 86 4 0) 86 5 0, μ.2) XC := (Ag.up (X := XC) ⟨by decide, by decide⟩).u1 ⟨by decide, by decide⟩
  have c1 := y.ca.ne (μ' := (up2 (up2 μ.1 86 4 0) 86 5 0, μ.2)) y.p (fun a h1 h2 => (up2_ne (show a ≠ 86 by omega)).trans (up2_ne (show a ≠ 86 by omega))) (n := 0) (n2 := 0) (f := fun _ => 0) (t := fun _ => 0) (f2 := fun _ => 0) (t2 := fun _ => 0)
    ⟨by show up2 (up2 μ.1 86 4 0) 86 5 0 86 4 = 0; rw [up2_nk (by decide), up2_at], fun j hj => absurd hj (Nat.not_lt_zero _)⟩ ⟨by show up2 (up2 μ.1 86 4 0) 86 5 0 86 5 = 0; rw [up2_at], fun j hj => absurd hj (Nat.not_lt_zero _)⟩
  have m0 := y.ma1 g1
  have g2 : Ag (up2 (up2 μ.1 86 4 0) 86 5 0, μ.2) (up2 (up2 (up2 (up2 μ.1 86 4 0) 86 5 0) 107 30 0) 107 34 0, μ.2) XM := (Ag.up (X := XM) (Nat.le_refl _)).u1 (Nat.le_refl _)
  have m1 := m0.ne (μ' := (up2 (up2 (up2 (up2 μ.1 86 4 0) 86 5 0) 107 30 0) 107 34 0, μ.2)) (fun a h1 h2 => (up2_ne (show a ≠ 107 by omega)).trans (up2_ne (show a ≠ 107 by omega))) (fun k hk => (up2_nk (show k ≠ 34 by omega)).trans (up2_nk (show k ≠ 30 by omega))) (n := 0) (n2 := 0) (f := fun _ => 0) (t := fun _ => 0) (f2 := fun _ => 0) (t2 := fun _ => 0)
    ⟨rfl, fun j hj => absurd hj (Nat.not_lt_zero _)⟩ ⟨rfl, fun j hj => absurd hj (Nat.not_lt_zero _)⟩
  have y2 := y.step g1 c1 g2 rfl m1 ⟨o1, o2, o3, o4, o5, o6, ⟨Nat.zero_le _, fun j hj => absurd hj (Nat.not_lt_zero _)⟩, ⟨Nat.zero_le _, fun j hj => absurd hj (Nat.not_lt_zero _)⟩, o9⟩
  unfold f_X9_tear f_X10_tear f_X6_clear
  rw [rd y.2.1 (rt_0_8 P Q), bR_s, bR_s, bI_s, bR_s, bM_s, bM_s, bV_s]
  refine ⟨_, _, _, rfl, ?_, y2.i⟩
  rw [bI_s, bM_s, bM_s]
  show some (up2 (up2 μ.1 86 4 0) 86 5 0 107 30 + up2 (up2 μ.1 86 4 0) 86 5 0 107 34, _) = _
  rw [up2_na (by decide), up2_na (by decide), up2_na (by decide), up2_na (by decide), y.ma.2.2.2.2.2.1.1, y.ma.2.2.2.2.2.2.1.1, y.ca.2.2.2.2.2.1.1, y.ca.2.2.2.2.2.2.1.1]
def put (f : Nat → Nat) (n v : Nat) : Nat → Nat := fun j => if j = n then v else f j
theorem put_at (f : Nat → Nat) (n v : Nat) : put f n v n = v := if_pos rfl
theorem put_ne {f : Nat → Nat} {n v j : Nat} (h : j ≠ n) : put f n v j = f j := if_neg h
theorem put2 {g : Nat → Nat → Int32} {a n v : Nat} {f : Nat → Nat} (h : ∀ j, j < n → g a j = nI (f j)) : ∀ j, j < n + 1 → up2 g a n (nI v) a j = nI (put f n v j) := by
  intro j hj
  by_cases q : j = n
  · rw [q, up2_at, put_at]
  · rw [up2_nk q, put_ne q, h j (by omega)]
theorem put_b {f : Nat → Nat} {n v : Nat} {p : Nat → Prop} (h : ∀ j, j < n → p (f j)) (hv : p v) : ∀ j, j < n + 1 → p (put f n v j) := by
  intro j hj
  by_cases q : j = n
  · rw [q, put_at]; exact hv
  · rw [put_ne q]; exact h j (by omega)
/-! see, write, feed -/
def Two (μ μ' : Mm) (a k r1 r2 n i j : Nat) : Prop := μ'.2 = μ.2 ∧ (∀ b, b ≠ a → b ≠ r1 → b ≠ r2 → μ'.1 b = μ.1 b) ∧ (∀ k', k' ≠ k → μ'.1 a k' = μ.1 a k') ∧ μ'.1 a k = nI (n + 1) ∧
  (∀ f : Nat → Nat, (∀ m, m < n → μ.1 r1 m = nI (f m)) → ∀ m, m < n + 1 → μ'.1 r1 m = nI (put f n i m)) ∧ (∀ f : Nat → Nat, (∀ m, m < n → μ.1 r2 m = nI (f m)) → ∀ m, m < n + 1 → μ'.1 r2 m = nI (put f n j m))
theorem two_run {α : Type} {μ : Mm} {P Q a k r1 r2 s1 s2 n L : Nat} (i j : Nat) (K : Mm → Option α) (hr : μ.2 = RFt P Q) (h1 : RFt P Q a s1 = some r1) (h2 : RFt P Q a s2 = some r2) (l1 : ln r1 = L) (l2 : ln r2 = L) (hn : n < L) (hL : L < 2 ^ 31) (hk : μ.1 a k = nI n) (n12 : r1 ≠ r2) (na1 : a ≠ r1) (na2 : a ≠ r2) :
    ∃ μ', (bR (μ.2 a s1) (fun b3 => gd (ckb (μ.1 a k) (ln b3)) (bM (up2 μ.1 b3 (μ.1 a k).toNatClampNeg (nI i), μ.2) (fun μ5 => bR (μ5.2 a s2) (fun b6 => gd (ckb (μ5.1 a k) (ln b6)) (bM (up2 μ5.1 b6 (μ5.1 a k).toNatClampNeg (nI j), μ5.2) (fun μ8 => bM (up2 μ8.1 a k ((μ8.1 a k) + (1 : Int32)), μ8.2) K))))))) = K μ' ∧ Two μ μ' a k r1 r2 n i j := by
  refine ⟨(up2 (up2 (up2 μ.1 r1 n (nI i)) r2 n (nI j)) a k (nI (n + 1)), μ.2), ?_, rfl, fun b q0 q1 q2 => ?_, fun k' q => ?_, up2_at _ a k _, fun f hf m hm => ?_, fun f hf m hm => ?_⟩
  · rw [rd hr h1, bR_s, hk, l1, ckb_n hn hL, gd_t, bM_s, rd hr h2, bR_s, nI_clamp (by omega)]
    show gd (ckb (up2 μ.1 r1 n (nI i) a k) (ln r2)) (bM (up2 (up2 μ.1 r1 n (nI i)) r2 (up2 μ.1 r1 n (nI i) a k).toNatClampNeg (nI j), μ.2) (fun μ8 => bM (up2 μ8.1 a k ((μ8.1 a k) + (1 : Int32)), μ8.2) K)) = _
    rw [up2_na na1, hk, l2, ckb_n hn hL, gd_t, bM_s, nI_clamp (by omega)]
    show bM (up2 (up2 (up2 μ.1 r1 n (nI i)) r2 n (nI j)) a k (up2 (up2 μ.1 r1 n (nI i)) r2 n (nI j) a k + 1), μ.2) K = _
    rw [up2_na na2, up2_na na1, hk, nI_p1]
    rfl
  · show up2 _ a k _ b = _
    rw [up2_ne q0, up2_ne q2, up2_ne q1]
  · show up2 _ a k _ a k' = _
    rw [up2_nk q, up2_na na2, up2_na na1]
  · show up2 _ a k _ r1 m = _
    rw [up2_na (Ne.symm na1), up2_na n12]
    exact put2 hf m hm
  · show up2 _ a k _ r2 m = _
    rw [up2_na (Ne.symm na2)]
    exact put2 (g := up2 μ.1 r1 n (nI i)) (fun m hm => (up2_na (Ne.symm n12)).trans (hf m hm)) m hm
theorem Two.ag {μ μ' : Mm} {a k r1 r2 n i j : Nat} {X : Nat → Prop} (t : Two μ μ' a k r1 r2 n i j) (h0 : X a) (h1 : X r1) (h2 : X r2) : Ag μ μ' X :=
  ⟨t.1, fun b hb => t.2.1 b (fun q => hb (by rw [q]; exact h0)) (fun q => hb (by rw [q]; exact h1)) (fun q => hb (by rw [q]; exact h2))⟩
theorem isCell_h {h : Hs} {μ : Mm} (hk : hok h) (m : MH μ h) (x : Int32) : f_X10_isCell μ 107 x = some (bz (inI x (hZ h)), μ) := by
  unfold f_X10_isCell
  rw [mcells_eq m, bC_s, in_n μ x (by have := hk.z; omega), bC_s, ckz_bz, gd_t]
theorem st_see : Sp2 Inv f_X9_see f_X10_see := by
  intro μ x t hI
  obtain ⟨σ, P, Q, y⟩ := id hI
  have hr := y.2.1
  have hz := y.hk.z
  obtain ⟨o1, o2, o3, o4, o5, o6, o7, o8, o9⟩ := y.2.2.1
  unfold f_X9_see f_X10_see
  rw [rd hr (rt_p P Q), bR_s, hasCell_eq y, bC_s]
  by_cases c : inI x (hZ (sH σ)) = true
  · obtain ⟨i, hi, rfl⟩ := inI_j c (by omega)
    rw [if_neg (bz_t c), rd hr (rt_p P Q), bR_s, hasCell_eq y, bC_s]
    by_cases c2 : inI t (hZ (sH σ)) = true
    · obtain ⟨j, hj, rfl⟩ := inI_j c2 (by omega)
      have n4 := y.ca.2.2.2.2.2.1.1
      have n30 := y.ma.2.2.2.2.2.1.1
      rw [if_neg (bz_t c2), rd hr (rt_0_8 P Q), bR_s]
      by_cases q : σ.2 0 3 < 6
      · obtain ⟨μ1, e1, T1⟩ := two_run (a := 86) (k := 4) i j (fun μ9 => some μ9) hr (rt_86_0 P Q) (rt_86_1 P Q) (L := 6) rfl rfl q (by decide) n4 (by decide) (by decide) (by decide)
        have h1 : f_X6_addSeen μ 86 (nI i) (nI j) = some μ1 := by
          unfold f_X6_addSeen
          rw [if_neg (show ¬ μ.1 86 4 < 0 by rw [n4]; exact nI_pos (by omega)), if_neg (show ¬ (6 : Int32) ≤ μ.1 86 4 by rw [n4]; exact nI_ge (b := 6) q (by omega))]
          exact e1
        have g1 : Ag μ μ1 XC := T1.ag (by decide) (by decide) (by decide)
        have cA := y.ca.ne (μ' := μ1) y.p (fun a h1 h2 => T1.2.1 a (by omega) (by omega) (by omega)) (n := σ.2 0 3 + 1) (n2 := σ.2 0 4) (f := put (σ.2 2) (σ.2 0 3) i) (t := put (σ.2 3) (σ.2 0 3) j) (f2 := σ.2 4) (t2 := σ.2 5)
          ⟨T1.2.2.2.1, fun k hk => ⟨T1.2.2.2.2.1 _ (fun m hm => (y.ca.2.2.2.2.2.1.2 m hm).1) k hk, T1.2.2.2.2.2 _ (fun m hm => (y.ca.2.2.2.2.2.1.2 m hm).2) k hk⟩⟩
          (y.ca.2.2.2.2.2.2.1.cg (T1.2.2.1 5 (by decide)) (T1.2.1 89 (by decide) (by decide) (by decide)) (T1.2.1 90 (by decide) (by decide) (by decide)))
        have m0 := y.ma1 g1
        have hr1 : μ1.2 = RFt P Q := g1.1.trans hr
        obtain ⟨μ2, e2, T2⟩ := two_run (a := 107) (k := 30) i j (fun μ16 => some (μ16.1 107 30, μ16)) hr1 (rt_107_31 P Q) (rt_107_32 P Q) (L := 6) rfl rfl q (by decide) m0.2.2.2.2.2.1.1 (by decide) (by decide) (by decide)
        have g2 : Ag μ1 μ2 XM := T2.ag (by decide) (by decide) (by decide)
        have mA := m0.ne (μ' := μ2) (fun a h1 h2 => T2.2.1 a (by omega) (by omega) (by omega)) (fun k hk => T2.2.2.1 k (by omega)) (n := σ.2 0 3 + 1) (n2 := σ.2 0 4) (f := put (σ.2 2) (σ.2 0 3) i) (t := put (σ.2 3) (σ.2 0 3) j) (f2 := σ.2 4) (t2 := σ.2 5)
          ⟨T2.2.2.2.1, fun k hk => ⟨T2.2.2.2.2.1 _ (fun m hm => (m0.2.2.2.2.2.1.2 m hm).1) k hk, T2.2.2.2.2.2 _ (fun m hm => (m0.2.2.2.2.2.1.2 m hm).2) k hk⟩⟩
          (m0.2.2.2.2.2.2.1.cg (T2.2.2.1 34 (by decide)) (T2.2.1 127 (by decide) (by decide) (by decide)) (T2.2.1 128 (by decide) (by decide) (by decide)))
        have y2 := y.step g1 cA g2 (T2.2.2.1 12 (by decide)) mA ⟨o1, o2, o3, o4, o5, o6, ⟨show σ.2 0 3 + 1 ≤ 6 by omega, fun k hk => ⟨put_b (p := fun v => v < hZ (sH σ)) (fun k hk => (o7.2 k hk).1) hi k hk, put_b (p := fun v => v < hZ (sH σ)) (fun k hk => (o7.2 k hk).2) hj k hk⟩⟩, o8, o9⟩
        rw [if_pos (show μ.1 86 4 < (6 : Int32) by rw [n4]; exact nI_lt (b := 6) q (by omega)), bR_s, h1, bV_s, rd hr1 (rt_0_8 P Q), bR_s, T1.2.2.2.1]
        refine ⟨_, μ1, μ2, rfl, ?_, y2.i⟩
        rw [isCell_h o1 m0.1, bC_s, if_neg (bz_t c), isCell_h o1 m0.1, bC_s, if_neg (bz_t c2), if_neg (show ¬ μ1.1 107 30 = (6 : Int32) by rw [m0.2.2.2.2.2.1.1]; exact nI_ne (b := 6) (by omega) (by omega) (by omega))]
        refine e2.trans ?_
        rw [T2.2.2.2.1]
      · have q6 : σ.2 0 3 = 6 := by omega
        rw [if_neg (show ¬ μ.1 86 4 < (6 : Int32) by rw [n4, q6]; decide)]
        refine ⟨_, μ, μ, rfl, ?_, hI⟩
        rw [isCell_eq y, bC_s, if_neg (bz_t c), isCell_eq y, bC_s, if_neg (bz_t c2), n30, if_pos (by rw [q6]; rfl)]
    · rw [if_pos (bz_f (by simpa using c2))]
      refine ⟨_, μ, μ, rfl, ?_, hI⟩
      rw [isCell_eq y, bC_s, if_neg (bz_t c), isCell_eq y, bC_s, if_pos (bz_f (by simpa using c2))]
  · rw [if_pos (bz_f (by simpa using c))]
    refine ⟨_, μ, μ, rfl, ?_, hI⟩
    rw [isCell_eq y, bC_s, if_pos (bz_f (by simpa using c))]
theorem st_write : Sp2 Inv f_X9_write f_X10_write := by
  intro μ x t hI
  obtain ⟨σ, P, Q, y⟩ := id hI
  have hr := y.2.1
  have hz := y.hk.z
  obtain ⟨o1, o2, o3, o4, o5, o6, o7, o8, o9⟩ := y.2.2.1
  unfold f_X9_write f_X10_write
  rw [rd hr (rt_p P Q), bR_s, hasCell_eq y, bC_s]
  by_cases c : inI x (hZ (sH σ)) = true
  · obtain ⟨i, hi, rfl⟩ := inI_j c (by omega)
    rw [if_neg (bz_t c), lit_in t 9 9 rfl (by decide)]
    by_cases c2 : inI t 10 = true
    · obtain ⟨j, hj, rfl⟩ := inI_j c2 (by omega)
      have n5 := y.ca.2.2.2.2.2.2.1.1
      have n34 := y.ma.2.2.2.2.2.2.1.1
      rw [if_pos c2, rd hr (rt_0_8 P Q), bR_s]
      by_cases q : σ.2 0 4 < 15
      · obtain ⟨μ1, e1, T1⟩ := two_run (a := 86) (k := 5) i j (fun μ9 => some μ9) hr (rt_86_2 P Q) (rt_86_3 P Q) (L := 15) rfl rfl q (by decide) n5 (by decide) (by decide) (by decide)
        have h1 : f_X6_addEntry μ 86 (nI i) (nI j) = some μ1 := by
          unfold f_X6_addEntry
          rw [if_neg (show ¬ μ.1 86 5 < 0 by rw [n5]; exact nI_pos (by omega)), if_neg (show ¬ (15 : Int32) ≤ μ.1 86 5 by rw [n5]; exact nI_ge (b := 15) q (by omega))]
          exact e1
        have g1 : Ag μ μ1 XC := T1.ag (by decide) (by decide) (by decide)
        have cA := y.ca.ne (μ' := μ1) y.p (fun a h1 h2 => T1.2.1 a (by omega) (by omega) (by omega)) (n := σ.2 0 3) (n2 := σ.2 0 4 + 1) (f := σ.2 2) (t := σ.2 3) (f2 := put (σ.2 4) (σ.2 0 4) i) (t2 := put (σ.2 5) (σ.2 0 4) j)
          (y.ca.2.2.2.2.2.1.cg (T1.2.2.1 4 (by decide)) (T1.2.1 87 (by decide) (by decide) (by decide)) (T1.2.1 88 (by decide) (by decide) (by decide)))
          ⟨T1.2.2.2.1, fun k hk => ⟨T1.2.2.2.2.1 _ (fun m hm => (y.ca.2.2.2.2.2.2.1.2 m hm).1) k hk, T1.2.2.2.2.2 _ (fun m hm => (y.ca.2.2.2.2.2.2.1.2 m hm).2) k hk⟩⟩
        have m0 := y.ma1 g1
        have hr1 : μ1.2 = RFt P Q := g1.1.trans hr
        obtain ⟨μ2, e2, T2⟩ := two_run (a := 107) (k := 34) i j (fun μ16 => some (μ16.1 107 34, μ16)) hr1 (rt_107_35 P Q) (rt_107_36 P Q) (L := 15) rfl rfl q (by decide) m0.2.2.2.2.2.2.1.1 (by decide) (by decide) (by decide)
        have g2 : Ag μ1 μ2 XM := T2.ag (by decide) (by decide) (by decide)
        have mA := m0.ne (μ' := μ2) (fun a h1 h2 => T2.2.1 a (by omega) (by omega) (by omega)) (fun k hk => T2.2.2.1 k (by omega)) (n := σ.2 0 3) (n2 := σ.2 0 4 + 1) (f := σ.2 2) (t := σ.2 3) (f2 := put (σ.2 4) (σ.2 0 4) i) (t2 := put (σ.2 5) (σ.2 0 4) j)
          (m0.2.2.2.2.2.1.cg (T2.2.2.1 30 (by decide)) (T2.2.1 124 (by decide) (by decide) (by decide)) (T2.2.1 125 (by decide) (by decide) (by decide)))
          ⟨T2.2.2.2.1, fun k hk => ⟨T2.2.2.2.2.1 _ (fun m hm => (m0.2.2.2.2.2.2.1.2 m hm).1) k hk, T2.2.2.2.2.2 _ (fun m hm => (m0.2.2.2.2.2.2.1.2 m hm).2) k hk⟩⟩
        have y2 := y.step g1 cA g2 (T2.2.2.1 12 (by decide)) mA ⟨o1, o2, o3, o4, o5, o6, o7, ⟨show σ.2 0 4 + 1 ≤ 15 by omega, fun k hk => ⟨put_b (p := fun v => v < hZ (sH σ)) (fun k hk => (o8.2 k hk).1) hi k hk, put_b (p := fun v => v ≤ 9) (fun k hk => (o8.2 k hk).2) (by omega) k hk⟩⟩, o9⟩
        rw [if_pos (show μ.1 86 5 < (15 : Int32) by rw [n5]; exact nI_lt (b := 15) q (by omega)), bR_s, h1, bV_s, rd hr1 (rt_0_8 P Q), bR_s, T1.2.2.2.1]
        refine ⟨_, μ1, μ2, rfl, ?_, y2.i⟩
        rw [isCell_h o1 m0.1, bC_s, if_neg (bz_t c), in_lit μ1 _ 9 9 rfl (by decide), bC_s, if_neg (bz_t c2), if_neg (show ¬ μ1.1 107 34 = (15 : Int32) by rw [m0.2.2.2.2.2.2.1.1]; exact nI_ne (b := 15) (by omega) (by omega) (by omega))]
        refine e2.trans ?_
        rw [T2.2.2.2.1]
      · have q6 : σ.2 0 4 = 15 := by omega
        rw [if_neg (show ¬ μ.1 86 5 < (15 : Int32) by rw [n5, q6]; decide)]
        refine ⟨_, μ, μ, rfl, ?_, hI⟩
        rw [isCell_eq y, bC_s, if_neg (bz_t c), in_lit μ _ 9 9 rfl (by decide), bC_s, if_neg (bz_t c2), n34, if_pos (by rw [q6]; rfl)]
    · rw [if_neg c2]
      refine ⟨_, μ, μ, rfl, ?_, hI⟩
      rw [isCell_eq y, bC_s, if_neg (bz_t c), in_lit μ t 9 9 rfl (by decide), bC_s, if_pos (bz_f (by simpa using c2))]
  · rw [if_pos (bz_f (by simpa using c))]
    refine ⟨_, μ, μ, rfl, ?_, hI⟩
    rw [isCell_eq y, bC_s, if_pos (bz_f (by simpa using c))]
def One (μ μ' : Mm) (a k r n i : Nat) : Prop := μ'.2 = μ.2 ∧ (∀ b, b ≠ a → b ≠ r → μ'.1 b = μ.1 b) ∧ (∀ k', k' ≠ k → μ'.1 a k' = μ.1 a k') ∧ μ'.1 a k = nI (n + 1) ∧
  (∀ f : Nat → Nat, (∀ m, m < n → μ.1 r m = nI (f m)) → ∀ m, m < n + 1 → μ'.1 r m = nI (put f n i m))
theorem one_run {α : Type} {μ : Mm} {P Q a k r s1 n L : Nat} (i : Nat) (K : Mm → Option α) (hr : μ.2 = RFt P Q) (h1 : RFt P Q a s1 = some r) (l1 : ln r = L) (hn : n < L) (hL : L < 2 ^ 31) (hk : μ.1 a k = nI n) (na1 : a ≠ r) :
    ∃ μ', (bR (μ.2 a s1) (fun b3 => gd (ckb (μ.1 a k) (ln b3)) (bM (up2 μ.1 b3 (μ.1 a k).toNatClampNeg (nI i), μ.2) (fun μ8 => bM (up2 μ8.1 a k ((μ8.1 a k) + (1 : Int32)), μ8.2) K)))) = K μ' ∧ One μ μ' a k r n i := by
  refine ⟨(up2 (up2 μ.1 r n (nI i)) a k (nI (n + 1)), μ.2), ?_, rfl, fun b q0 q1 => ?_, fun k' q => ?_, up2_at _ a k _, fun f hf m hm => ?_⟩
  · rw [rd hr h1, bR_s, hk, l1, ckb_n hn hL, gd_t, bM_s, nI_clamp (by omega)]
    show bM (up2 (up2 μ.1 r n (nI i)) a k (up2 μ.1 r n (nI i) a k + 1), μ.2) K = _
    rw [up2_na na1, hk, nI_p1]
    rfl
  · show up2 _ a k _ b = _
    rw [up2_ne q0, up2_ne q1]
  · show up2 _ a k _ a k' = _
    rw [up2_nk q, up2_na na1]
  · show up2 _ a k _ r m = _
    rw [up2_na (Ne.symm na1)]
    exact put2 hf m hm
theorem One.ag {μ μ' : Mm} {a k r n i : Nat} {X : Nat → Prop} (t : One μ μ' a k r n i) (h0 : X a) (h1 : X r) : Ag μ μ' X :=
  ⟨t.1, fun b hb => t.2.1 b (fun q => hb (by rw [q]; exact h0)) (fun q => hb (by rw [q]; exact h1))⟩
theorem st_feed : Sp1 Inv f_X9_feed f_X10_feed := by
  intro μ x hI
  obtain ⟨σ, P, Q, y⟩ := id hI
  have hr := y.2.1
  obtain ⟨o1, o2, o3, o4, o5, o6, o7, o8, o9⟩ := y.2.2.1
  have n1 := y.ca.2.2.2.2.1.1
  have n11 := y.ma.2.2.2.2.1.1
  unfold f_X9_feed f_X10_feed
  rw [lit_in x 255 255 rfl (by decide)]
  by_cases c : inI x 256 = true
  · obtain ⟨i, hi, rfl⟩ := inI_j c (by omega)
    rw [if_pos c, rd hr (rt_0_0 P Q), bR_s]
    unfold f_X7_isFull
    rw [rd hr (rt_1_0 P Q), bR_s]
    by_cases q : σ.2 0 2 < 240
    · obtain ⟨μ1, e1, T1⟩ := one_run (a := 1) (k := 1) i (fun μ9 => some μ9) hr (rt_1_0 P Q) (L := 240) rfl q (by decide) n1 (by decide)
      have h1 : f_X7_add μ 1 (nI i) = some μ1 := by
        unfold f_X7_add
        rw [if_neg (show ¬ μ.1 1 1 < 0 by rw [n1]; exact nI_pos (by omega)), rd hr (rt_1_0 P Q), bR_s, if_neg (show ¬ Int32.ofNat (ln 2) ≤ μ.1 1 1 by rw [n1]; exact nI_ge (show σ.2 0 2 < 240 from q) (by decide))]
        rw [rd hr (rt_1_0 P Q)] at e1
        exact e1
      have g1 : Ag μ μ1 XC := T1.ag (by decide) (by decide)
      have cA := y.ca.tx (μ' := μ1) y.p (fun a h1 h2 => T1.2.1 a (by omega) (by omega)) (n := σ.2 0 2 + 1) (t := put (σ.2 1) (σ.2 0 2) i)
        ⟨T1.2.2.2.1, fun k hk => T1.2.2.2.2 _ (fun m hm => y.ca.2.2.2.2.1.2 m hm) k hk⟩
      have m0 := y.ma1 g1
      have hr1 : μ1.2 = RFt P Q := g1.1.trans hr
      obtain ⟨μ2, e2, T2⟩ := one_run (a := 107) (k := 11) i (fun μ16 => some (μ16.1 107 11, μ16)) hr1 (rt_107_10 P Q) (L := 240) rfl q (by decide) m0.2.2.2.2.1.1 (by decide)
      have g2 : Ag μ1 μ2 XM := T2.ag (by decide) (by decide)
      have mA := m0.tx (μ' := μ2) (fun a h1 h2 => T2.2.1 a (by omega) (by omega)) (fun k hk => T2.2.2.1 k (by omega)) (n := σ.2 0 2 + 1) (t := put (σ.2 1) (σ.2 0 2) i)
        ⟨T2.2.2.2.1, fun k hk => T2.2.2.2.2 _ (fun m hm => m0.2.2.2.2.1.2 m hm) k hk⟩
      have y2 := y.step g1 cA g2 (T2.2.2.1 12 (by decide)) mA ⟨o1, o2, o3, o4, o5, ⟨show σ.2 0 2 + 1 ≤ 240 by omega, fun k hk => put_b (p := fun v => v ≤ 255) (fun k hk => o6.2 k hk) (by omega) k hk⟩, o7, o8, o9⟩
      rw [if_pos (show μ.1 1 1 < Int32.ofNat (ln 2) by rw [n1]; exact nI_lt (show σ.2 0 2 < 240 from q) (by decide)), bC_s, if_pos rfl, rd hr (rt_0_0 P Q), bR_s, h1, bV_s, rd hr1 (rt_0_0 P Q), bR_s, T1.2.2.2.1]
      refine ⟨_, μ1, μ2, rfl, ?_, y2.i⟩
      rw [in_lit μ1 _ 255 255 rfl (by decide), bC_s, if_neg (bz_t c), if_neg (show ¬ μ1.1 107 11 = (240 : Int32) by rw [m0.2.2.2.2.1.1]; exact nI_ne (b := 240) (by omega) (by omega) (by omega))]
      refine e2.trans ?_
      rw [T2.2.2.2.1]
    · have q6 : σ.2 0 2 = 240 := by omega
      rw [if_neg (show ¬ μ.1 1 1 < Int32.ofNat (ln 2) by rw [n1, q6]; decide), bC_s, if_neg (by decide)]
      refine ⟨_, μ, μ, rfl, ?_, hI⟩
      rw [in_lit μ _ 255 255 rfl (by decide), bC_s, if_neg (bz_t c), n11, if_pos (by rw [q6]; rfl)]
  · rw [if_neg c]
    refine ⟨_, μ, μ, rfl, ?_, hI⟩
    rw [in_lit μ x 255 255 rfl (by decide), bC_s, if_pos (bz_f (by simpa using c))]
