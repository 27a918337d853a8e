/-! what changes, what stays -/
def Ag (μ μ' : Mm) (X : Nat → Prop) : Prop := μ'.2 = μ.2 ∧ ∀ a, ¬ X a → μ'.1 a = μ.1 a
theorem Ag.rf {μ : Mm} {X : Nat → Prop} : Ag μ μ X := ⟨rfl, fun _ _ => rfl⟩
theorem Ag.tr {μ μ1 μ2 : Mm} {X : Nat → Prop} (h : Ag μ μ1 X) (g : Ag μ1 μ2 X) : Ag μ μ2 X := ⟨g.1.trans h.1, fun a ha => (g.2 a ha).trans (h.2 a ha)⟩
theorem Ag.wk {μ μ1 : Mm} {X Y : Nat → Prop} (h : Ag μ μ1 X) (k : ∀ a, X a → Y a) : Ag μ μ1 Y := ⟨h.1, fun a ha => h.2 a (fun q => ha (k a q))⟩
theorem Ag.up {μ : Mm} {X : Nat → Prop} {a k : Nat} {v : Int32} (h : X a) : Ag μ (up2 μ.1 a k v, μ.2) X := ⟨rfl, fun b hb => up2_ne (fun q => hb (by rw [q]; exact h))⟩
theorem rd {μ : Mm} {P Q a k v : Nat} (hr : μ.2 = RFt P Q) (h : RFt P Q a k = some v) : μ.2 a k = some v := by rw [hr]; exact h
theorem CB.cg {μ μ' : Mm} {a : Nat} {h : Hs} {b : Bt} (hb : CB μ a h b) (h0 : μ'.1 a = μ.1 a) (h1 : μ'.1 (a + 1) = μ.1 (a + 1)) (h2 : μ'.1 (a + 2) = μ.1 (a + 2)) : CB μ' a h b := by
  unfold CB
  rw [h0, h1, h2]
  exact hb
theorem CB.ag {μ μ' : Mm} {a : Nat} {h : Hs} {b : Bt} {X : Nat → Prop} (hb : CB μ a h b) (g : Ag μ μ' X) (h0 : ¬ X a) (h1 : ¬ X (a + 1)) (h2 : ¬ X (a + 2)) : CB μ' a h b := hb.cg (g.2 _ h0) (g.2 _ h1) (g.2 _ h2)
theorem MB.ag {μ μ' : Mm} {a o : Nat} {h : Hs} {b : Bt} {X : Nat → Prop} (hb : MB μ a o h b) (g : Ag μ μ' X) (h0 : ¬ X a) : MB μ' a o h b := by
  unfold MB
  rw [g.2 _ h0]
  exact hb
theorem CH.ag {μ μ' : Mm} {P : Nat} {h : Hs} {X : Nat → Prop} (hb : CH μ P h) (g : Ag μ μ' X) (h0 : ¬ X P) (h1 : ¬ X (P + 1)) (h2 : ¬ X (P + 2)) (h3 : ¬ X (P + 3)) (h4 : ¬ X (P + 4)) : CH μ' P h := by
  unfold CH
  rw [g.2 _ h0, g.2 _ h1, g.2 _ h2, g.2 _ h3, g.2 _ h4]
  exact hb
theorem MH.ag {μ μ' : Mm} {h : Hs} {X : Nat → Prop} (hb : MH μ h) (g : Ag μ μ' X) (h0 : ¬ X 107) (h1 : ¬ X 108) (h2 : ¬ X 109) (h3 : ¬ X 110) (h4 : ¬ X 111) : MH μ' h := by
  unfold MH
  rw [g.2 _ h0, g.2 _ h1, g.2 _ h2, g.2 _ h3, g.2 _ h4]
  exact hb
/-! ways to stand -/
def figs (s : Nat → Nat) : Nat → Nat
  | 0 => 0
  | n + 1 => 10 * figs s n + s n
theorem figs_le {s : Nat → Nat} (hs : ∀ i, s i ≤ 2) : ∀ n, figs s n < 10 ^ n
  | 0 => Nat.zero_lt_one
  | n + 1 => by
    have h := figs_le hs n
    have h2 := hs n
    show 10 * figs s n + s n < 10 ^ (n + 1)
    rw [Nat.pow_succ]
    omega
theorem figs5 {s : Nat → Nat} (hs : ∀ i, s i ≤ 2) {n : Nat} (hn : n ≤ 5) : figs s n < 100000 := Nat.lt_of_lt_of_le (figs_le hs n) (Nat.pow_le_pow_right (by decide) hn)
theorem figs_cong {s t : Nat → Nat} : ∀ {n : Nat}, (∀ i, i < n → s i = t i) → figs s n = figs t n
  | 0, _ => rfl
  | n + 1, h => by
    show 10 * figs s n + s n = 10 * figs t n + t n
    rw [figs_cong (fun i hi => h i (by omega)), h n (by omega)]
def CW (μ : Mm) (s : Nat → Nat) (N : Nat) : Prop := μ.1 91 1 = nI N ∧ ∀ i, i < N → μ.1 92 i = nI (s i)
def MW (μ : Mm) (s : Nat → Nat) (N : Nat) : Prop := ∀ i, i < N → μ.1 120 i = nI (s i)
theorem CW.ag {μ μ' : Mm} {s : Nat → Nat} {N : Nat} {X : Nat → Prop} (hb : CW μ s N) (g : Ag μ μ' X) (h0 : ¬ X 91) (h1 : ¬ X 92) : CW μ' s N := by
  unfold CW
  rw [g.2 _ h0, g.2 _ h1]
  exact hb
theorem MW.ag {μ μ' : Mm} {s : Nat → Nat} {N : Nat} {X : Nat → Prop} (hb : MW μ s N) (g : Ag μ μ' X) (h0 : ¬ X 120) : MW μ' s N := by
  unfold MW
  rw [g.2 _ h0]
  exact hb
theorem fs1 {f m : Nat} (h : m < f) : ∃ g, f = g + 1 := ⟨f - 1, by omega⟩
theorem follow_loop {P Q N : Nat} {h : Hs} {b : Bt} (hm : hM h ≤ 7) (hN : N ≤ 5) : ∀ (m k f : Nat) (μ : Mm), k + m = N → m < f → μ.2 = RFt P Q → CB μ 19 h b → μ.1 91 1 = nI N → (∀ i, i < k → μ.1 92 i = nI (stand h b i)) →
    ∃ μ', f_X8_follow_L11 f μ 91 19 (nI k) = some μ' ∧ Ag μ μ' (fun a => a = 92) ∧ ∀ i, i < N → μ'.1 92 i = nI (stand h b i) := by
  intro m
  induction m with
  | zero =>
    intro k f μ hk hf hr hb h1 h2
    obtain ⟨f, rfl⟩ := fs1 hf
    refine ⟨μ, ?_, Ag.rf, fun i hi => h2 i (by omega)⟩
    show f_X8_follow_L11b _ _ _ _ _ = _
    unfold f_X8_follow_L11b
    rw [h1, if_pos (nI_le (by omega) (by omega))]
  | succ m ih =>
    intro k f μ hk hf hr hb h1 h2
    obtain ⟨f, rfl⟩ := fs1 hf
    have g : Ag μ (up2 μ.1 92 k (nI (stand h b k)), μ.2) (fun a => a = 92) := Ag.up rfl
    obtain ⟨μ', e1, e2, e3⟩ := ih (k + 1) f (up2 μ.1 92 k (nI (stand h b k)), μ.2) (by omega) (by omega) hr (hb.ag g (by decide) (by decide) (by decide)) (by rw [g.2 91 (by decide)]; exact h1) (fun i hi => by
      show up2 μ.1 92 k _ 92 i = _
      by_cases q : i = k
      · rw [q, up2_at]
      · rw [up2_nk q]; exact h2 i (by omega))
    refine ⟨μ', ?_, g.tr e2, e3⟩
    show f_X8_follow_L11b _ _ _ _ _ = _
    unfold f_X8_follow_L11b
    rw [h1, if_neg (nI_ge (by omega) (by omega)), rd hr (rt_91_0 P Q), bR_s, standOf_eq hr bal_19 hm hb (by omega), bC_s, ckb_n (show k < ln 92 by show k < 5; omega) (by decide), gd_t, bM_s, nI_clamp (by omega), nI_p1]
    exact e1
theorem min5 {N : Nat} (hN : N ≤ 5) : (if (5 : Int32) < nI N then (5 : Int32) else nI N) = nI N := by
  rw [if_neg (show ¬ (5 : Int32) < nI N from nI_nlt (a := 5) (b := N) (by omega) (by omega))]
theorem follow_eq {P Q N : Nat} {h : Hs} {b : Bt} {μ : Mm} (hm : hM h ≤ 7) (hN : N ≤ 5) (hr : μ.2 = RFt P Q) (hb : CB μ 19 h b) :
    ∃ μ', f_X8_follow μ 91 19 (nI N) = some μ' ∧ Ag μ μ' (fun a => a = 91 ∨ a = 92) ∧ CW μ' (stand h b) N := by
  have g : Ag μ (up2 μ.1 91 1 (nI N), μ.2) (fun a => a = 91 ∨ a = 92) := Ag.up (Or.inl rfl)
  obtain ⟨μ', e1, e2, e3⟩ := follow_loop (P := P) (Q := Q) (h := h) (b := b) hm hN N 0 FU (up2 μ.1 91 1 (nI N), μ.2) (by omega) (by rw [FU_eq]; omega) hr (hb.ag g (by decide) (by decide) (by decide)) (up2_at μ.1 91 1 (nI N)) (fun i hi => absurd hi (by omega))
  refine ⟨μ', ?_, g.tr (e2.wk (fun a q => Or.inr q)), ?_, e3⟩
  · unfold f_X8_follow
    rw [min5 hN, bM_s]
    exact e1
  · rw [e2.2 91 (by decide)]
    exact up2_at μ.1 91 1 (nI N)
theorem wstandOf_eq {P Q N i : Nat} {s : Nat → Nat} {μ : Mm} (hr : μ.2 = RFt P Q) (hN : N ≤ 5) (hw : CW μ s N) (hi : i < N) : f_X8_standOf μ 91 (nI i) = some (nI (s i), μ) := by
  unfold f_X8_standOf
  rw [if_neg (nI_pos (by omega)), hw.1, if_neg (nI_ge (by omega) (by omega)), rd hr (rt_91_0 P Q), bR_s, bR_s, if_neg (show ¬ Int32.ofNat (ln 92) ≤ nI i from nI_ge (show i < 5 by omega) (by decide)), ckb_n (show i < ln 92 by show i < 5; omega) (by decide), gd_t, nI_clamp (by omega), hw.2 i hi]
theorem nI_10 (a b : Nat) : nI a * (10 : Int32) + nI b = nI (10 * a + b) := by
  show nI a * nI 10 + nI b = _
  rw [pk_mul, nI_add, Nat.mul_comm]
theorem figures_loop {P Q N : Nat} {s : Nat → Nat} {μ : Mm} (hr : μ.2 = RFt P Q) (hN : N ≤ 5) (hw : CW μ s N) : ∀ (m k f : Nat), k + m = N → m < f → f_X8_figures_L4 f μ 91 (nI (figs s k)) (nI k) = some (nI (figs s N), μ) := by
  intro m
  induction m with
  | zero =>
    intro k f hk hf
    obtain ⟨f, rfl⟩ := fs1 hf
    show f_X8_figures_L4b _ _ _ _ _ = _
    unfold f_X8_figures_L4b
    rw [hw.1, if_pos (nI_le (by omega) (by omega)), show k = N by omega]
  | succ m ih =>
    intro k f hk hf
    obtain ⟨f, rfl⟩ := fs1 hf
    show f_X8_figures_L4b _ _ _ _ _ = _
    unfold f_X8_figures_L4b
    rw [hw.1, if_neg (nI_ge (by omega) (by omega)), wstandOf_eq hr hN hw (by omega), bC_s, bI_s, nI_10, nI_p1]
    exact ih (k + 1) f (by omega) (by omega)
theorem figures_eq {P Q N : Nat} {s : Nat → Nat} {μ : Mm} (hr : μ.2 = RFt P Q) (hN : N ≤ 5) (hw : CW μ s N) : f_X8_figures μ 91 = some (nI (figs s N), μ) :=
  figures_loop hr hN hw N 0 FU (by omega) (by rw [FU_eq]; omega)
theorem standNow_eq {P Q : Nat} {h : Hs} {b : Bt} {μ : Mm} (hk : hok h) (hr : μ.2 = RFt P Q) (hh : μ.1 P 3 = nI (hN h)) (hb : CB μ 19 h b) :
    ∃ μ', f_X9_standNow μ 0 = some (nI (figs (stand h b) (hN h)), μ') ∧ Ag μ μ' (fun a => a = 91 ∨ a = 92) ∧ CW μ' (stand h b) (hN h) := by
  obtain ⟨μ', e1, e2, e3⟩ := follow_eq (N := hN h) hk.2.2.2.1 hk.2.2.1 hr hb
  refine ⟨μ', ?_, e2, e3⟩
  unfold f_X9_standNow
  rw [rd hr (rt_0_9 P Q), bR_s, rd hr (rt_0_4 P Q), bR_s, rd hr (rt_p P Q), bR_s, hh, e1, bV_s, rd (e2.1.trans hr) (rt_0_9 P Q), bR_s, figures_eq (e2.1.trans hr) hk.2.2.1 e3, bC_s]
/-! the reference's -/
theorem nI_10m (a b : Nat) : (10 : Int32) * nI a + nI b = nI (10 * a + b) := by
  show nI 10 * nI a + nI b = _
  rw [pk_mul, nI_add]
theorem mstandNow_loop {P Q : Nat} {h : Hs} {b : Bt} (hk : hok h) (hbk : bok h b) : ∀ (m k f : Nat) (μ : Mm), k + m = hN h → m < f → μ.2 = RFt P Q → MH μ h → MB μ 112 0 h b → (∀ i, i < k → μ.1 120 i = nI (stand h b i)) →
    ∃ μ', f_X10_standNow_L4 f μ 107 (nI (figs (stand h b) k)) (nI k) = some (nI (figs (stand h b) (hN h)), μ') ∧ Ag μ μ' (fun a => a = 120) ∧ MW μ' (stand h b) (hN h) := by
  have hN5 := hk.2.2.1
  intro m
  induction m with
  | zero =>
    intro k f μ hkm hf hr hh hb h2
    obtain ⟨f, rfl⟩ := fs1 hf
    refine ⟨μ, ?_, Ag.rf, fun i hi => h2 i (by omega)⟩
    show f_X10_standNow_L4b _ _ _ _ _ = _
    unfold f_X10_standNow_L4b
    rw [hh.2.2.2.1, if_pos (nI_le (by omega) (by omega)), show k = hN h by omega]
  | succ m ih =>
    intro k f μ hkm hf hr hh hb h2
    obtain ⟨f, rfl⟩ := fs1 hf
    have g : Ag μ (up2 μ.1 120 k (nI (stand h b k)), μ.2) (fun a => a = 120) := Ag.up rfl
    obtain ⟨μ', e1, e2, e3⟩ := ih (k + 1) f (up2 μ.1 120 k (nI (stand h b k)), μ.2) (by omega) (by omega) hr (hh.ag g (by decide) (by decide) (by decide) (by decide) (by decide)) (hb.ag g (by decide)) (fun i hi => by
      show up2 μ.1 120 k _ 120 i = _
      by_cases q : i = k
      · rw [q, up2_at]
      · rw [up2_nk q]; exact h2 i (by omega))
    refine ⟨μ', ?_, g.tr e2, e3⟩
    show f_X10_standNow_L4b _ _ _ _ _ = _
    unfold f_X10_standNow_L4b
    have hc : ckb (nI k) (ln 120) = true := ckb_n (show k < 5 by omega) (by decide)
    rw [hh.2.2.2.1, if_neg (nI_ge (by omega) (by omega)), rd hr (rt_107_25 P Q), bR_s, mstandOf_eq hr hk.2.2.2.1 hh.2.2.2.2.1 hb hbk (by omega), bC_s, hc, gd_t, bM_s]
    show bR (μ.2 107 25) _ = _
    rw [rd hr (rt_107_25 P Q), bR_s, hc, gd_t, nI_clamp (by omega)]
    show bI (10 * _ + up2 μ.1 120 k _ 120 k) _ = _
    rw [up2_at, nI_10m, bI_s, nI_p1]
    exact e1
theorem mstandNow_eq {P Q : Nat} {h : Hs} {b : Bt} {μ : Mm} (hk : hok h) (hbk : bok h b) (hr : μ.2 = RFt P Q) (hh : MH μ h) (hb : MB μ 112 0 h b) :
    ∃ μ', f_X10_standNow μ 107 = some (nI (figs (stand h b) (hN h)), μ') ∧ Ag μ μ' (fun a => a = 120) ∧ MW μ' (stand h b) (hN h) :=
  mstandNow_loop hk hbk (hN h) 0 FU μ (by omega) (by rw [FU_eq]; have := hk.2.2.1; omega) hr hh hb (fun i hi => absurd hi (by omega))
/-! the ways by their numbers -/
def dig3 (N code : Nat) (i : Nat) : Nat := code / 3 ^ (N - 1 - i) % 3
theorem dig3_le (N code i : Nat) : dig3 N code i ≤ 2 := by
  unfold dig3
  have := Nat.mod_lt (code / 3 ^ (N - 1 - i)) (show 0 < 3 by omega)
  omega
theorem rem3 {a : Nat} (ha : a < 2 ^ 31) : nI a - nI a / (3 : Int32) * (3 : Int32) = nI (a % 3) := pk_rem (d := 3) ha (by omega) (by omega)
theorem div3 {a : Nat} (ha : a < 2 ^ 31) : nI a / (3 : Int32) = nI (a / 3) := pk_div (d := 3) ha (by omega) (by omega)
theorem nI_dn (k : Nat) : nI (k + 1) + (-1 : Int32) = nI k := pk_m1 k
theorem nI_dn0 : nI 0 + (-1 : Int32) < 0 := by decide
theorem nI_sub1 (k : Nat) : nI (k + 1) - (1 : Int32) = nI k := nI_pred k
theorem become_loop {P Q N code : Nat} (hN : N ≤ 5) (hc : code < 243) : ∀ (k f : Nat) (μ : Mm) (x : Int32), k ≤ N → k < f → μ.2 = RFt P Q → (x + 1 = nI k) → (∀ i, k ≤ i → i < N → μ.1 92 i = nI (dig3 N code i)) →
    ∃ μ', f_X8_become_L19 f μ 91 (nI (code / 3 ^ (N - k))) x = some μ' ∧ Ag μ μ' (fun a => a = 92) ∧ ∀ i, i < N → μ'.1 92 i = nI (dig3 N code i) := by
  intro k
  induction k with
  | zero =>
    intro f μ x hk hf hr hx h2
    obtain ⟨f, rfl⟩ := fs1 hf
    refine ⟨μ, ?_, Ag.rf, fun i hi => h2 i (by omega) hi⟩
    show f_X8_become_L19b _ _ _ _ _ = _
    unfold f_X8_become_L19b
    have : x = -1 := by
      have e : x = nI 0 - 1 := by rw [← hx]; simp
      rw [e]; decide
    rw [this, if_pos (by decide)]
  | succ k ih =>
    intro f μ x hk hf hr hx h2
    obtain ⟨f, rfl⟩ := fs1 hf
    have e : x = nI k := by
      have e : x = nI (k + 1) - 1 := by rw [← hx]; simp
      rw [e, nI_sub1]
    have hq : code / 3 ^ (N - (k + 1)) < 243 := Nat.lt_of_le_of_lt (Nat.div_le_self _ _) hc
    have hd : code / 3 ^ (N - (k + 1)) / 3 = code / 3 ^ (N - k) := by
      rw [Nat.div_div_eq_div_mul, ← Nat.pow_succ, show (N - (k + 1)).succ = N - k by omega]
    have g : Ag μ (up2 μ.1 92 k (nI (code / 3 ^ (N - (k + 1)) % 3)), μ.2) (fun a => a = 92) := Ag.up rfl
    obtain ⟨μ', e1, e2, e3⟩ := ih f (up2 μ.1 92 k (nI (code / 3 ^ (N - (k + 1)) % 3)), μ.2) (nI k + (-1)) (by omega) (by omega) hr (show nI k + (-1) + 1 = nI k by rw [Int32.add_assoc, show (-1 : Int32) + 1 = 0 from rfl, Int32.add_zero]) (fun i h1 hi => by
      show up2 μ.1 92 k _ 92 i = _
      by_cases q : i = k
      · rw [q, up2_at]
        unfold dig3
        rw [show N - 1 - k = N - (k + 1) by omega]
      · rw [up2_nk q]; exact h2 i (by omega) hi)
    refine ⟨μ', ?_, g.tr e2, e3⟩
    show f_X8_become_L19b _ _ _ _ _ = _
    unfold f_X8_become_L19b
    rw [e, if_neg (nI_pos (by omega)), rd hr (rt_91_0 P Q), bR_s, ckb_n (show k < ln 92 by show k < 5; omega) (by decide), gd_t, bM_s, nI_clamp (by omega), rem3 (by omega), div3 (by omega), bI_s, hd]
    exact e1
theorem become_eq {P Q N code : Nat} {μ : Mm} (hN : N ≤ 5) (hc : code < 243) (hr : μ.2 = RFt P Q) :
    ∃ μ', f_X8_become μ 91 (nI code) (nI N) = some μ' ∧ Ag μ μ' (fun a => a = 91 ∨ a = 92) ∧ CW μ' (dig3 N code) N := by
  have g : Ag μ (up2 μ.1 91 1 (nI N), μ.2) (fun a => a = 91 ∨ a = 92) := Ag.up (Or.inl rfl)
  obtain ⟨μ', e1, e2, e3⟩ := become_loop (P := P) (Q := Q) (N := N) hN hc N FU (up2 μ.1 91 1 (nI N), μ.2) (nI N - 1) (Nat.le_refl N) (by rw [FU_eq]; omega) hr (by simp) (fun i h1 h2 => absurd h1 (by omega))
  rw [Nat.sub_self, Nat.pow_zero, Nat.div_one] at e1
  refine ⟨μ', ?_, g.tr (e2.wk (fun a q => Or.inr q)), ?_, e3⟩
  · unfold f_X8_become
    rw [min5 hN, bM_s]
    show bI (up2 μ.1 91 1 (nI N) 91 1 - 1) _ = _
    rw [up2_at, bI_s]
    exact e1
  · rw [e2.2 91 (by decide)]
    exact up2_at μ.1 91 1 (nI N)
theorem nI_3 (a : Nat) : nI a * (3 : Int32) = nI (a * 3) := pk_mul a 3
theorem countFor_loop {N : Nat} {μ : Mm} (hN : N ≤ 5) : ∀ (m k f : Nat), k + m = N → m < f → f_X8_countFor_L4 f μ (nI N) (nI (3 ^ k)) (nI k) = some (nI (3 ^ N), μ) := by
  intro m
  induction m with
  | zero =>
    intro k f hk hf
    obtain ⟨f, rfl⟩ := fs1 hf
    show f_X8_countFor_L4b _ _ _ _ _ = _
    unfold f_X8_countFor_L4b
    rw [if_pos (nI_le (by omega) (by omega)), show k = N by omega]
  | succ m ih =>
    intro k f hk hf
    obtain ⟨f, rfl⟩ := fs1 hf
    show f_X8_countFor_L4b _ _ _ _ _ = _
    unfold f_X8_countFor_L4b
    rw [if_neg (nI_ge (by omega) (by omega)), bI_s, nI_3, nI_p1, ← Nat.pow_succ]
    exact ih (k + 1) f (by omega) (by omega)
theorem countFor_eq {N : Nat} {μ : Mm} (a : Nat) (hN : N ≤ 5) : f_X8_countFor μ a (nI N) = some (nI (3 ^ N), μ) :=
  countFor_loop hN N 0 FU (by omega) (by rw [FU_eq]; omega)
theorem mways_loop {N : Nat} {μ : Mm} (hN : N ≤ 5) (hn : μ.1 107 3 = nI N) : ∀ (m k f : Nat), k + m = N → m < f → f_X10_waysToStand_L4 f μ 107 (nI (3 ^ k)) (nI k) = some (nI (3 ^ N), μ) := by
  intro m
  induction m with
  | zero =>
    intro k f hk hf
    obtain ⟨f, rfl⟩ := fs1 hf
    show f_X10_waysToStand_L4b _ _ _ _ _ = _
    unfold f_X10_waysToStand_L4b
    rw [hn, if_pos (nI_le (by omega) (by omega)), show k = N by omega]
  | succ m ih =>
    intro k f hk hf
    obtain ⟨f, rfl⟩ := fs1 hf
    show f_X10_waysToStand_L4b _ _ _ _ _ = _
    unfold f_X10_waysToStand_L4b
    rw [hn, if_neg (nI_ge (by omega) (by omega)), bI_s, nI_3, nI_p1, ← Nat.pow_succ]
    exact ih (k + 1) f (by omega) (by omega)
theorem mways_eq {N : Nat} {μ : Mm} (hN : N ≤ 5) (hn : μ.1 107 3 = nI N) : f_X10_waysToStand μ 107 = some (nI (3 ^ N), μ) :=
  mways_loop hN hn N 0 FU (by omega) (by rw [FU_eq]; omega)
theorem ways_le {N : Nat} (hN : N ≤ 5) : 3 ^ N ≤ 243 := Nat.le_trans (Nat.pow_le_pow_right (by decide) hN) (by decide)
theorem figs_head (s : Nat → Nat) : ∀ n, figs s (n + 1) = s 0 * 10 ^ n + figs (fun i => s (i + 1)) n
  | 0 => by simp [figs]
  | n + 1 => by
    show 10 * figs s (n + 1) + s (n + 1) = _ + (10 * figs (fun i => s (i + 1)) n + s (n + 1))
    rw [figs_head s n, Nat.pow_succ]
    have : s 0 * (10 ^ n * 10) = 10 * (s 0 * 10 ^ n) := by rw [← Nat.mul_assoc, Nat.mul_comm]
    omega
/-- the figures behind the place k -/
def tail3 (N code k : Nat) : Nat := figs (fun i => dig3 N code (k + i)) (N - k)
theorem tail3_step {N code k : Nat} (h : k < N) : tail3 N code k = tail3 N code (k + 1) + 10 ^ (N - (k + 1)) * dig3 N code k := by
  unfold tail3
  rw [show N - k = (N - (k + 1)) + 1 by omega, figs_head, Nat.add_comm, Nat.mul_comm]
  congr 1
  exact figs_cong (fun i _ => by rw [show k + (i + 1) = k + 1 + i by omega])
theorem nI_10r (a : Nat) : nI a * (10 : Int32) = nI (a * 10) := pk_mul a 10
theorem mstandBy_loop {P Q N code : Nat} (hN : N ≤ 5) (hc : code < 243) : ∀ (k f : Nat) (μ : Mm) (x : Int32), k ≤ N → k < f → μ.2 = RFt P Q → (x + 1 = nI k) → (∀ i, k ≤ i → i < N → μ.1 120 i = nI (dig3 N code i)) →
    ∃ μ', f_X10_standBy_L15 f μ 107 (nI (code / 3 ^ (N - k))) (nI (tail3 N code k)) (nI (10 ^ (N - k))) x = some (nI (figs (dig3 N code) N), μ') ∧ Ag μ μ' (fun a => a = 120) ∧ MW μ' (dig3 N code) N := by
  intro k
  induction k with
  | zero =>
    intro f μ x hk hf hr hx h2
    obtain ⟨f, rfl⟩ := fs1 hf
    refine ⟨μ, ?_, Ag.rf, fun i hi => h2 i (by omega) hi⟩
    show f_X10_standBy_L15b _ _ _ _ _ _ _ = _
    unfold f_X10_standBy_L15b
    have : x = -1 := by
      have e : x = nI 0 - 1 := by rw [← hx]; simp
      rw [e]; decide
    rw [this, if_pos (by decide)]
    unfold tail3
    rw [Nat.sub_zero, figs_cong (t := dig3 N code) (fun i _ => by rw [Nat.zero_add])]
  | succ k ih =>
    intro f μ x hk hf hr hx h2
    obtain ⟨f, rfl⟩ := fs1 hf
    have e : x = nI k := by
      have e : x = nI (k + 1) - 1 := by rw [← hx]; simp
      rw [e, nI_sub1]
    have hq : code / 3 ^ (N - (k + 1)) < 243 := Nat.lt_of_le_of_lt (Nat.div_le_self _ _) hc
    have hd : code / 3 ^ (N - (k + 1)) / 3 = code / 3 ^ (N - k) := by
      rw [Nat.div_div_eq_div_mul, ← Nat.pow_succ, show (N - (k + 1)).succ = N - k by omega]
    have hdg : code / 3 ^ (N - (k + 1)) % 3 = dig3 N code k := by
      unfold dig3
      rw [show N - 1 - k = N - (k + 1) by omega]
    have g : Ag μ (up2 μ.1 120 k (nI (dig3 N code k)), μ.2) (fun a => a = 120) := Ag.up rfl
    obtain ⟨μ', e1, e2, e3⟩ := ih f (up2 μ.1 120 k (nI (dig3 N code k)), μ.2) (nI k + (-1)) (by omega) (by omega) hr (show nI k + (-1) + 1 = nI k by rw [Int32.add_assoc, show (-1 : Int32) + 1 = 0 from rfl, Int32.add_zero]) (fun i h1 hi => by
      show up2 μ.1 120 k _ 120 i = _
      by_cases q : i = k
      · rw [q, up2_at]
      · rw [up2_nk q]; exact h2 i (by omega) hi)
    refine ⟨μ', ?_, g.tr e2, e3⟩
    show f_X10_standBy_L15b _ _ _ _ _ _ _ = _
    unfold f_X10_standBy_L15b
    have hcb : ckb (nI k) (ln 120) = true := ckb_n (show k < 5 by omega) (by decide)
    rw [e, if_neg (nI_pos (by omega)), rd hr (rt_107_25 P Q), bR_s, hcb, gd_t, bM_s, nI_clamp (by omega), rem3 (by omega), div3 (by omega), bI_s, hd, hdg]
    show bR (μ.2 107 25) _ = _
    rw [rd hr (rt_107_25 P Q), bR_s, hcb, gd_t]
    show bI (_ + _ * up2 μ.1 120 k _ 120 k) _ = _
    rw [up2_at, pk_mul, nI_add, bI_s, nI_10r, bI_s, ← tail3_step (by omega), ← Nat.pow_succ, show (N - (k + 1)).succ = N - k by omega]
    exact e1
theorem mstandBy_eq {P Q N code : Nat} {μ : Mm} (hN : N ≤ 5) (hc : code < 243) (hn : μ.1 107 3 = nI N) (hr : μ.2 = RFt P Q) :
    ∃ μ', f_X10_standBy μ 107 (nI code) = some (nI (figs (dig3 N code) N), μ') ∧ Ag μ μ' (fun a => a = 120) ∧ MW μ' (dig3 N code) N := by
  obtain ⟨μ', e1, e2, e3⟩ := mstandBy_loop (P := P) (Q := Q) (N := N) hN hc N FU μ (nI N - 1) (Nat.le_refl N) (by rw [FU_eq]; omega) hr (by simp) (fun i h1 h2 => absurd h1 (by omega))
  refine ⟨μ', ?_, e2, e3⟩
  unfold tail3 at e1
  rw [Nat.sub_self, Nat.pow_zero, Nat.div_one] at e1
  unfold f_X10_standBy
  rw [hn, bI_s]
  exact e1
