/-! where marbles roll -/
def near (C c d : Nat) : Bool := decide ((c / C = d / C ∧ (c % C = d % C + 1 ∨ d % C = c % C + 1)) ∨ (c % C = d % C ∧ (c / C = d / C + 1 ∨ d / C = c / C + 1)))
def lw (H : Nat → Nat) (b d : Nat) : Nat := if H d < H b then d else b
def nbk (C c k : Nat) : List Nat := (List.range k).filter (near C c)
def nxt (C R : Nat) (H : Nat → Nat) (c : Nat) : Nat := (nbk C c (C * R)).foldl (lw H) c
set_option maxRecDepth 100000 in
theorem nbk_dec : ∀ C, C < 6 → ∀ R, R < 5 → ∀ c, c < 20 → (!(decide (0 < C ∧ c < C * R)) || decide (nbk C c (C * R) = (if C ≤ c then [c - C] else []) ++ ((if 0 < c % C then [c - 1] else []) ++ ((if c % C + 1 < C then [c + 1] else []) ++ (if c + C < C * R then [c + C] else []))))) = true := by decide +kernel
theorem nbk_all {C R c : Nat} (hC : C < 6) (hR : R < 5) (hc : c < 20) (h0 : 0 < C) (hz : c < C * R) : nbk C c (C * R) = (if C ≤ c then [c - C] else []) ++ ((if 0 < c % C then [c - 1] else []) ++ ((if c % C + 1 < C then [c + 1] else []) ++ (if c + C < C * R then [c + C] else []))) := by
  have h := nbk_dec C hC R hR c hc
  rw [Bool.or_eq_true] at h
  rcases h with h | h
  · simp [h0, hz] at h
  · exact of_decide_eq_true h
def nn1 (C : Nat) (H : Nat → Nat) (c : Nat) : Nat := if C ≤ c then lw H c (c - C) else c
def nn2 (C : Nat) (H : Nat → Nat) (c : Nat) : Nat := if 0 < c % C then lw H (nn1 C H c) (c - 1) else nn1 C H c
def nn3 (C : Nat) (H : Nat → Nat) (c : Nat) : Nat := if c % C + 1 < C then lw H (nn2 C H c) (c + 1) else nn2 C H c
def nn4 (C R : Nat) (H : Nat → Nat) (c : Nat) : Nat := if c + C < C * R then lw H (nn3 C H c) (c + C) else nn3 C H c
theorem nxt_nn {C R c : Nat} (H : Nat → Nat) (hC : C ≤ 5) (hR : R ≤ 4) (h0 : 0 < C) (hc : c < C * R) : nxt C R H c = nn4 C R H c := by
  have hz : C * R ≤ 20 := Nat.le_trans (Nat.mul_le_mul hC hR) (by decide)
  unfold nxt
  rw [nbk_all (by omega) (by omega) (by omega) h0 hc]
  unfold nn4 nn3 nn2 nn1
  by_cases a1 : C ≤ c <;> by_cases a2 : 0 < c % C <;> by_cases a3 : c % C + 1 < C <;> by_cases a4 : c + C < C * R <;> simp [a1, a2, a3, a4]
theorem lw_lt {H : Nat → Nat} {a b z : Nat} (h1 : a < z) (h2 : b < z) : lw H a b < z := by
  unfold lw
  split <;> omega
theorem lw_le (H : Nat → Nat) (a b : Nat) : H (lw H a b) ≤ H a ∧ (lw H a b ≠ a → H (lw H a b) < H a) := by
  unfold lw
  split
  · exact ⟨by omega, fun _ => by omega⟩
  · exact ⟨Nat.le_refl _, fun q => absurd rfl q⟩
theorem fold_le (H : Nat → Nat) : ∀ (l : List Nat) (a : Nat), H (l.foldl (lw H) a) ≤ H a ∧ (l.foldl (lw H) a ≠ a → H (l.foldl (lw H) a) < H a)
  | [], a => ⟨Nat.le_refl _, fun q => absurd rfl q⟩
  | d :: l, a => by
    show H (l.foldl (lw H) (lw H a d)) ≤ H a ∧ (l.foldl (lw H) (lw H a d) ≠ a → H (l.foldl (lw H) (lw H a d)) < H a)
    have h1 := fold_le H l (lw H a d)
    have h2 := lw_le H a d
    refine ⟨by omega, fun q => ?_⟩
    by_cases q2 : lw H a d = a
    · rw [q2] at h1 q ⊢
      exact h1.2 q
    · have := h2.2 q2
      omega
theorem fold_lt (H : Nat → Nat) {z : Nat} : ∀ (l : List Nat) (a : Nat), (∀ d ∈ l, d < z) → a < z → l.foldl (lw H) a < z
  | [], a, _, h => h
  | d :: l, a, hl, h => fold_lt H l (lw H a d) (fun x hx => hl x (List.mem_cons_of_mem _ hx)) (lw_lt h (hl d List.mem_cons_self))
theorem nxt_lt {C R c : Nat} (H : Nat → Nat) (hc : c < C * R) : nxt C R H c < C * R := by
  refine fold_lt H _ c (fun d hd => ?_) hc
  unfold nbk at hd
  exact List.mem_range.mp (List.mem_filter.mp hd).1
theorem nxt_dn {C R c : Nat} (H : Nat → Nat) (h : nxt C R H c ≠ c) : H (nxt C R H c) < H c := (fold_le H _ c).2 h
def rsF (N : Nat → Nat) : Nat → Nat → Nat
  | 0, c => c
  | k + 1, c => if N c = c then c else rsF N k (N c)
def rlF (N : Nat → Nat) : Nat → Nat → Nat
  | 0, _ => 0
  | k + 1, c => if N c = c then 0 else rlF N k (N c) + 1
theorem rsF_st {N H : Nat → Nat} (hd : ∀ c, N c ≠ c → H (N c) < H c) : ∀ (k c : Nat), H c < k → rsF N (k + 1) c = rsF N k c ∧ rlF N (k + 1) c = rlF N k c
  | 0, c, h => absurd h (Nat.not_lt_zero _)
  | k + 1, c, h => by
    show (if N c = c then c else rsF N (k + 1) (N c)) = (if N c = c then c else rsF N k (N c)) ∧ (if N c = c then 0 else rlF N (k + 1) (N c) + 1) = (if N c = c then 0 else rlF N k (N c) + 1)
    by_cases q : N c = c
    · rw [if_pos q, if_pos q, if_pos q, if_pos q]
      exact ⟨rfl, rfl⟩
    · have := hd c q
      have ih := rsF_st hd k (N c) (by omega)
      rw [if_neg q, if_neg q, if_neg q, if_neg q, ih.1, ih.2]
      exact ⟨rfl, rfl⟩
theorem rsF_ge {N H : Nat → Nat} (hd : ∀ c, N c ≠ c → H (N c) < H c) {k c : Nat} (h : H c < k) : ∀ j, rsF N (k + j) c = rsF N k c ∧ rlF N (k + j) c = rlF N k c
  | 0 => ⟨rfl, rfl⟩
  | j + 1 => by
    have h1 := rsF_ge hd h j
    have h2 := rsF_st hd (k + j) c (by omega)
    exact ⟨h2.1.trans h1.1, h2.2.trans h1.2⟩
theorem rsF_lt {N : Nat → Nat} {z : Nat} (hN : ∀ c, c < z → N c < z) : ∀ (k c : Nat), c < z → rsF N k c < z
  | 0, _, h => h
  | k + 1, c, h => by
    show (if N c = c then c else rsF N k (N c)) < z
    split
    · exact h
    · exact rsF_lt hN k _ (hN c h)
theorem rlF_le (N : Nat → Nat) : ∀ k c, rlF N k c ≤ k
  | 0, _ => Nat.le_refl 0
  | k + 1, c => by
    show (if N c = c then 0 else rlF N k (N c) + 1) ≤ k + 1
    have := rlF_le N k (N c)
    split <;> omega
def nx (h : Hs) (s : Nat → Nat) (c : Nat) : Nat := nxt (hC h) (hR h) (hgt h s) c
def rst (h : Hs) (s : Nat → Nat) (c : Nat) : Nat := rsF (nx h s) 20 c
def rol (h : Hs) (s : Nat → Nat) (c : Nat) : Nat := rlF (nx h s) 20 c
theorem nx_lt {h : Hs} (s : Nat → Nat) {c : Nat} (hc : c < hZ h) : nx h s c < hZ h := nxt_lt _ hc
theorem rst_lt {h : Hs} (s : Nat → Nat) {c : Nat} (hc : c < hZ h) : rst h s c < hZ h := rsF_lt (fun c hc => nx_lt s hc) 20 c hc
/-! the class's hill -/
def CX (μ : Mm) (h : Hs) (s : Nat → Nat) : Prop := μ.1 93 3 = nI (hZ h) ∧ μ.1 93 4 = nI (hC h) ∧ ∀ c, c < hZ h → μ.1 94 c = nI (hgt h s c) ∧ μ.1 95 c = nI (itm h s c (hN h)) - 1 ∧ (μ.1 96 c = -1 ∨ μ.1 96 c = nI (nx h s c))
theorem CHl.x {μ : Mm} {h : Hs} {s : Nat → Nat} (g : CHl μ h s (hN h)) : CX μ h s := ⟨g.1, g.2.1, fun c hc => ⟨(g.2.2 c hc).1, (g.2.2 c hc).2.1, Or.inl (g.2.2 c hc).2.2⟩⟩
theorem CX.ag {μ μ' : Mm} {h : Hs} {s : Nat → Nat} {X : Nat → Prop} (hb : CX μ h s) (g : Ag μ μ' X) (h0 : ¬ X 93) (h1 : ¬ X 94) (h2 : ¬ X 95) (h3 : ¬ X 96) : CX μ' h s := by
  unfold CX
  rw [g.2 _ h0, g.2 _ h1, g.2 _ h2, g.2 _ h3]
  exact hb
theorem hl_height {P Q c : Nat} {h : Hs} {s : Nat → Nat} {μ : Mm} (hk : hok h) (hr : μ.2 = RFt P Q) (hx : CX μ h s) (hc : c < hZ h) : f_X2_heightOf μ 93 (nI c) = some (nI (hgt h s c), μ) := by
  have hz := hk.z
  unfold f_X2_heightOf
  rw [if_neg (nI_pos (by omega)), rd hr (rt_93_0 P Q), bR_s, bR_s, if_neg (show ¬ Int32.ofNat (ln 94) ≤ nI c from nI_ge (show c < 20 by omega) (by decide)), ckb_n (show c < ln 94 by show c < 20; omega) (by decide), gd_t, nI_clamp (by omega), (hx.2.2 c hc).1]
theorem hl_item {P Q c : Nat} {h : Hs} {s : Nat → Nat} {μ : Mm} (hk : hok h) (hr : μ.2 = RFt P Q) (hx : CX μ h s) (hc : c < hZ h) : f_X2_itemOf μ 93 (nI c) = some (nI (itm h s c (hN h)) - 1, μ) := by
  have hz := hk.z
  unfold f_X2_itemOf
  rw [if_neg (nI_pos (by omega)), rd hr (rt_93_1 P Q), bR_s, bR_s, if_neg (show ¬ Int32.ofNat (ln 95) ≤ nI c from nI_ge (show c < 20 by omega) (by decide)), ckb_n (show c < ln 95 by show c < 20; omega) (by decide), gd_t, nI_clamp (by omega), (hx.2.2 c hc).2.1]
theorem lowerOf_eq {P Q a d : Nat} {h : Hs} {s : Nat → Nat} {μ : Mm} (hk : hok h) (hr : μ.2 = RFt P Q) (hx : CX μ h s) (ha : a < hZ h) (hd : d < hZ h) : f_X2_lowerOf μ 93 (nI a) (nI d) = some (nI (lw (hgt h s) a d), μ) := by
  have hz := hk.z
  have l1 := hgt_le hk s a
  have l2 := hgt_le hk s d
  unfold f_X2_lowerOf f_X2_lowerOf_j31
  rw [if_neg (nI_pos (by omega)), rd hr (rt_93_0 P Q), bR_s, if_neg (show ¬ Int32.ofNat (ln 94) ≤ nI a from nI_ge (show a < 20 by omega) (by decide)), if_neg (nI_pos (by omega)), bR_s, if_neg (show ¬ Int32.ofNat (ln 94) ≤ nI d from nI_ge (show d < 20 by omega) (by decide)), if_neg (by decide), bR_s, ckb_n (show d < ln 94 by show d < 20; omega) (by decide), gd_t, bR_s, ckb_n (show a < ln 94 by show a < 20; omega) (by decide), gd_t, nI_clamp (by omega), nI_clamp (by omega), (hx.2.2 a ha).1, (hx.2.2 d hd).1]
  unfold lw
  by_cases q : hgt h s d < hgt h s a
  · rw [if_neg (nI_ge q (by omega)), if_pos q]
  · rw [if_pos (nI_le (by omega) (by omega)), if_neg q]
theorem findNext_eq {P Q c : Nat} {h : Hs} {s : Nat → Nat} {μ : Mm} (hk : hok h) (hr : μ.2 = RFt P Q) (hx : CX μ h s) (hc : c < hZ h) : f_X2_findNext μ 93 (nI c) = some (nI (nx h s c), μ) := by
  have hz := hk.z
  have h0 := zpos hk hc
  have hC5 := hk.1
  have hR4 := hk.2.1
  have hRp := hk.2.2.2.2.2.1 h0
  have hCZ : hC h ≤ hZ h := Nat.le_mul_of_pos_right _ hRp
  have hm := Nat.mod_lt c h0
  have hmc : c % hC h ≤ c := Nat.mod_le _ _
  have e4 : nx h s c = nn4 (hC h) (hR h) (hgt h s) c := nxt_nn _ hC5 hR4 h0 hc
  have hr1 : c % hC h + 1 < hC h → c + 1 < hZ h := fun q => by
    have hdm := Nat.div_add_mod c (hC h)
    have hdl : c / hC h < hR h := by
      apply Nat.div_lt_of_lt_mul
      exact hc
    have : hC h * (c / hC h) + hC h ≤ hC h * hR h := by
      rw [← Nat.mul_succ]
      exact Nat.mul_le_mul_left _ hdl
    unfold hZ
    omega
  have l1 : nn1 (hC h) (hgt h s) c < hZ h := by
    unfold nn1
    split
    · exact lw_lt hc (by omega)
    · exact hc
  have l2 : nn2 (hC h) (hgt h s) c < hZ h := by
    unfold nn2
    split
    · exact lw_lt l1 (by omega)
    · exact l1
  have l3 : nn3 (hC h) (hgt h s) c < hZ h := by
    unfold nn3
    split
    · rename_i q; exact lw_lt l2 (hr1 q)
    · exact l2
  have j72 : f_X2_findNext_j72 μ 93 (nI c) (nI (nn3 (hC h) (hgt h s) c)) = some (nI (nx h s c), μ) := by
    unfold f_X2_findNext_j72
    rw [hx.1, hx.2.1, pk_sub hCZ, nI_add, e4]
    unfold nn4
    by_cases q : c + hC h < hC h * hR h
    · rw [if_neg (nI_ge (show c < hZ h - hC h by unfold hZ; omega) (by omega)), lowerOf_eq hk hr hx l3 q, bC_s, if_pos q]
    · rw [if_pos (nI_le (show hZ h - hC h ≤ c by unfold hZ; omega) (by omega)), if_neg q]
  have j53 : f_X2_findNext_j53 μ 93 (nI c) (nI (c % hC h)) (nI (nn2 (hC h) (hgt h s) c)) = some (nI (nx h s c), μ) := by
    unfold f_X2_findNext_j53
    have e3 : nn3 (hC h) (hgt h s) c = if c % hC h + 1 < hC h then lw (hgt h s) (nn2 (hC h) (hgt h s) c) (c + 1) else nn2 (hC h) (hgt h s) c := rfl
    rw [hx.2.1, show nI (hC h) - (1 : Int32) = nI (hC h - 1) from by rw [show hC h = (hC h - 1) + 1 by omega]; exact nI_sub1 _, nI_p1]
    by_cases q : c % hC h + 1 < hC h
    · rw [if_neg (nI_ge (by omega) (by omega)), lowerOf_eq hk hr hx l2 (hr1 q), bC_s]
      rw [if_pos q] at e3
      rw [← e3]
      exact j72
    · rw [if_pos (nI_le (by omega) (by omega))]
      rw [if_neg q] at e3
      rw [← e3]
      exact j72
  have j40 : f_X2_findNext_j40 μ 93 (nI c) (nI (c % hC h)) (nI (nn1 (hC h) (hgt h s) c)) = some (nI (nx h s c), μ) := by
    unfold f_X2_findNext_j40
    have e2 : nn2 (hC h) (hgt h s) c = if 0 < c % hC h then lw (hgt h s) (nn1 (hC h) (hgt h s) c) (c - 1) else nn1 (hC h) (hgt h s) c := rfl
    by_cases q : 0 < c % hC h
    · rw [if_neg (nI_nle q (by omega)), show nI c - (1 : Int32) = nI (c - 1) from by rw [show c = (c - 1) + 1 by omega]; exact nI_sub1 _, lowerOf_eq hk hr hx l1 (by omega), bC_s]
      rw [if_pos q] at e2
      rw [← e2]
      exact j53
    · rw [if_pos (show nI (c % hC h) ≤ 0 by rw [show c % hC h = 0 by omega]; decide)]
      rw [if_neg q] at e2
      rw [← e2]
      exact j53
  unfold f_X2_findNext
  rw [hx.2.1, if_neg (nI_nle h0 (by omega)), ck0_n h0 (by omega), gd_t, pk_rem (by omega) h0 (by omega)]
  unfold f_X2_findNext_j17
  have e1 : nn1 (hC h) (hgt h s) c = if hC h ≤ c then lw (hgt h s) c (c - hC h) else c := rfl
  rw [hx.2.1]
  by_cases q : hC h ≤ c
  · rw [if_neg (nI_nlt q (by omega)), pk_sub q, lowerOf_eq hk hr hx hc (by omega), bC_s]
    rw [if_pos q] at e1
    rw [← e1]
    exact j40
  · rw [if_pos (nI_lt (by omega) (by omega))]
    rw [if_neg q] at e1
    rw [← e1]
    rw [e1]
    have := j40
    rw [e1] at this
    exact this
theorem nextFrom_eq {P Q c : Nat} {h : Hs} {s : Nat → Nat} {μ : Mm} (hk : hok h) (hr : μ.2 = RFt P Q) (hx : CX μ h s) (hc : c < hZ h) :
    ∃ μ', f_X2_nextFrom μ 93 (nI c) = some (nI (nx h s c), μ') ∧ Ag μ μ' (fun a => a = 96) ∧ CX μ' h s := by
  have hz := hk.z
  have hn := nx_lt s hc
  have hcb : ckb (nI c) (ln 96) = true := ckb_n (show c < 20 by omega) (by decide)
  have hlt : nI c < Int32.ofNat (ln 96) := nI_lt (show c < 20 by omega) (by decide)
  rcases (hx.2.2 c hc).2.2 with q | q
  · have g : Ag μ (up2 μ.1 96 c (nI (nx h s c)), μ.2) (fun a => a = 96) := Ag.up rfl
    refine ⟨_, ?_, g, ?_⟩
    · unfold f_X2_nextFrom f_X2_nextFrom_j36
      rw [if_neg (nI_pos (by omega)), rd hr (rt_93_2 P Q), bR_s, if_pos hlt, bR_s, hcb, gd_t, nI_clamp (by omega), q, if_pos rfl, bR_s, findNext_eq hk hr hx hc, bC_s, hcb, gd_t, bM_s]
      show bR (μ.2 93 2) _ = _
      rw [rd hr (rt_93_2 P Q), bR_s, hcb, gd_t]
      show some (up2 μ.1 96 c _ 96 c, _) = _
      rw [up2_at]
    · refine ⟨by rw [g.2 93 (by decide)]; exact hx.1, by rw [g.2 93 (by decide)]; exact hx.2.1, fun d hd => ?_⟩
      obtain ⟨v1, v2, v3⟩ := hx.2.2 d hd
      refine ⟨by rw [g.2 94 (by decide)]; exact v1, by rw [g.2 95 (by decide)]; exact v2, ?_⟩
      show up2 μ.1 96 c _ 96 d = _ ∨ up2 μ.1 96 c _ 96 d = _
      by_cases qd : d = c
      · subst qd
        rw [up2_at]
        exact Or.inr rfl
      · rw [up2_nk qd]
        exact v3
  · refine ⟨μ, ?_, Ag.rf, hx⟩
    unfold f_X2_nextFrom f_X2_nextFrom_j36
    rw [if_neg (nI_pos (by omega)), rd hr (rt_93_2 P Q), bR_s, if_pos hlt, bR_s, hcb, gd_t, nI_clamp (by omega), q, if_neg (show ¬ nI (nx h s c) = -1 from fun w => nI_pos (show nx h s c < 2 ^ 31 by omega) (by rw [w]; decide)), bR_s, hcb, gd_t, q]
theorem nI_ne {a b : Nat} (h : a ≠ b) (ha : a < 2 ^ 31) (hb : b < 2 ^ 31) : ¬ nI a = nI b := fun w => h ((nI_eq ha hb).mp w)
theorem rest_loop {P Q : Nat} {h : Hs} {s : Nat → Nat} (hk : hok h) : ∀ (k c t f : Nat) (μ : Mm), t + k = 20 → k < f → μ.2 = RFt P Q → CX μ h s → c < hZ h →
    ∃ μ', f_X2_restFrom_L4 f μ 93 (nI c) (nI t) = some (nI (rsF (nx h s) k c), μ') ∧ Ag μ μ' (fun a => a = 96) ∧ CX μ' h s := by
  have hz := hk.z
  intro k
  induction k with
  | zero =>
    intro c t f μ ht hf hr hx hc
    obtain ⟨f, rfl⟩ := fs1 hf
    refine ⟨μ, ?_, Ag.rf, hx⟩
    show f_X2_restFrom_L4b _ _ _ _ _ = _
    unfold f_X2_restFrom_L4b
    rw [if_pos (show (20 : Int32) ≤ nI t from nI_le (a := 20) (by omega) (by omega))]
    rfl
  | succ k ih =>
    intro c t f μ ht hf hr hx hc
    obtain ⟨f, rfl⟩ := fs1 hf
    obtain ⟨μ1, d1, d2, d3⟩ := nextFrom_eq hk hr hx hc
    have hn := nx_lt s hc
    show ∃ μ', f_X2_restFrom_L4b _ _ _ _ _ = some (nI (if nx h s c = c then c else rsF (nx h s) k (nx h s c)), μ') ∧ _
    unfold f_X2_restFrom_L4b
    rw [if_neg (show ¬ (20 : Int32) ≤ nI t from nI_ge (b := 20) (by omega) (by omega)), d1, bC_s]
    by_cases q : nx h s c = c
    · rw [if_pos (by rw [q]), if_pos q]
      exact ⟨μ1, rfl, d2, d3⟩
    · rw [if_neg (nI_ne q (by omega) (by omega)), if_neg q, nI_p1]
      obtain ⟨μ', e1, e2, e3⟩ := ih (nx h s c) (t + 1) f μ1 (by omega) (by omega) (d2.1.trans hr) d3 hn
      exact ⟨μ', e1, d2.tr e2, e3⟩
theorem restFrom_eq {P Q c : Nat} {h : Hs} {s : Nat → Nat} {μ : Mm} (hk : hok h) (hr : μ.2 = RFt P Q) (hx : CX μ h s) (hc : c < hZ h) :
    ∃ μ', f_X2_restFrom μ 93 (nI c) = some (nI (rst h s c), μ') ∧ Ag μ μ' (fun a => a = 96) ∧ CX μ' h s :=
  rest_loop hk 20 c 0 FU μ (by omega) (by rw [FU_eq]; omega) hr hx hc
theorem rolls_loop {P Q : Nat} {h : Hs} {s : Nat → Nat} (hk : hok h) : ∀ (k c t f : Nat) (μ : Mm), t + k = 20 → k < f → μ.2 = RFt P Q → CX μ h s → c < hZ h →
    ∃ μ', f_X2_rollsFrom_L4 f μ 93 (nI c) (nI t) = some (nI (t + rlF (nx h s) k c), μ') ∧ Ag μ μ' (fun a => a = 96) ∧ CX μ' h s := by
  have hz := hk.z
  intro k
  induction k with
  | zero =>
    intro c t f μ ht hf hr hx hc
    obtain ⟨f, rfl⟩ := fs1 hf
    refine ⟨μ, ?_, Ag.rf, hx⟩
    show f_X2_rollsFrom_L4b _ _ _ _ _ = _
    unfold f_X2_rollsFrom_L4b
    rw [if_pos (show (20 : Int32) ≤ nI t from nI_le (a := 20) (by omega) (by omega)), show t = 20 by omega]
    rfl
  | succ k ih =>
    intro c t f μ ht hf hr hx hc
    obtain ⟨f, rfl⟩ := fs1 hf
    obtain ⟨μ1, d1, d2, d3⟩ := nextFrom_eq hk hr hx hc
    have hn := nx_lt s hc
    show ∃ μ', f_X2_rollsFrom_L4b _ _ _ _ _ = some (nI (t + (if nx h s c = c then 0 else rlF (nx h s) k (nx h s c) + 1)), μ') ∧ _
    unfold f_X2_rollsFrom_L4b
    rw [if_neg (show ¬ (20 : Int32) ≤ nI t from nI_ge (b := 20) (by omega) (by omega)), d1, bC_s]
    by_cases q : nx h s c = c
    · rw [if_pos (by rw [q]), if_pos q]
      exact ⟨μ1, rfl, d2, d3⟩
    · rw [if_neg (nI_ne q (by omega) (by omega)), if_neg q, nI_p1]
      obtain ⟨μ', e1, e2, e3⟩ := ih (nx h s c) (t + 1) f μ1 (by omega) (by omega) (d2.1.trans hr) d3 hn
      refine ⟨μ', ?_, d2.tr e2, e3⟩
      rw [e1, show t + 1 + rlF (nx h s) k (nx h s c) = t + (rlF (nx h s) k (nx h s c) + 1) by omega]
theorem rollsFrom_eq {P Q c : Nat} {h : Hs} {s : Nat → Nat} {μ : Mm} (hk : hok h) (hr : μ.2 = RFt P Q) (hx : CX μ h s) (hc : c < hZ h) :
    ∃ μ', f_X2_rollsFrom μ 93 (nI c) = some (nI (rol h s c), μ') ∧ Ag μ μ' (fun a => a = 96) ∧ CX μ' h s := by
  obtain ⟨μ', e1, e2⟩ := rolls_loop hk 20 c 0 FU μ (by omega) (by rw [FU_eq]; omega) hr hx hc
  rw [Nat.zero_add] at e1
  exact ⟨μ', e1, e2⟩
