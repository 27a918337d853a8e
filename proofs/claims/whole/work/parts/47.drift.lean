/-! drift -/
def ds (n : Nat) : Nat := (n * 1103515245 + 12345) % 2 ^ 31
theorem ds_lt (n : Nat) : ds n < 2 ^ 31 := Nat.mod_lt _ (by decide)
theorem lN_mask (n : Nat) : lN n &&& (2147483647 : Int64) = lN (n % 2 ^ 31) := by
  apply Int64.toBitVec_inj.mp
  show BitVec.ofNat 64 n &&& BitVec.ofNat 64 (2 ^ 31 - 1) = BitVec.ofNat 64 (n % 2 ^ 31)
  rw [← BitVec.ofNat_and, Nat.and_two_pow_sub_one_eq_mod]
theorem dsm {n : Nat} (hn : n < 2 ^ 31) : (nI n).toInt64 * (1103515245 : Int64) + (12345 : Int64) = lN (n * 1103515245 + 12345) := by
  rw [nI_l hn]
  show lN n * lN 1103515245 + lN 12345 = _
  rw [lN_mul, lN_add]
theorem ds_c {n : Nat} (hn : n < 2 ^ 31) : (((nI n).toInt64 * (1103515245 : Int64) + (12345 : Int64)) &&& (2147483647 : Int64)).toInt32 = nI (ds n) := by
  rw [dsm hn, lN_mask, lN_i]
  rfl
theorem ds_m {n : Nat} (hn : n < 2 ^ 31) : (((nI n).toInt64 * (1103515245 : Int64) + (12345 : Int64)) - ((nI n).toInt64 * (1103515245 : Int64) + (12345 : Int64)) / (2147483648 : Int64) * (2147483648 : Int64)).toInt32 = nI (ds n) := by
  rw [dsm hn, show lN (n * 1103515245 + 12345) - lN (n * 1103515245 + 12345) / (2147483648 : Int64) * (2147483648 : Int64) = lN ((n * 1103515245 + 12345) % 2147483648) from pk_lRem (b := 2147483648) (by omega) (by decide) (by decide), lN_i]
  rfl
theorem dv {n k : Nat} (hn : n < 2 ^ 31) (h0 : 0 < k) (hk : k < 2 ^ 31) : nI n / (65536 : Int32) - nI n / (65536 : Int32) / nI k * nI k = nI (n / 65536 % k) := by
  rw [show nI n / (65536 : Int32) = nI (n / 65536) from pk_div (d := 65536) hn (by decide) (by decide)]
  exact pk_rem (by omega) h0 hk
theorem next_c {μ : Mm} {n k : Nat} (h : μ.1 85 0 = nI n) (hn : n < 2 ^ 31) (h0 : 0 < k) (hk : k < 2 ^ 31) : f_X1_next μ 85 (nI k) = some (nI (ds n / 65536 % k), (up2 μ.1 85 0 (nI (ds n)), μ.2)) := by
  unfold f_X1_next
  rw [h, ds_c hn, bM_s, if_neg (nI_nle h0 hk), ck0_n h0 hk, gd_t]
  show some (nI (ds n) / (65536 : Int32) - nI (ds n) / (65536 : Int32) / nI k * nI k, _) = _
  rw [dv (ds_lt n) h0 hk]
theorem draw_m {μ : Mm} {n k : Nat} (h : μ.1 107 9 = nI n) (hn : n < 2 ^ 31) (h0 : 0 < k) (hk : k < 2 ^ 31) : f_X10_draw μ 107 (nI k) = some (nI (ds n / 65536 % k), (up2 μ.1 107 9 (nI (ds n)), μ.2)) := by
  unfold f_X10_draw
  rw [h, ds_m hn, bM_s, ck0_n h0 hk, gd_t]
  show some (nI (ds n) / (65536 : Int32) - nI (ds n) / (65536 : Int32) / nI k * nI k, _) = _
  rw [dv (ds_lt n) h0 hk]
def drp (h : Hs) (s : Nat) : Nat := ds s / 65536 % hM h
def dri (h : Hs) (s : Nat) : Nat := ds (ds s) / 65536 % hN h
def drv (s : Nat) : Nat := ds (ds (ds s)) / 65536 % 3
def drb (h : Hs) (b : Bt) (s : Nat) : Bt := up2 b (drp h s) (dri h s) (drv s)
theorem up2_tw {α : Type} (f : Nat → Nat → α) (a k : Nat) (v w : α) : up2 (up2 f a k v) a k w = up2 f a k w := by
  funext b j
  unfold up2
  split <;> rfl
theorem draw_c {P Q : Nat} {μ : Mm} {h : Hs} {b : Bt} {U M : Nat → Bt} {N : Nat → Nat → Nat} {s : Nat} (c : CA P μ h b U M (up2 N 0 1 s)) (hP : P = 3 ∨ P = 11) (hk : hok h) (hM0 : 0 < hM h) (hN0 : 0 < hN h) (hs : s < 2 ^ 31) (hr : μ.2 = RFt P Q) :
    ∃ μ', f_X9_voteByDraw μ 0 = some μ' ∧ Ag μ μ' Xb ∧ CA P μ' h (drb h b s) U M (up2 N 0 1 (ds (ds (ds s)))) := by
  have key : ∀ s1 s2 s3 p i v, ds s = s1 → ds s1 = s2 → ds s2 = s3 → s1 / 65536 % hM h = p → s2 / 65536 % hN h = i → s3 / 65536 % 3 = v → ∃ μ', f_X9_voteByDraw μ 0 = some μ' ∧ Ag μ μ' Xb ∧ CA P μ' h (up2 b p i v) U M (up2 N 0 1 s3) := by
    intro s1 s2 s3 p i v q1 q2 q3 qp qi qv
    have hN5 := hk.2.2.1
    have hM7 := hk.2.2.2.1
    have h85 : μ.1 85 0 = nI s := c.2.2.2.1
    have hp : p < hM h := by rw [← qp]; exact Nat.mod_lt _ hM0
    have hi : i < hN h := by rw [← qi]; exact Nat.mod_lt _ hN0
    have hv : v < 3 := by rw [← qv]; exact Nat.mod_lt _ (by decide)
    have l1 : s1 < 2 ^ 31 := by rw [← q1]; exact ds_lt _
    have l2 : s2 < 2 ^ 31 := by rw [← q2]; exact ds_lt _
    have g3 : Ag μ (up2 (up2 (up2 μ.1 85 0 (nI s1)) 85 0 (nI s2)) 85 0 (nI s3), μ.2) (fun a => a = 85) := ((Ag.up (X := fun a => a = 85) rfl).u1 rfl).u1 rfl
    have c3 := c.sd (μ' := (up2 (up2 (up2 μ.1 85 0 (nI s1)) 85 0 (nI s2)) 85 0 (nI s3), μ.2)) hP (fun a _ q => g3.2 a q) (v := s3) rfl
    rw [up2_tw N 0 1 s s3] at c3
    have eP : ∀ (f : Nat → Nat → Int32) (v : Int32) (k : Nat), up2 f 85 0 v P k = f P k := fun f v k => up2_na (by omega)
    obtain ⟨μ4, d1, d2, d3⟩ := put_eq (P := P) (Q := Q) (μ := (up2 (up2 (up2 μ.1 85 0 (nI s1)) 85 0 (nI s2)) 85 0 (nI s3), μ.2)) (p := p) (i := i) (v := v) bal_19 hr hM7 c3.2.1 hp (by omega) (by omega)
    refine ⟨μ4, ?_, (g3.wk (fun a q => by omega)).tr (d2.wk (fun a q => by omega)), c3.bl hP (fun a _ q => d2.2 a (by omega)) d3⟩
    unfold f_X9_voteByDraw
    rw [rd hr (rt_0_7 P Q), bR_s, rd hr (rt_p P Q), bR_s, c.1.2.2.2.2.1, next_c h85 hs hM0 (by omega), bC_s, q1, qp]
    show bR (μ.2 0 7) (fun b6 => bR (μ.2 0 1) (fun b7 => bC (f_X1_next (up2 μ.1 85 0 (nI s1), μ.2) b6 (up2 μ.1 85 0 (nI s1) b7 3)) _)) = _
    rw [rd hr (rt_0_7 P Q), bR_s, rd hr (rt_p P Q), bR_s, eP, c.1.2.2.2.1, next_c (n := s1) rfl l1 hN0 (by omega), bC_s, q2, qi]
    show bR (μ.2 0 7) (fun b11 => bC (f_X1_next (up2 (up2 μ.1 85 0 (nI s1)) 85 0 (nI s2), μ.2) b11 (nI 3)) _) = _
    rw [rd hr (rt_0_7 P Q), bR_s, next_c (n := s2) rfl l2 (by decide) (by decide), bC_s, q3, qv]
    show bR (μ.2 0 4) (fun b15 => bV (f_X0_put _ b15 (nI p) (nI i) (nI v)) _) = _
    rw [rd hr (rt_0_4 P Q), bR_s, d1, bV_s]
  exact key _ _ _ _ _ _ rfl rfl rfl rfl rfl rfl
def drS (h : Hs) (t : Bt × Nat) : Bt × Nat := (sitB h (drb h t.1 t.2), ds (ds (ds t.2)))
def drI (h : Hs) : Nat → Bt × Nat → Bt × Nat
  | 0, t => t
  | m + 1, t => drI h m (drS h t)
theorem hasV_eq {P : Nat} {μ : Mm} {h : Hs} (hk : hok h) (c : CH μ P h) : f_X4_hasVotes μ P = some (if 0 < hM h ∧ 0 < hN h then 1 else 0, μ) := by
  have := hk.2.2.1
  have := hk.2.2.2.1
  unfold f_X4_hasVotes
  rw [c.2.2.2.2.1, c.2.2.2.1]
  by_cases q : 0 < hM h
  · rw [if_neg (nI_nle q (by omega))]
    by_cases r : 0 < hN h
    · rw [if_neg (nI_nle r (by omega)), if_pos ⟨q, r⟩]
    · rw [if_pos (by rw [show hN h = 0 by omega]; decide), if_neg (fun w => r w.2)]
  · rw [if_pos (by rw [show hM h = 0 by omega]; decide), if_neg (fun w => q w.1)]
theorem drift_loop {P Q n : Nat} {h : Hs} {U M : Nat → Bt} {N : Nat → Nat → Nat} (hP : P = 3 ∨ P = 11) (hk : hok h) (hM0 : 0 < hM h) (hN0 : 0 < hN h) (hn : n ≤ 60) : ∀ (m k f : Nat) (t : Bt × Nat) (μ : Mm), k + m = n → m < f → CA P μ h t.1 U M (up2 N 0 1 t.2) → t.2 < 2 ^ 31 → μ.2 = RFt P Q →
    ∃ μ', f_X9_drift_L56 f μ 0 (nI n) (nI k) = some (nI (fgB h (drI h m t).1), μ') ∧ Ag μ μ' Xb ∧ CA P μ' h (drI h m t).1 U M (up2 N 0 1 (drI h m t).2) := by
  intro m
  induction m with
  | zero =>
    intro k f t μ hm hf c hs hr
    obtain ⟨f, rfl⟩ := fs1 hf
    obtain ⟨μ1, e1, e2, e3⟩ := standNow_eq hk hr c.1.2.2.2.1 c.2.1
    refine ⟨μ1, ?_, e2.wk (fun a q => by omega), c.sc hP (fun a _ q => e2.2 a (by omega))⟩
    show f_X9_drift_L56b _ _ _ _ _ = _
    unfold f_X9_drift_L56b f_X9_drift_j86
    rw [if_pos (nI_le (by omega) (by omega)), e1, bC_s]
    rfl
  | succ m ih =>
    intro k f t μ hm hf c hs hr
    obtain ⟨f, rfl⟩ := fs1 hf
    obtain ⟨μ1, e1, e2, e3⟩ := draw_c c hP hk hM0 hN0 hs hr
    have hr1 := e2.1.trans hr
    obtain ⟨μ2, d1, d2, d3⟩ := sit_c e3 hP hk hr1
    have hr2 := d2.1.trans hr1
    obtain ⟨μ', f1, f2, f3⟩ := ih (k + 1) f (drS h t) μ2 (by omega) (by omega) d3 (ds_lt _) hr2
    refine ⟨μ', ?_, (e2.tr d2).tr f2, f3⟩
    show f_X9_drift_L56b _ _ _ _ _ = _
    unfold f_X9_drift_L56b
    rw [if_neg (nI_ge (by omega) (by omega)), rd hr (rt_p P Q), bR_s, hasV_eq hk c.1, bC_s, if_pos (show 0 < hM h ∧ 0 < hN h from ⟨hM0, hN0⟩), if_neg (by decide), e1, bV_s, d1, bC_s, nI_p1]
    exact f1
theorem drift_no {P Q : Nat} {h : Hs} {b : Bt} {U M : Nat → Bt} {N : Nat → Nat → Nat} {μ : Mm} {x : Int32} (hP : P = 3 ∨ P = 11) (hk : hok h) (q : ¬ (0 < hM h ∧ 0 < hN h)) (c : CA P μ h b U M N) (hr : μ.2 = RFt P Q) :
    ∃ μ', f_X9_drift_L56 FU μ 0 x 0 = some (nI (fgB h b), μ') ∧ Ag μ μ' Xb ∧ CA P μ' h b U M N := by
  obtain ⟨μ1, e1, e2, e3⟩ := standNow_eq hk hr c.1.2.2.2.1 c.2.1
  refine ⟨μ1, ?_, e2.wk (fun a q => by omega), c.sc hP (fun a _ q => e2.2 a (by omega))⟩
  show f_X9_drift_L56b _ _ _ _ _ = _
  unfold f_X9_drift_L56b f_X9_drift_j86
  rw [rd hr (rt_p P Q), bR_s, hasV_eq hk c.1, bC_s, if_neg q, if_pos rfl, e1, bC_s]
  split <;> rfl
abbrev Xn (a : Nat) : Prop := a = 107 ∨ a = 112 ∨ a = 120
theorem mdraw {P Q : Nat} {μ : Mm} {h : Hs} {b : Bt} {U M : Nat → Bt} {N : Nat → Nat → Nat} {s : Nat} (m : MA μ h b U M (up2 N 0 1 s)) (hk : hok h) (hM0 : 0 < hM h) (hN0 : 0 < hN h) (hs : s < 2 ^ 31) (hr : μ.2 = RFt P Q) (K : Mm → Option (Int32 × Mm)) :
    ∃ μ', (bC (f_X10_draw μ 107 (μ.1 107 7)) (fun r5 μ4 => bC (f_X10_draw μ4 107 (μ4.1 107 3)) (fun r8 μ7 => bR (μ7.2 107 8) (fun b10 => bC (f_X10_draw μ7 107 (3 : Int32)) (fun r12 μ11 => gd (ckb (((5 : Int32) * r5) + r8) (ln b10)) (bM (up2 μ11.1 b10 (((5 : Int32) * r5) + r8).toNatClampNeg r12, μ11.2) K)))))) = K μ' ∧ Ag μ μ' Xn ∧ μ'.1 107 12 = μ.1 107 12 ∧ MA μ' h (drb h b s) U M (up2 N 0 1 (ds (ds (ds s)))) := by
  have key : ∀ s1 s2 s3 p i v, ds s = s1 → ds s1 = s2 → ds s2 = s3 → s1 / 65536 % hM h = p → s2 / 65536 % hN h = i → s3 / 65536 % 3 = v → ∃ μ', (bC (f_X10_draw μ 107 (μ.1 107 7)) (fun r5 μ4 => bC (f_X10_draw μ4 107 (μ4.1 107 3)) (fun r8 μ7 => bR (μ7.2 107 8) (fun b10 => bC (f_X10_draw μ7 107 (3 : Int32)) (fun r12 μ11 => gd (ckb (((5 : Int32) * r5) + r8) (ln b10)) (bM (up2 μ11.1 b10 (((5 : Int32) * r5) + r8).toNatClampNeg r12, μ11.2) K)))))) = K μ' ∧ Ag μ μ' Xn ∧ μ'.1 107 12 = μ.1 107 12 ∧ MA μ' h (up2 b p i v) U M (up2 N 0 1 s3) := by
    intro s1 s2 s3 p i v q1 q2 q3 qp qi qv
    have hN5 := hk.2.2.1
    have hM7 := hk.2.2.2.1
    have h9 : μ.1 107 9 = nI s := m.2.2.2.1
    have hp : p < hM h := by rw [← qp]; exact Nat.mod_lt _ hM0
    have hi : i < hN h := by rw [← qi]; exact Nat.mod_lt _ hN0
    have hv : v < 3 := by rw [← qv]; exact Nat.mod_lt _ (by decide)
    have l1 : s1 < 2 ^ 31 := by rw [← q1]; exact ds_lt _
    have l2 : s2 < 2 ^ 31 := by rw [← q2]; exact ds_lt _
    have g3 : Ag μ (up2 (up2 (up2 μ.1 107 9 (nI s1)) 107 9 (nI s2)) 107 9 (nI s3), μ.2) (fun a => a = 107) := ((Ag.up (X := fun a => a = 107) rfl).u1 rfl).u1 rfl
    have m3 := m.sd (μ' := (up2 (up2 (up2 μ.1 107 9 (nI s1)) 107 9 (nI s2)) 107 9 (nI s3), μ.2)) (fun a h1 h2 => g3.2 a (by omega)) (fun k hk => by show up2 (up2 (up2 μ.1 107 9 (nI s1)) 107 9 (nI s2)) 107 9 (nI s3) 107 k = _; rw [up2_nk hk, up2_nk hk, up2_nk hk]) (v := s3) rfl
    rw [up2_tw N 0 1 s s3] at m3
    have g4 : Ag (up2 (up2 (up2 μ.1 107 9 (nI s1)) 107 9 (nI s2)) 107 9 (nI s3), μ.2) (up2 (up2 (up2 (up2 μ.1 107 9 (nI s1)) 107 9 (nI s2)) 107 9 (nI s3)) 112 (5 * p + i) (nI v), μ.2) (fun a => a = 112) := Ag.up rfl
    have mA := m3.bl (μ' := (up2 (up2 (up2 (up2 μ.1 107 9 (nI s1)) 107 9 (nI s2)) 107 9 (nI s3)) 112 (5 * p + i) (nI v), μ.2)) (fun a h1 h2 => g4.2 a h2) (fun k _ => rfl) (m3.2.1.put v hM7 hp (show i < 5 by omega))
    refine ⟨(up2 (up2 (up2 (up2 μ.1 107 9 (nI s1)) 107 9 (nI s2)) 107 9 (nI s3)) 112 (5 * p + i) (nI v), μ.2), ?_, (g3.wk (fun a q => by omega)).tr (g4.wk (fun a q => by omega)), rfl, mA⟩
    rw [m.1.2.2.2.2.1, draw_m h9 hs hM0 (by omega), bC_s, q1, qp]
    show bC (f_X10_draw (up2 μ.1 107 9 (nI s1), μ.2) 107 (μ.1 107 3)) _ = _
    rw [m.1.2.2.2.1, draw_m (n := s1) rfl l1 hN0 (by omega), bC_s, q2, qi]
    show bR (μ.2 107 8) (fun b10 => bC (f_X10_draw (up2 (up2 μ.1 107 9 (nI s1)) 107 9 (nI s2), μ.2) 107 (nI 3)) (fun r12 μ11 => gd (ckb (((5 : Int32) * nI p) + nI i) (ln b10)) (bM (up2 μ11.1 b10 (((5 : Int32) * nI p) + nI i).toNatClampNeg r12, μ11.2) K))) = _
    rw [rd hr (rt_107_8 P Q), bR_s, draw_m (n := s2) rfl l2 (by decide) (by decide), bC_s, q3, qv, nI_5, ckb_n (show 5 * p + i < ln 112 by show _ < 37; omega) (by decide), gd_t, nI_clamp (by omega)]
    rfl
  exact key _ _ _ _ _ _ rfl rfl rfl rfl rfl rfl
theorem drb_ok {h : Hs} {b : Bt} {s : Nat} (hk : hok h) (hM0 : 0 < hM h) (hb : bok h b) : bok h (drb h b s) := by
  have hp : drp h s < hM h := Nat.mod_lt _ hM0
  have hv : drv s < 3 := Nat.mod_lt _ (by decide)
  have := hk.2.2.2.1
  exact bok_put hb (by omega) (by omega)
theorem drb_7 {h : Hs} {b : Bt} {s : Nat} (hk : hok h) (hM0 : 0 < hM h) : drb h b s 7 0 = b 7 0 := by
  have hp : drp h s < hM h := Nat.mod_lt _ hM0
  have := hk.2.2.2.1
  unfold drb
  exact up2_na (by omega)
theorem drI_ok {h : Hs} (hk : hok h) (hM0 : 0 < hM h) : ∀ (m : Nat) (t : Bt × Nat), bok h t.1 → t.1 7 0 + m ≤ 9100 → t.2 < 2 ^ 31 → bok h (drI h m t).1 ∧ (drI h m t).2 < 2 ^ 31
  | 0, t, hb, _, hs => ⟨hb, hs⟩
  | m + 1, t, hb, hl, hs => by
    have h7 := drb_7 (b := t.1) (s := t.2) hk hM0
    refine drI_ok hk hM0 m (drS h t) (sit_ok hk (drb_ok hk hM0 hb) (by omega)) ?_ (ds_lt _)
    show drb h t.1 t.2 7 0 + 1 + m ≤ 9100
    omega
theorem mdrift_loop {P Q n : Nat} {h : Hs} {U M : Nat → Bt} {N : Nat → Nat → Nat} (hk : hok h) (hM0 : 0 < hM h) (hN0 : 0 < hN h) (hn : n ≤ 60) : ∀ (m k f : Nat) (t : Bt × Nat) (μ : Mm), k + m = n → m < f → MA μ h t.1 U M (up2 N 0 1 t.2) → bok h t.1 → t.1 7 0 + m ≤ 9100 → t.2 < 2 ^ 31 → μ.2 = RFt P Q →
    ∃ μ', f_X10_drift_L47 f μ 107 (nI n) (nI k) = some (nI (fgB h (drI h m t).1), μ') ∧ Ag μ μ' Xn ∧ μ'.1 107 12 = μ.1 107 12 ∧ MA μ' h (drI h m t).1 U M (up2 N 0 1 (drI h m t).2) := by
  have hN5 := hk.2.2.1
  have hM7 := hk.2.2.2.1
  intro m
  induction m with
  | zero =>
    intro k f t μ hm hf c hb hl hs hr
    obtain ⟨f, rfl⟩ := fs1 hf
    obtain ⟨μ1, e1, e2, e3⟩ := mstandNow_eq hk hb hr c.1 c.2.1
    refine ⟨μ1, ?_, e2.wk (fun a q => by omega), by rw [e2.2 107 (by decide)], c.sc (fun a h1 h2 => e2.2 a (by omega)) (fun k _ => by rw [e2.2 107 (by decide)])⟩
    show f_X10_drift_L47b _ _ _ _ _ = _
    unfold f_X10_drift_L47b f_X10_drift_j111
    rw [if_pos (nI_le (by omega) (by omega)), e1, bC_s]
    rfl
  | succ m ih =>
    intro k f t μ hm hf c hb hl hs hr
    obtain ⟨f, rfl⟩ := fs1 hf
    have h7 := drb_7 (b := t.1) (s := t.2) hk hM0
    obtain ⟨μ1, e1, e2, e3, e4⟩ := mdraw c hk hM0 hN0 hs hr (fun μ15 => bV (f_X10_sit μ15 107) (fun μ16 => f_X10_drift_L47 f μ16 107 (nI n) (nI k + 1)))
    have hr1 := e2.1.trans hr
    obtain ⟨μ2, d1, d2, d3⟩ := sit_m e4 hk (drb_ok hk hM0 hb) (by omega) hr1
    have hr2 := d2.1.trans hr1
    obtain ⟨μ', f1, f2, f3, f4⟩ := ih (k + 1) f (drS h t) μ2 (by omega) (by omega) d3 (sit_ok hk (drb_ok hk hM0 hb) (by omega)) (by show drb h t.1 t.2 7 0 + 1 + m ≤ 9100; omega) (ds_lt _) hr2
    refine ⟨μ', ?_, (e2.tr (d2.wk (fun a q => by omega))).tr f2, by rw [f3, d2.2 107 (by decide), e3], f4⟩
    show f_X10_drift_L47b _ _ _ _ _ = _
    unfold f_X10_drift_L47b
    rw [if_neg (nI_ge (by omega) (by omega)), if_neg (show ¬ μ.1 107 7 ≤ 0 by rw [c.1.2.2.2.2.1]; exact nI_nle hM0 (by omega)), if_neg (show ¬ μ.1 107 3 ≤ 0 by rw [c.1.2.2.2.1]; exact nI_nle hN0 (by omega))]
    refine e1.trans ?_
    rw [d1, bV_s, nI_p1]
    exact f1
theorem mdrift_no {P Q : Nat} {h : Hs} {b : Bt} {U M : Nat → Bt} {N : Nat → Nat → Nat} {μ : Mm} {x : Int32} (hk : hok h) (hb : bok h b) (q : ¬ (0 < hM h ∧ 0 < hN h)) (c : MA μ h b U M N) (hr : μ.2 = RFt P Q) :
    ∃ μ', f_X10_drift_L47 FU μ 107 x 0 = some (nI (fgB h b), μ') ∧ Ag μ μ' Xn ∧ μ'.1 107 12 = μ.1 107 12 ∧ MA μ' h b U M N := by
  obtain ⟨μ1, e1, e2, e3⟩ := mstandNow_eq hk hb hr c.1 c.2.1
  refine ⟨μ1, ?_, e2.wk (fun a q => by omega), by rw [e2.2 107 (by decide)], c.sc (fun a h1 h2 => e2.2 a (by omega)) (fun k _ => by rw [e2.2 107 (by decide)])⟩
  show f_X10_drift_L47b _ _ _ _ _ = _
  unfold f_X10_drift_L47b f_X10_drift_j111
  rw [e1, bC_s, c.1.2.2.2.2.1, c.1.2.2.2.1]
  by_cases r : 0 < hM h
  · have r2 : hN h = 0 := by
      by_cases z : 0 < hN h
      · exact absurd ⟨r, z⟩ q
      · omega
    rw [if_pos (show nI (hN h) ≤ 0 by rw [r2]; decide)]
    split
    · rfl
    · split <;> rfl
  · rw [if_pos (show nI (hM h) ≤ 0 by rw [show hM h = 0 by omega]; decide)]
    split <;> rfl
theorem in_1 (μ : Mm) (x : Int32) : f_X10_in μ x.toInt64 (1 : Int64) (60 : Int64) = some (bz (decide ((1 : Int32) ≤ x) && decide (x ≤ (60 : Int32))), μ) := in_core μ x 1 60
theorem st_drift : Sp1 Inv f_X9_drift f_X10_drift := by
  intro μ x hI
  obtain ⟨σ, P, Q, y⟩ := id hI
  have hr := y.2.1
  have hC5 := y.hk.1
  obtain ⟨o1, o2, o3, o4, o5, o6, o7, o8, o9⟩ := y.2.2.1
  have h35 : μ.1 112 35 = nI (sB σ 7 0) := y.ma.2.1.2.1
  unfold f_X9_drift f_X10_drift
  by_cases c1 : x < (1 : Int32)
  · rw [if_pos c1]
    refine ⟨_, μ, μ, rfl, ?_, hI⟩
    rw [in_1, bC_s, if_pos (by
      rw [Int32.lt_iff_toInt_lt] at c1
      rw [show decide ((1 : Int32) ≤ x) = false from decide_eq_false (by rw [Int32.le_iff_toInt_le]; omega)]
      rfl)]
  rw [if_neg c1]
  have k1 : decide ((1 : Int32) ≤ x) = true := decide_eq_true (by rw [Int32.lt_iff_toInt_lt] at c1; rw [Int32.le_iff_toInt_le]; omega)
  by_cases c2 : x ≤ (60 : Int32)
  · have hin : bz (decide ((1 : Int32) ≤ x) && decide (x ≤ (60 : Int32))) = 1 := by rw [k1, decide_eq_true c2]; rfl
    have hx : ∃ n : Nat, n ≤ 60 ∧ x = nI n := by
      have h1 := of_decide_eq_true k1
      rw [Int32.le_iff_toInt_le, show (1 : Int32).toInt = 1 from rfl] at h1
      have h2 := c2
      rw [Int32.le_iff_toInt_le, show (60 : Int32).toInt = 60 from rfl] at h2
      refine ⟨x.toInt.toNat, by omega, ?_⟩
      apply Int32.toInt_inj.mp
      rw [nI_toInt (by omega)]
      omega
    obtain ⟨n, hn, rfl⟩ := hx
    rw [if_pos c2, rd hr (rt_p P Q), bR_s, isThere_eq o1 y.ch, bC_s]
    by_cases q : hC (sH σ) = 0
    · rw [if_pos q, if_pos rfl]
      refine ⟨_, μ, μ, rfl, ?_, hI⟩
      rw [in_1, bC_s, hin, if_neg (by decide), y.mh.1, if_pos (by rw [q]; rfl)]
    · rw [if_neg q, if_neg (by decide), rd hr (rt_0_4 P Q), bR_s, y.cb.2.1]
      by_cases r : sB σ 7 0 ≤ 9000
      · obtain ⟨μ1, e1, e2, e3⟩ := rem_c y.ca y.p hr o3.1 o4
        have hr1 := e2.1.trans hr
        rw [if_pos ((le9000 (by omega)).mpr r), rd hr (rt_0_5 P Q), bR_s, bR_s, e1, bV_s]
        by_cases v : 0 < hM (sH σ) ∧ 0 < hN (sH σ)
        · have eN : up2 (up2 (up2 σ.2 0 0 (rl (σ.2 0 0))) 0 5 ((σ.2 0 5 + 1) % 20)) 0 1 (σ.2 0 1) = up2 (up2 σ.2 0 0 (rl (σ.2 0 0))) 0 5 ((σ.2 0 5 + 1) % 20) := up2_id rfl
          have e3' := e3
          rw [← eN] at e3'
          obtain ⟨μ2, d1, d2, d3⟩ := drift_loop (t := (sB σ, σ.2 0 1)) y.p o1 v.1 v.2 hn n 0 FU μ1 (by omega) (by rw [FU_eq]; omega) e3' o5 hr1
          have g1 : Ag μ μ2 XC := (e2.wk (fun a q => by omega)).tr (d2.wk (fun a q => by omega))
          have m0 := y.ma1 g1
          have hr2 : μ2.2 = RFt P Q := g1.1.trans hr
          obtain ⟨μ3, f1, f2, f3, f4⟩ := rem_m (nx := (σ.2 0 5 + 1) % 20) m0 o1.2.2.2.1 hr2 o3.1
          have hr3 := f2.1.trans hr2
          have f4' := f4
          rw [← eN] at f4'
          obtain ⟨μ4, k1', k2, k3, k4⟩ := mdrift_loop (t := (sB σ, σ.2 0 1)) o1 v.1 v.2 hn n 0 FU μ3 (by omega) (by rw [FU_eq]; omega) f4' o2 (by show sB σ 7 0 + n ≤ 9100; omega) o5 hr3
          have g2 : Ag μ2 μ4 XM := (f2.wk (fun a q => by omega)).tr (k2.wk (fun a q => by omega))
          have hok2 := drI_ok o1 v.1 n (sB σ, σ.2 0 1) o2 (by show sB σ 7 0 + n ≤ 9100; omega) o5
          have y2 := y.step g1 d3 g2 (by rw [k3, f3 12 (by decide)]) k4 ⟨o1, hok2.1, ⟨rl_le o3.1, rU_ok o3.1 o2 o3.2⟩, Nat.mod_lt _ (by decide), hok2.2, o6, o7, o8, o9⟩
          refine ⟨_, μ2, μ4, d1, ?_, y2.i⟩
          have h35' : μ2.1 112 35 = nI (sB σ 7 0) := m0.2.1.2.1
          rw [in_1, bC_s, hin, if_neg (by decide), m0.1.1, if_neg (fun w => nI_ne0 (show 0 < hC (sH σ) by omega) (by omega) w), rd hr2 (rt_107_8 P Q), bR_s, show ckb (35 : Int32) (ln 112) = true from by decide, gd_t]
          show (if μ2.1 112 35 ≤ 9000 then _ else _) = _
          rw [h35', if_pos ((le9000 (by omega)).mpr r), f1, bV_s]
          exact k1'
        · obtain ⟨μ2, d1, d2, d3⟩ := drift_no (x := nI n) y.p o1 v e3 hr1
          have g1 : Ag μ μ2 XC := (e2.wk (fun a q => by omega)).tr (d2.wk (fun a q => by omega))
          have m0 := y.ma1 g1
          have hr2 : μ2.2 = RFt P Q := g1.1.trans hr
          obtain ⟨μ3, f1, f2, f3, f4⟩ := rem_m (nx := (σ.2 0 5 + 1) % 20) m0 o1.2.2.2.1 hr2 o3.1
          have hr3 := f2.1.trans hr2
          obtain ⟨μ4, k1', k2, k3, k4⟩ := mdrift_no (x := nI n) o1 o2 v f4 hr3
          have g2 : Ag μ2 μ4 XM := (f2.wk (fun a q => by omega)).tr (k2.wk (fun a q => by omega))
          have y2 := y.step g1 d3 g2 (by rw [k3, f3 12 (by decide)]) k4 ⟨o1, o2, ⟨rl_le o3.1, rU_ok o3.1 o2 o3.2⟩, Nat.mod_lt _ (by decide), o5, o6, o7, o8, o9⟩
          refine ⟨_, μ2, μ4, d1, ?_, y2.i⟩
          have h35' : μ2.1 112 35 = nI (sB σ 7 0) := m0.2.1.2.1
          rw [in_1, bC_s, hin, if_neg (by decide), m0.1.1, if_neg (fun w => nI_ne0 (show 0 < hC (sH σ) by omega) (by omega) w), rd hr2 (rt_107_8 P Q), bR_s, show ckb (35 : Int32) (ln 112) = true from by decide, gd_t]
          show (if μ2.1 112 35 ≤ 9000 then _ else _) = _
          rw [h35', if_pos ((le9000 (by omega)).mpr r), f1, bV_s]
          exact k1'
      · rw [if_neg (fun w => r ((le9000 (by have := o2.2.1; omega)).mp w))]
        refine ⟨_, μ, μ, rfl, ?_, hI⟩
        rw [in_1, bC_s, hin, if_neg (by decide), y.mh.1, if_neg (fun w => nI_ne0 (show 0 < hC (sH σ) by omega) (by omega) w), rd hr (rt_107_8 P Q), bR_s, show ckb (35 : Int32) (ln 112) = true from by decide, gd_t]
        show (if μ.1 112 35 ≤ 9000 then _ else _) = _
        rw [h35, if_neg (fun w => r ((le9000 (by have := o2.2.1; omega)).mp w))]
  · rw [if_neg c2]
    refine ⟨_, μ, μ, rfl, ?_, hI⟩
    rw [in_1, bC_s, if_pos (by rw [decide_eq_false c2, Bool.and_false]; rfl)]
