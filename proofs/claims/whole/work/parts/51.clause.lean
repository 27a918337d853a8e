/-! items -/
theorem colOf_eq {W C v : Nat} {μ : Mm} (h0 : μ.1 W 0 = nI C) (hC : 0 < C) (hC5 : C < 2 ^ 31) (hv : v < 2 ^ 31) : f_X4_columnOf μ W (nI v) = some (nI (v % C), μ) := by
  unfold f_X4_columnOf
  rw [h0, if_neg (nI_nle hC hC5), ck0_n hC hC5, gd_t, pk_rem hv hC hC5]
theorem isBehind_eq {W C x z : Nat} {μ : Mm} (h0 : μ.1 W 0 = nI C) (hC : 0 < C) (hC5 : C < 2 ^ 31) (hx : x < 2 ^ 31) (hz : z < 2 ^ 31) : f_X4_isBehind μ W (nI x) (nI z) = some (bz (bhd C x z), μ) := by
  have row : ∀ v, v < 2 ^ 31 → f_X4_rowOf μ W (nI v) = some (nI (v / C), μ) := fun v hv => by
    unfold f_X4_rowOf
    rw [h0, if_neg (nI_nle hC hC5), ck0_n hC hC5, gd_t, pk_div hv hC hC5]
  have col : ∀ v, v < 2 ^ 31 → f_X4_columnOf μ W (nI v) = some (nI (v % C), μ) := fun v hv => by
    unfold f_X4_columnOf
    rw [h0, if_neg (nI_nle hC hC5), ck0_n hC hC5, gd_t, pk_rem hv hC hC5]
  have b1 := Nat.div_le_self x C
  have b2 := Nat.div_le_self z C
  have b3 := Nat.mod_le x C
  have b4 := Nat.mod_le z C
  unfold f_X4_isBehind f_X4_isBehind_j26 bhd
  rw [row z hz, bC_s, row x hx, bC_s, col z hz, bC_s, col x hx, bC_s]
  by_cases q : z / C < x / C
  · rw [if_pos (nI_lt q (by omega)), decide_eq_true (Or.inl q)]
    rfl
  · rw [if_neg (nI_nlt (by omega) (by omega))]
    by_cases r : z % C < x % C
    · rw [if_neg (nI_ge r (by omega)), decide_eq_true (Or.inr r)]
      rfl
    · rw [if_pos (nI_le (by omega) (by omega)), decide_eq_false (fun w => w.elim q r)]
      rfl
def ioF (C a b c : Nat) : Bool := decide (a / C ≤ c / C ∧ c / C ≤ b / C ∧ a % C ≤ c % C ∧ c % C ≤ b % C)
theorem ioF_t {C a b c : Nat} (h1 : bhd C a c = false) (h2 : bhd C c b = false) : ioF C a b c = true := by
  have h1 := of_decide_eq_false h1
  have h2 := of_decide_eq_false h2
  exact decide_eq_true ⟨by omega, by omega, by omega, by omega⟩
theorem ioF_1 {C a b c : Nat} (h : bhd C a c = true) : ioF C a b c = false := by
  have h := of_decide_eq_true h
  exact decide_eq_false (by omega)
theorem ioF_2 {C a b c : Nat} (h : bhd C c b = true) : ioF C a b c = false := by
  have h := of_decide_eq_true h
  exact decide_eq_false (by omega)
theorem dIt_2 (D : Dr) (a b l i : Nat) : (dIt D a b l).1 2 i = if i = hN D.1 then a else D.1 2 i := by
  show up2 D.1 2 (hN D.1) a 2 i = _
  by_cases q : i = hN D.1
  · rw [q, up2_at, if_pos rfl]
  · rw [up2_nk q, if_neg q]
theorem dIt_3 (D : Dr) (a b l i : Nat) : (dIt D a b l).1 3 i = if i = hN D.1 then b else D.1 3 i := by
  show up2 (up2 D.1 2 (hN D.1) a) 3 (hN D.1) b 3 i = _
  by_cases q : i = hN D.1
  · rw [q, up2_at, if_pos rfl]
  · rw [up2_nk q, if_neg q]
    rfl
theorem dIt_4 (D : Dr) (a b l i : Nat) : (dIt D a b l).1 4 i = if i = hN D.1 then l else D.1 4 i := by
  show up2 (up2 (up2 D.1 2 (hN D.1) a) 3 (hN D.1) b) 4 (hN D.1) l 4 i = _
  by_cases q : i = hN D.1
  · rw [q, up2_at, if_pos rfl]
  · rw [up2_nk q, if_neg q]
    rfl
theorem dIt_o {D : Dr} {a b l i : Nat} : oS (dIt D a b l).1 i = if i = hN D.1 then bset (ioF (hC D.1) a b) (hZ D.1) else oS D.1 i := by
  show bset (fun c => isOf (dIt D a b l).1 i c) (hZ D.1) = _
  by_cases q : i = hN D.1
  · rw [if_pos q]
    apply bset_cong
    intro c _
    unfold isOf ioF
    rw [dIt_2, dIt_3, if_pos q, if_pos q]
    rfl
  · rw [if_neg q]
    show _ = bset (fun c => isOf D.1 i c) (hZ D.1)
    apply bset_cong
    intro c _
    unfold isOf
    rw [dIt_2, dIt_3, if_neg q, if_neg q]
    rfl
theorem addI_loop {P Q W k a b l : Nat} {T : Tx} {μ : Mm} {D : Dr} (hW : W = 3 ∨ W = 11) (hr : μ.2 = RFt P Q) (g : GD μ T k) (c : CD μ W D) (d : DOK D) (h0 : 0 < hC D.1) (hN5 : hN D.1 < 5) (ha : a < hZ D.1) (hb : b < hZ D.1) : ∀ (m e f : Nat), e + m = hZ D.1 → m < f →
    ∃ μ', f_X4_addItem_L22 f μ W (nI a) (nI b) (nI l) (nI (bset (ioF (hC D.1) a b) e)) (nI e) = some μ' ∧ Ag μ μ' (XW W) ∧ GD μ' T k ∧ CD μ' W (dIt D a b l) := by
  have hz := hZ_20 d
  have hC5 := d.1
  intro m
  induction m with
  | zero =>
    intro e f hm hf
    obtain ⟨f, rfl⟩ := fs1 hf
    obtain ⟨c1, c2, c3, c4, c5, c6, c7, c8, c9, c10, c11⟩ := c
    have gu : Ag μ (up2 (up2 (up2 (up2 μ.1 (W + 2) (hN D.1) (nI (bset (ioF (hC D.1) a b) e))) (W + 3) (hN D.1) (nI l)) (W + 4) (hN D.1) (nI (a % hC D.1))) W 3 (nI (hN D.1 + 1)), μ.2) (fun x => x = W ∨ x = W + 2 ∨ x = W + 3 ∨ x = W + 4) := (((Ag.up (X := fun x => x = W ∨ x = W + 2 ∨ x = W + 3 ∨ x = W + 4) (by omega)).u1 (by omega)).u1 (by omega)).u1 (by omega)
    have sW : ∀ s, s ≠ 3 → up2 (up2 (up2 (up2 μ.1 (W + 2) (hN D.1) (nI (bset (ioF (hC D.1) a b) e))) (W + 3) (hN D.1) (nI l)) (W + 4) (hN D.1) (nI (a % hC D.1))) W 3 (nI (hN D.1 + 1)) W s = μ.1 W s := fun s hs => by rw [up2_nk hs, up2_na (by omega), up2_na (by omega), up2_na (by omega)]
    refine ⟨(up2 (up2 (up2 (up2 μ.1 (W + 2) (hN D.1) (nI (bset (ioF (hC D.1) a b) e))) (W + 3) (hN D.1) (nI l)) (W + 4) (hN D.1) (nI (a % hC D.1))) W 3 (nI (hN D.1 + 1)), μ.2), ?_, gu.wk (fun a q => Or.inr (by omega)), g.w (gu.2 1 (by omega)) (gu.2 2 (by omega)), ?_⟩
    · have n1 : up2 μ.1 (W + 2) (hN D.1) (nI (bset (ioF (hC D.1) a b) e)) W 3 = nI (hN D.1) := (up2_na (by omega)).trans c4
      have n2 : up2 (up2 μ.1 (W + 2) (hN D.1) (nI (bset (ioF (hC D.1) a b) e))) (W + 3) (hN D.1) (nI l) W 3 = nI (hN D.1) := (up2_na (by omega)).trans n1
      have n3 : ∀ v, up2 (up2 (up2 μ.1 (W + 2) (hN D.1) (nI (bset (ioF (hC D.1) a b) e))) (W + 3) (hN D.1) (nI l)) (W + 4) (hN D.1) v W 3 = nI (hN D.1) := fun v => (up2_na (by omega)).trans n2
      have n0 : up2 (up2 μ.1 (W + 2) (hN D.1) (nI (bset (ioF (hC D.1) a b) e))) (W + 3) (hN D.1) (nI l) W 0 = nI (hC D.1) := (up2_na (by omega)).trans ((up2_na (by omega)).trans c1)
      have col := colOf_eq (W := W) (μ := (up2 (up2 μ.1 (W + 2) (hN D.1) (nI (bset (ioF (hC D.1) a b) e))) (W + 3) (hN D.1) (nI l), μ.2)) (v := a) n0 h0 (by omega) (by omega)
      show f_X4_addItem_L22b _ _ _ _ _ _ _ _ = _
      unfold f_X4_addItem_L22b
      rw [c3, if_pos (nI_le (by omega) (by omega)), rd hr (rt_w7 P Q hW), bR_s, c4, lnP2 hW, ckb_n hN5 (by decide), gd_t, nI_clamp (by omega), bM_s]
      dsimp only
      rw [rd hr (rt_w8 P Q hW), bR_s, n1, lnP3 hW, ckb_n hN5 (by decide), gd_t, nI_clamp (by omega), bM_s]
      dsimp only
      rw [rd hr (rt_w9 P Q hW), bR_s, col, bC_s, n2, lnP4 hW, ckb_n hN5 (by decide), gd_t, nI_clamp (by omega), bM_s]
      dsimp only
      rw [n3, nI_p1, bM_s]
    · refine ⟨(sW 0 (by decide)).trans c1, (sW 1 (by decide)).trans c2, (sW 2 (by decide)).trans c3, up2_at _ W 3 _, (sW 4 (by decide)).trans c5, (sW 5 (by decide)).trans c6, fun j hj => ?_, fun i hi => ?_, fun i hi => ?_, ?_, ?_⟩
      · rw [gu.2 (W + 1) (by omega)]
        exact c7 j hj
      · have hi : i < hN D.1 + 1 := hi
        rw [dIt_o, dIt_4, dIt_2]
        show up2 (up2 (up2 (up2 μ.1 (W + 2) (hN D.1) (nI (bset (ioF (hC D.1) a b) e))) (W + 3) (hN D.1) (nI l)) (W + 4) (hN D.1) (nI (a % hC D.1))) W 3 (nI (hN D.1 + 1)) (W + 2) i = _ ∧ up2 (up2 (up2 (up2 μ.1 (W + 2) (hN D.1) (nI (bset (ioF (hC D.1) a b) e))) (W + 3) (hN D.1) (nI l)) (W + 4) (hN D.1) (nI (a % hC D.1))) W 3 (nI (hN D.1 + 1)) (W + 3) i = _ ∧ up2 (up2 (up2 (up2 μ.1 (W + 2) (hN D.1) (nI (bset (ioF (hC D.1) a b) e))) (W + 3) (hN D.1) (nI l)) (W + 4) (hN D.1) (nI (a % hC D.1))) W 3 (nI (hN D.1 + 1)) (W + 4) i = nI (_ % hC D.1)
        rw [up2_na (show W + 2 ≠ W by omega), up2_na (show W + 2 ≠ W + 4 by omega), up2_na (show W + 2 ≠ W + 3 by omega), up2_na (show W + 3 ≠ W by omega), up2_na (show W + 3 ≠ W + 4 by omega), up2_na (show W + 4 ≠ W by omega)]
        by_cases q : i = hN D.1
        · rw [if_pos q, if_pos q, if_pos q, q, up2_at, up2_at, up2_at, show e = hZ D.1 by omega]
          exact ⟨rfl, rfl, rfl⟩
        · rw [if_neg q, if_neg q, if_neg q]
          refine ⟨?_, ?_, ?_⟩
          · rw [up2_nk q]
            exact (c8 i (by omega)).1
          · rw [up2_nk q, up2_na (show W + 3 ≠ W + 2 by omega)]
            exact (c8 i (by omega)).2.1
          · rw [up2_nk q, up2_na (show W + 4 ≠ W + 3 by omega), up2_na (show W + 4 ≠ W + 2 by omega)]
            exact (c8 i (by omega)).2.2
      · rw [gu.2 (W + 6) (by omega), gu.2 (W + 7) (by omega)]
        exact c9 i hi
      · rw [gu.2 (W + 5) (by omega)]
        exact c10
      · rw [gu.2 (W + 5) (by omega)]
        exact c11
  | succ m ih =>
    intro e f hm hf
    obtain ⟨f, rfl⟩ := fs1 hf
    have hs := bset_nI (ioF (hC D.1) a b) (show e < 31 by omega)
    have hih := ih (e + 1) f (by omega) (by omega)
    rw [← hs] at hih
    show ∃ μ', f_X4_addItem_L22b _ _ _ _ _ _ _ _ = _ ∧ _
    unfold f_X4_addItem_L22b f_X4_addItem_j60
    rw [c.2.2.1, if_neg (nI_ge (by omega) (by omega)), isBehind_eq c.1 h0 (by omega) (by omega) (by omega), bC_s, isBehind_eq c.1 h0 (by omega) (by omega) (by omega), bC_s, nI_p1, bI_s]
    by_cases q1 : bhd (hC D.1) a e = true
    · rw [ioF_1 q1, if_neg (by decide), i_or0] at hih
      rw [if_neg (bz_t q1)]
      exact hih
    · have q1 : bhd (hC D.1) a e = false := by simpa using q1
      rw [if_pos (bz_f q1)]
      by_cases q2 : bhd (hC D.1) e b = true
      · rw [ioF_2 q2, if_neg (by decide), i_or0] at hih
        rw [if_neg (bz_t q2)]
        exact hih
      · have q2 : bhd (hC D.1) e b = false := by simpa using q2
        rw [ioF_t q1 q2, if_pos rfl] at hih
        rw [if_pos (bz_f q2)]
        exact hih
theorem nI_zm {D : Dr} (d : DOK D) (h0 : 0 < hC D.1) : nI (hZ D.1) - (1 : Int32) = nI (hZ D.1 - 1) := by
  have hR := d.2.2.2.2.2.2.1 h0
  have hz : 0 < hZ D.1 := Nat.mul_pos h0 hR
  have := nI_sub1 (hZ D.1 - 1)
  rw [show hZ D.1 - 1 + 1 = hZ D.1 by omega] at this
  exact this
theorem item_c {P Q W k : Nat} {T : Tx} {μ : Mm} {D : Dr} (hW : W = 3 ∨ W = 11) (hr : μ.2 = RFt P Q) (g : GD μ T k) (c : CD μ W D) (d : DOK D) (h0 : 0 < hC D.1) (hN5 : hN D.1 < 5) :
    ∃ μ', f_X7_readItem μ 1 W = some μ' ∧ Ag μ μ' (XW W) ∧ OutC μ' T W (itF T D k) := by
  have hz := hZ_20 d
  have hR := d.2.2.2.2.2.2.1 h0
  have hz0 : 0 < hZ D.1 := Nat.mul_pos h0 hR
  have hC5 := d.1
  unfold f_X7_readItem itF
  rw [c.2.2.1, nI_zm d h0]
  rcases h1 : rdN T 0 (hZ D.1 - 1) k with ⟨fl, w⟩ | ⟨x, k1⟩
  · obtain ⟨v, μ1, e1, e2, e3⟩ := num_f (loI := 0) rfl rfl (by decide) (by omega) hr g h1
    have hr1 := e2.1.trans hr
    obtain ⟨v2, μ2, d1, d2, d3⟩ := num_b 0 (μ1.1 W 2 - 1) hr1 e3
    have hr2 := d2.1.trans hr1
    obtain ⟨v3, μ3, f1, f2, f3⟩ := num_b 0 9 hr2 d3
    rw [e1, bC_s, d1, bC_s, if_neg d3.ne, bnd_l]
    unfold f_X7_readItem_j49
    rw [f1, bC_s, if_neg f3.ne]
    exact ⟨μ3, rfl, ((e2.tr d2).tr f2).wk (fun a q => Or.inl q), f3⟩
  · obtain ⟨μ1, e1, e2, e3, e4⟩ := num_g (loI := 0) rfl rfl (by decide) (by omega) hr g h1
    have hr1 := e2.1.trans hr
    have c1 := c.x1 hW e2
    rw [e1, bC_s, bnd_r]
    dsimp only
    rw [c1.2.2.1, nI_zm d h0]
    rcases h2 : rdN T 0 (hZ D.1 - 1) k1 with ⟨fl, w⟩ | ⟨z, k2⟩
    · obtain ⟨v2, μ2, d1, d2, d3⟩ := num_f (loI := 0) rfl rfl (by decide) (by omega) hr1 e3 h2
      have hr2 := d2.1.trans hr1
      obtain ⟨v3, μ3, f1, f2, f3⟩ := num_b 0 9 hr2 d3
      rw [d1, bC_s, if_neg d3.ne, bnd_l]
      unfold f_X7_readItem_j49
      rw [f1, bC_s, if_neg f3.ne]
      exact ⟨μ3, rfl, ((e2.tr d2).tr f2).wk (fun a q => Or.inl q), f3⟩
    · obtain ⟨μ2, d1, d2, d3, d4⟩ := num_g (loI := 0) rfl rfl (by decide) (by omega) hr1 e3 h2
      have hr2 := d2.1.trans hr1
      have c2 := c1.x1 hW d2
      have vx := rdN_v h1
      have vz := rdN_v h2
      rw [d1, bC_s, if_pos d3.2.1, bnd_r]
      dsimp only
      rw [isBehind_eq c2.1 h0 (by omega) (by omega) (by omega), bC_s]
      by_cases q : bhd (hC D.1) x z = true
      · obtain ⟨μ3, f1, f2, f3, f4, f5⟩ := fail_g 4 (sk T k1) d3 (by decide)
        have hr3 := f2.1.trans hr2
        obtain ⟨v4, μ4, l1, l2, l3⟩ := num_b 0 9 hr3 f3
        rw [if_neg (bz_t q), if_pos q, d4, show f_X7_fail μ2 1 (4 : Int32) (nI (sk T k1)) = some μ3 from f1, bV_s]
        unfold f_X7_readItem_j49
        rw [l1, bC_s, if_neg l3.ne]
        exact ⟨μ4, rfl, (((e2.tr d2).tr f2).tr l2).wk (fun a q => Or.inl q), l3⟩
      · rw [if_pos (bz_f (by simpa using q)), if_neg q]
        unfold f_X7_readItem_j49
        rcases h3 : rdN T 0 9 k2 with ⟨fl, w⟩ | ⟨l, k3⟩
        · obtain ⟨v3, μ3, f1, f2, f3⟩ := num_f (loI := 0) (hiI := 9) rfl rfl (by decide) (by decide) hr2 d3 h3
          rw [f1, bC_s, if_neg f3.ne, bnd_l]
          exact ⟨μ3, rfl, ((e2.tr d2).tr f2).wk (fun a q => Or.inl q), f3⟩
        · obtain ⟨μ3, f1, f2, f3, f4⟩ := num_g (loI := 0) (hiI := 9) rfl rfl (by decide) (by decide) hr2 d3 h3
          have hr3 := f2.1.trans hr2
          have c3 := c2.x1 hW f2
          obtain ⟨μ4, l1, l2, l3, l4⟩ := addI_loop (l := l) hW hr3 f3 c3 d h0 hN5 (show x < hZ D.1 by omega) (show z < hZ D.1 by omega) (hZ D.1) 0 FU (by omega) (by rw [FU_eq]; omega)
          have hl : f_X4_addItem μ3 W (nI x) (nI z) (nI l) = some μ4 := by
            unfold f_X4_addItem
            rw [c3.2.2.2.1, if_neg (nI_pos (by omega)), if_pos (show nI (hN D.1) < (5 : Int32) from nI_lt (b := 5) hN5 (by omega))]
            exact l1
          rw [f1, bC_s, if_pos f3.2.1, hl, bV_s, bnd_r]
          exact ⟨μ4, rfl, (((e2.tr d2).tr f2).wk (fun a q => Or.inl q)).tr l2, l3, l4⟩
/-! persons -/
theorem setb_new {m M : Nat} (t : Bool) (h : m < 2 ^ M) : setb m M t = m ||| (if t = true then 2 ^ M else 0) := by
  unfold setb
  cases t
  · rw [if_neg (by decide), if_neg (by decide), Nat.or_zero]
    unfold clr
    rw [Nat.testBit_lt_two_pow h, if_neg (by decide)]
  · rw [if_pos rfl, if_pos rfl]
theorem dPe_y {D : Dr} {T : Tx} {a i : Nat} : yS (dPe D T a).1 (dPe D T a).2 i = setb (yS D.1 D.2 i) (hM D.1) (decide (dgt T (a + i) = 1)) ∧ nS (dPe D T a).1 (dPe D T a).2 i = setb (nS D.1 D.2 i) (hM D.1) (decide (dgt T (a + i) = 0)) := by
  rw [setb_new (m := yS D.1 D.2 i) _ (bset_lt _ _), setb_new (m := nS D.1 D.2 i) _ (bset_lt _ _)]
  have e : ∀ v, bset (fun p => decide ((dPe D T a).2 p i = v)) (hM D.1) = bset (fun p => decide (D.2 p i = v)) (hM D.1) := fun v => bset_cong (fun k hk => by
    show decide ((if k = hM D.1 then (fun i => dgt T (a + i)) else D.2 k) i = v) = _
    rw [if_neg (by omega)])
  have e2 : (dPe D T a).2 (hM D.1) i = dgt T (a + i) := by
    show (if hM D.1 = hM D.1 then (fun i => dgt T (a + i)) else D.2 (hM D.1)) i = _
    rw [if_pos rfl]
  constructor
  · show bset (fun p => decide ((dPe D T a).2 p i = 1)) (hM D.1) ||| (if decide ((dPe D T a).2 (hM D.1) i = 1) = true then 2 ^ hM D.1 else 0) = _
    rw [e, e2]
    rfl
  · show bset (fun p => decide ((dPe D T a).2 p i = 0)) (hM D.1) ||| (if decide ((dPe D T a).2 (hM D.1) i = 0) = true then 2 ^ hM D.1 else 0) = _
    rw [e, e2]
    rfl
theorem okd_f {T : Tx} {a k : Nat} (q : okd T a k = false) : ∀ n, k ≤ n → okd T a n = false
  | 0, hn => by rw [← show k = 0 by omega]; exact q
  | n + 1, hn => by
    by_cases e : k = n + 1
    · rw [← e]; exact q
    · show (okd T a n && _) = false
      rw [okd_f q n (by omega), Bool.false_and]
theorem bal_w {W : Nat} (hW : W = 3 ∨ W = 11) : BalA (W + 5) := bal_h hW
theorem person_loop {P Q W e a : Nat} {T : Tx} {D : Dr} {μ0 : Mm} (hW : W = 3 ∨ W = 11) (c : CD μ0 W D) (d : DOK D) (hM7 : hM D.1 < 7) (hd : ∀ i, i < 5 → isF T (a + i) = true) : ∀ (m i f : Nat) (μ : Mm), μ.2 = RFt P Q → GD μ T e → μ.1 1 5 = nI a → Ag μ0 μ (fun x => x = W + 6 ∨ x = W + 7) →
    (∀ j, j < 5 → μ.1 (W + 6) j = nI (if j < i then yS (dPe D T a).1 (dPe D T a).2 j else yS D.1 D.2 j) ∧ μ.1 (W + 7) j = nI (if j < i then nS (dPe D T a).1 (dPe D T a).2 j else nS D.1 D.2 j)) → okd T a i = true → i + m = 5 → m < f →
    ∃ μ', f_X7_readPerson_L31 f μ 1 W 1 (nI i) = some μ' ∧ Ag μ μ' (XW W) ∧ OutC μ' T W (if okd T a 5 = true then Sum.inr (dPe D T a, e) else Sum.inl (2, a)) := by
  obtain ⟨c1, c2, c3, c4, c5, c6, c7, c8, c9, c10, c11⟩ := c
  intro m
  induction m with
  | zero =>
    intro i f μ hr g h5 ga hv hk hm hf
    obtain ⟨f, rfl⟩ := fs1 hf
    have hi : i = 5 := by omega
    subst hi
    have gu : Ag μ (up2 μ.1 W 4 (nI (hM D.1 + 1)), μ.2) (fun x => x = W) := Ag.up rfl
    rw [if_pos hk]
    have s : ∀ k, k ≠ 4 → up2 μ.1 W 4 (nI (hM D.1 + 1)) W k = μ0.1 W k := fun k hk => by rw [up2_nk hk, ga.2 W (by omega)]
    have s2 : ∀ x, x ≠ W → x ≠ W + 6 → x ≠ W + 7 → up2 μ.1 W 4 (nI (hM D.1 + 1)) x = μ0.1 x := fun x h1 h2 h3 => by rw [up2_ne h1, ga.2 x (by omega)]
    refine ⟨(up2 μ.1 W 4 (nI (hM D.1 + 1)), μ.2), ?_, gu.wk (fun x q => Or.inr (by omega)), g.w (gu.2 1 (by omega)) (gu.2 2 (by omega)), ?_⟩
    · show f_X7_readPerson_L31b _ _ _ _ _ _ = _
      unfold f_X7_readPerson_L31b f_X7_readPerson_j92
      rw [if_pos (by decide), if_neg (by decide), ga.2 W (by omega), c5, nI_p1, bM_s]
    · refine ⟨(s 0 (by decide)).trans c1, (s 1 (by decide)).trans c2, (s 2 (by decide)).trans c3, (s 3 (by decide)).trans c4, up2_at _ W 4 _, (s 5 (by decide)).trans c6, fun j hj => ?_, fun i hi => ?_, fun i hi => ?_, ?_, ?_⟩
      · show up2 μ.1 W 4 (nI (hM D.1 + 1)) (W + 1) j = _
        rw [s2 (W + 1) (by omega) (by omega) (by omega)]
        exact c7 j hj
      · show up2 μ.1 W 4 (nI (hM D.1 + 1)) (W + 2) i = _ ∧ up2 μ.1 W 4 (nI (hM D.1 + 1)) (W + 3) i = _ ∧ up2 μ.1 W 4 (nI (hM D.1 + 1)) (W + 4) i = _
        rw [s2 (W + 2) (by omega) (by omega) (by omega), s2 (W + 3) (by omega) (by omega) (by omega), s2 (W + 4) (by omega) (by omega) (by omega)]
        exact c8 i hi
      · rw [gu.2 (W + 6) (by omega), gu.2 (W + 7) (by omega)]
        have := hv i hi
        rw [if_pos hi, if_pos hi] at this
        exact this
      · show up2 μ.1 W 4 (nI (hM D.1 + 1)) (W + 5) 2 = _
        rw [s2 (W + 5) (by omega) (by omega) (by omega)]
        exact c10
      · show up2 μ.1 W 4 (nI (hM D.1 + 1)) (W + 5) 3 = _
        rw [s2 (W + 5) (by omega) (by omega) (by omega)]
        exact c11
  | succ m ih =>
    intro i f μ hr g h5 ga hv hk hm hf
    obtain ⟨f, rfl⟩ := fs1 hf
    have hd9 := dgt_9 (hd i (by omega))
    have hMy : yS D.1 D.2 i < 128 := bset7 _ (by omega)
    have hMn : nS D.1 D.2 i < 128 := bset7 _ (by omega)
    have hvi := hv i (by omega)
    rw [if_neg (by omega), if_neg (by omega)] at hvi
    obtain ⟨μ1, e1, e2, e3, e4, e5⟩ := put_raw (P := P) (Q := Q) (a := W + 5) (p := hM D.1) (i := i) (nI (dgt T (a + i))) (bal_w hW) hr (by omega) (by omega) hvi.1 hvi.2 hMy hMn
    have hr1 := e2.1.trans hr
    have g1 : GD μ1 T e := g.w (e2.2 1 (by omega)) (e2.2 2 (by omega))
    have h51 : μ1.1 1 5 = nI a := by rw [e2.2 1 (by omega)]; exact h5
    have gX : Ag μ μ1 (XW W) := e2.wk (fun x q => Or.inr (by omega))
    show ∃ μ', f_X7_readPerson_L31b _ _ _ _ _ _ = _ ∧ _
    unfold f_X7_readPerson_L31b f_X7_readPerson_j69 f_X7_readPerson_j70
    rw [if_neg (show ¬ (5 : Int32) ≤ nI i from nI_ge (b := 5) (by omega) (by omega)), if_neg (by decide), h5, nI_add, figureAt_eq hr g.1 (hd i (by omega)), bC_s, if_neg (nI_pos (by omega)), rd hr (rt_w10 P Q hW), bR_s, bR_s, ga.2 W (by omega), c5, e1, bV_s, bV_s, nI_p1]
    have hok : okd T a (i + 1) = (okd T a i && decide (dgt T (a + i) ≤ 2)) := rfl
    by_cases q : dgt T (a + i) ≤ 2
    · rw [if_neg (show ¬ (2 : Int32) < nI (dgt T (a + i)) from nI_nlt (a := 2) q (by omega))]
      have d1 : decide (nI (dgt T (a + i)) = 1) = decide (dgt T (a + i) = 1) := decide_eq_decide.mpr (nI_eq (b := 1) (by omega) (by omega))
      have d0 : decide (nI (dgt T (a + i)) = 0) = decide (dgt T (a + i) = 0) := decide_eq_decide.mpr (nI_eq (b := 0) (by omega) (by omega))
      rw [d1, ← dPe_y.1] at e3
      rw [d0, ← dPe_y.2] at e4
      obtain ⟨μ', f1, f2, f3⟩ := ih (i + 1) f μ1 hr1 g1 h51 (ga.tr (e2.wk (fun x q => by omega))) (fun j hj => by
        by_cases z : j = i
        · subst z
          rw [if_pos (by omega), if_pos (by omega)]
          exact ⟨e3, e4⟩
        · have := hv j hj
          rw [show μ1.1 (W + 6) j = μ.1 (W + 6) j from (e5 j z).1, show μ1.1 (W + 7) j = μ.1 (W + 7) j from (e5 j z).2]
          by_cases y : j < i
          · rw [if_pos y, if_pos y] at this
            rw [if_pos (by omega), if_pos (by omega)]
            exact this
          · rw [if_neg y, if_neg y] at this
            rw [if_neg (by omega), if_neg (by omega)]
            exact this) (by rw [hok, hk, decide_eq_true q]; rfl) (by omega) (by omega)
      exact ⟨μ', f1, gX.tr f2, f3⟩
    · rw [if_pos (show (2 : Int32) < nI (dgt T (a + i)) from nI_lt (a := 2) (by omega) (by omega))]
      obtain ⟨μ2, l1, l2, l3, l4, l5⟩ := fail_g 2 a g1 (by decide)
      rw [okd_f (k := i + 1) (by rw [hok, decide_eq_false q, Bool.and_false]) 5 (by omega), if_neg (by decide)]
      refine ⟨μ2, ?_, gX.tr (l2.wk (fun x q => Or.inl q)), l3⟩
      obtain ⟨f, rfl⟩ : ∃ g, f = g + 1 := ⟨f - 1, by omega⟩
      show f_X7_readPerson_L31b _ _ _ _ _ _ = _
      unfold f_X7_readPerson_L31b f_X7_readPerson_j92
      rw [if_pos rfl, if_pos rfl, h51, show f_X7_fail μ1 1 (2 : Int32) (nI a) = some μ2 from l1, bV_s]
      split <;> rfl
theorem person_c {P Q W k : Nat} {T : Tx} {μ : Mm} {D : Dr} (hW : W = 3 ∨ W = 11) (hr : μ.2 = RFt P Q) (g : GD μ T k) (c : CD μ W D) (d : DOK D) (hM7 : hM D.1 < 7) :
    ∃ μ', f_X7_readPerson μ 1 W = some μ' ∧ Ag μ μ' (XW W) ∧ OutC μ' T W (peF T D k) := by
  have h240 := g.1.1
  obtain ⟨μ1, e1, e2, e3⟩ := g.skp hr
  have hr1 := e2.1.trans hr
  have hle := fe_le (sk_le g.2.2.2.2)
  unfold f_X7_readPerson f_X7_readPerson_j27 peF
  rw [e1, bV_s]
  by_cases q1 : fe T (sk T k) = sk T k
  · obtain ⟨x, μ2, d1, d2, d3⟩ := figs_f hr1 e3 q1
    rw [d1, bC_s, if_neg d3.ne, if_pos q1]
    exact ⟨μ2, rfl, (e2.tr d2).wk (fun a q => Or.inl q), d3⟩
  · obtain ⟨μ2, d1, d2, d3, d4⟩ := figs_g hr1 e3 q1
    have hr2 := d2.1.trans hr1
    have c2 := (c.x1 hW e2).x1 hW d2
    have gX : Ag μ μ2 (XW W) := (e2.tr d2).wk (fun a q => Or.inl q)
    rw [d1, bC_s, if_pos d3.2.1, if_neg q1]
    by_cases q5 : fe T (sk T k) - sk T k = 5
    · rw [if_pos (show nI (fe T (sk T k) - sk T k) = (5 : Int32) by rw [q5]; rfl)]
      obtain ⟨μ3, f1, f2, f3⟩ := person_loop (P := P) (Q := Q) (e := fe T (sk T k)) (a := sk T k) hW c2 d hM7 (fun i hi => fe_in (k := sk T k) (by omega) (by omega)) 5 0 FU μ2 hr2 d3 d4 Ag.rf (fun j hj => by
        rw [if_neg (by omega), if_neg (by omega)]
        exact c2.2.2.2.2.2.2.2.2.1 j hj) rfl (by omega) (by rw [FU_eq]; omega)
      refine ⟨μ3, f1, gX.tr f2, ?_⟩
      by_cases z : okd T (sk T k) 5 = true
      · rw [if_pos ⟨q5, z⟩]
        rw [if_pos z] at f3
        exact f3
      · rw [if_neg (fun w => z w.2)]
        rw [if_neg z] at f3
        exact f3
    · rw [if_neg (show ¬ nI (fe T (sk T k) - sk T k) = (5 : Int32) from nI_ne (b := 5) q5 (by omega) (by omega)), if_neg (fun w => q5 w.1)]
      obtain ⟨μ3, l1, l2, l3, l4, l5⟩ := fail_g 2 (sk T k) d3 (by decide)
      refine ⟨μ3, ?_, gX.tr (l2.wk (fun x q => Or.inl q)), l3⟩
      show f_X7_readPerson_L31b _ _ _ _ _ _ = _
      unfold f_X7_readPerson_L31b f_X7_readPerson_j92
      rw [if_neg (by decide), if_pos rfl, if_pos rfl, d4, show f_X7_fail μ2 1 (2 : Int32) (nI (sk T k)) = some μ3 from l1, bV_s]
