/-! vote, undo, session -/
theorem stand_cg {h : Hs} {b b' : Bt} {i : Nat} (e : ∀ p, p < hM h → b' p i = b p i) : stand h b' i = stand h b i := by
  unfold stand
  rw [cn_cong (p := fun p => decide (b' p i = 1)) (q := fun p => decide (b p i = 1)) (fun k hk => by rw [e k hk]), cn_cong (p := fun p => decide (b' p i = 0)) (q := fun p => decide (b p i = 0)) (fun k hk => by rw [e k hk])]
theorem figs22 {s : Nat → Nat} (hs : ∀ i, s i ≤ 2) : ∀ n, 9 * figs s n + 2 ≤ 2 * 10 ^ n
  | 0 => Nat.le_refl _
  | n + 1 => by
    have h := figs22 hs n
    have h2 := hs n
    show 9 * (10 * figs s n + s n) + 2 ≤ 2 * 10 ^ (n + 1)
    rw [Nat.pow_succ]
    omega
theorem figs_max {s : Nat → Nat} (hs : ∀ i, s i ≤ 2) {n : Nat} (hn : n ≤ 5) : figs s n ≤ 22222 := by
  have h := figs22 hs n
  have : 10 ^ n ≤ 10 ^ 5 := Nat.pow_le_pow_right (by decide) hn
  omega
def fgB (h : Hs) (b : Bt) : Nat := figs (stand h b) (hN h)
def sitB (h : Hs) (b : Bt) : Bt := up2 (up2 b 7 0 (b 7 0 + 1)) 7 1 (fgB h b + 1)
theorem sitB_p {h : Hs} {b : Bt} {p i : Nat} (hp : p < 7) : sitB h b p i = b p i := by
  unfold sitB
  rw [up2_na (by omega), up2_na (by omega)]
theorem sit_ok {h : Hs} {b : Bt} (hk : hok h) (hb : bok h b) (hs : b 7 0 + 1 ≤ 9100) : bok h (sitB h b) := by
  refine ⟨fun p hp i hi => ?_, ?_, ?_⟩
  · have := hk.2.2.2.1
    rw [sitB_p (by omega)]
    exact hb.1 p hp i hi
  · show up2 (up2 b 7 0 (b 7 0 + 1)) 7 1 (fgB h b + 1) 7 0 ≤ 9100
    exact hs
  · show fgB h b + 1 ≤ 30000
    have : fgB h b ≤ 22222 := figs_max (stand_le h b) hk.2.2.1
    omega
theorem CB.sit {μ μ' : Mm} {h : Hs} {b : Bt} (hk : hok h) (hb : CB μ 19 h b) (e1 : μ'.1 20 = μ.1 20) (e2 : μ'.1 21 = μ.1 21) (e3 : μ'.1 19 2 = nI (b 7 0 + 1)) (e4 : μ'.1 19 3 = nI (fgB h b)) : CB μ' 19 h (sitB h b) := by
  have hM7 := hk.2.2.2.1
  refine ⟨fun i hi => ?_, e3, ?_⟩
  · show μ'.1 20 i = _ ∧ μ'.1 21 i = _
    rw [e1, e2]
    unfold yS nS
    rw [bset_cong (f := fun p => decide (sitB h b p i = 1)) (g := fun p => decide (b p i = 1)) (fun k hk => by rw [sitB_p (by omega)]), bset_cong (f := fun p => decide (sitB h b p i = 0)) (g := fun p => decide (b p i = 0)) (fun k hk => by rw [sitB_p (by omega)])]
    exact hb.1 i hi
  · show μ'.1 19 3 = nI (fgB h b + 1) - 1
    rw [e4, nI_sub1]
abbrev Xb (a : Nat) : Prop := a = 19 ∨ a = 20 ∨ a = 21 ∨ a = 85 ∨ (91 ≤ a ∧ a ≤ 98)
theorem sit_c {P Q : Nat} {μ : Mm} {h : Hs} {b : Bt} {U M : Nat → Bt} {N : Nat → Nat → Nat} (c : CA P μ h b U M N) (hP : P = 3 ∨ P = 11) (hk : hok h) (hr : μ.2 = RFt P Q) :
    ∃ μ', f_X9_holdSession μ 0 = some (nI (fgB h b), μ') ∧ Ag μ μ' Xb ∧ CA P μ' h (sitB h b) U M N := by
  obtain ⟨μ1, e1, e2, e3⟩ := standNow_eq hk hr c.1.2.2.2.1 c.2.1
  have c1 : CA P μ1 h b U M N := c.sc hP (fun a _ q => e2.2 a (by omega))
  have hr1 := e2.1.trans hr
  have h2 := c1.2.1.2.1
  have g : Ag μ1 (up2 (up2 μ1.1 19 2 (nI (b 7 0 + 1))) 19 3 (nI (fgB h b)), μ1.2) (fun a => a = 19) := (Ag.up (X := fun a => a = 19) rfl).u1 rfl
  refine ⟨(up2 (up2 μ1.1 19 2 (nI (b 7 0 + 1))) 19 3 (nI (fgB h b)), μ1.2), ?_, (e2.wk (fun a q => by omega)).tr (g.wk (fun a q => Or.inl q)), c1.bl hP (fun a _ q => g.2 a (by omega)) (c1.2.1.sit hk (g.2 20 (by decide)) (g.2 21 (by decide)) rfl rfl)⟩
  unfold f_X9_holdSession
  rw [e1, bC_s, rd hr1 (rt_0_4 P Q), bR_s, h2, nI_p1, bM_s]
  show bR (μ1.2 0 4) _ = _
  rw [rd hr1 (rt_0_4 P Q), bR_s, bM_s]
  rfl
theorem sit_m {P Q : Nat} {μ : Mm} {h : Hs} {b : Bt} {U M : Nat → Bt} {N : Nat → Nat → Nat} (m : MA μ h b U M N) (hk : hok h) (hb : bok h b) (hs : b 7 0 + 1 ≤ 9100) (hr : μ.2 = RFt P Q) :
    ∃ μ', f_X10_sit μ 107 = some μ' ∧ Ag μ μ' (fun a => a = 112 ∨ a = 120) ∧ MA μ' h (sitB h b) U M N := by
  have hM7 := hk.2.2.2.1
  have h35 : μ.1 112 35 = nI (b 7 0) := m.2.1.2.1
  have g0 : Ag μ (up2 μ.1 112 35 (nI (b 7 0 + 1)), μ.2) (fun a => a = 112) := Ag.up rfl
  have mb0 : MB (up2 μ.1 112 35 (nI (b 7 0 + 1)), μ.2) 112 0 h (up2 b 7 0 (b 7 0 + 1)) := by
    refine ⟨fun p hp i hi => ?_, rfl, ?_⟩
    · show up2 μ.1 112 35 _ 112 (0 + (5 * p + i)) = nI (up2 b 7 0 _ p i)
      rw [up2_nk (by omega), up2_na (by omega)]
      exact m.2.1.1 p hp i hi
    · exact m.2.1.2.2
  have hb0 : bok h (up2 b 7 0 (b 7 0 + 1)) := ⟨fun p hp i hi => by rw [up2_na (by omega)]; exact hb.1 p hp i hi, hs, hb.2.2⟩
  have hst : ∀ i, stand h (up2 b 7 0 (b 7 0 + 1)) i = stand h b i := fun i => stand_cg (fun p hp => up2_na (by omega))
  obtain ⟨μ1, e1, e2, e3⟩ := mstandNow_eq (P := P) (Q := Q) (μ := (up2 μ.1 112 35 (nI (b 7 0 + 1)), μ.2)) hk hb0 hr (m.1.ag g0 (by decide) (by decide) (by decide) (by decide) (by decide)) mb0
  have hfg : figs (stand h (up2 b 7 0 (b 7 0 + 1))) (hN h) = fgB h b := figs_cong (fun i _ => hst i)
  rw [hfg] at e1
  have hr1 : μ1.2 = RFt P Q := e2.1.trans hr
  have g1 : Ag μ1 (up2 μ1.1 112 36 (nI (fgB h b)), μ1.2) (fun a => a = 112) := Ag.up rfl
  have gA : Ag μ (up2 μ1.1 112 36 (nI (fgB h b)), μ1.2) (fun a => a = 112 ∨ a = 120) := ((g0.wk (fun a q => Or.inl q)).tr (e2.wk (fun a q => Or.inr q))).tr (g1.wk (fun a q => Or.inl q))
  have m1 : MA μ1 h (up2 b 7 0 (b 7 0 + 1)) U M N := (m.bl (μ' := (up2 μ.1 112 35 (nI (b 7 0 + 1)), μ.2)) (fun a h1 h2 => g0.2 a h2) (fun k _ => rfl) mb0).sc (fun a h1 h2 => e2.2 a (by omega)) (fun k _ => by rw [e2.2 107 (by decide)])
  refine ⟨(up2 μ1.1 112 36 (nI (fgB h b)), μ1.2), ?_, gA, m1.bl (fun a h1 h2 => g1.2 a h2) (fun k _ => rfl) ⟨fun p hp i hi => ?_, ?_, ?_⟩⟩
  · unfold f_X10_sit
    rw [rd hr (rt_107_8 P Q), bR_s, show ckb (35 : Int32) (ln 112) = true from by decide, gd_t, gd_t]
    show bM (up2 μ.1 112 35 (μ.1 112 35 + 1), μ.2) _ = _
    rw [h35, nI_p1, bM_s]
    show bR (μ.2 107 8) _ = _
    rw [rd hr (rt_107_8 P Q), bR_s, e1, bC_s, show ckb (36 : Int32) (ln 112) = true from by decide, gd_t, bM_s]
    rfl
  · show up2 μ1.1 112 36 _ 112 (0 + (5 * p + i)) = nI (sitB h b p i)
    rw [up2_nk (by omega), sitB_p (by omega)]
    have := m1.2.1.1 p hp i hi
    rw [up2_na (by omega)] at this
    exact this
  · show μ1.1 112 35 = nI (b 7 0 + 1)
    exact m1.2.1.2.1
  · show nI (fgB h b) = nI (fgB h b + 1) - 1
    rw [nI_sub1]
theorem isThere_eq {P : Nat} {μ : Mm} {h : Hs} (hk : hok h) (c : CH μ P h) : f_X4_isThere μ P = some (if hC h = 0 then 0 else 1, μ) := by
  have := hk.1
  unfold f_X4_isThere
  rw [c.1]
  by_cases q : hC h = 0
  · rw [if_pos q, if_pos (by rw [q]; decide)]
  · rw [if_neg q, if_neg (nI_nle (by omega) (by omega))]
theorem le9000 {v : Nat} (hv : v ≤ 9100) : nI v ≤ (9000 : Int32) ↔ v ≤ 9000 := by
  constructor
  · intro q
    by_cases c : v ≤ 9000
    · exact c
    · exact absurd q (show ¬ nI v ≤ nI 9000 from nI_ge (by omega) (by omega))
  · intro q
    exact (show nI v ≤ nI 9000 from nI_le q (by omega))
theorem isPerson_h {h : Hs} {μ : Mm} (hk : hok h) (m : MH μ h) (x : Int32) : f_X10_isPerson μ 107 x = some (bz (inI x (hM h)), μ) := by
  unfold f_X10_isPerson
  rw [m.2.2.2.2.1, in_n μ x (by have := hk.2.2.2.1; omega), bC_s, ckz_bz, gd_t]
theorem isItem_h {h : Hs} {μ : Mm} (hk : hok h) (m : MH μ h) (x : Int32) : f_X10_isItem μ 107 x = some (bz (inI x (hN h)), μ) := by
  unfold f_X10_isItem
  rw [m.2.2.2.1, in_n μ x (by have := hk.2.2.1; omega), bC_s, ckz_bz, gd_t]
theorem st_session : Sp0 Inv f_X9_session f_X10_session := by
  intro μ hI
  obtain ⟨σ, P, Q, y⟩ := id hI
  have hr := y.2.1
  have hC5 := y.hk.1
  obtain ⟨o1, o2, o3, o4, o5, o6, o7, o8, o9⟩ := y.2.2.1
  have h35 : μ.1 112 35 = nI (sB σ 7 0) := y.ma.2.1.2.1
  unfold f_X9_session f_X10_session
  rw [rd hr (rt_p P Q), bR_s, isThere_eq o1 y.ch, bC_s]
  by_cases q : hC (sH σ) = 0
  · rw [if_pos q, if_pos rfl]
    refine ⟨_, μ, μ, rfl, ?_, hI⟩
    rw [y.mh.1, if_pos (by rw [q]; rfl)]
  · rw [if_neg q, if_neg (by decide), rd hr (rt_0_4 P Q), bR_s, y.cb.2.1]
    by_cases r : sB σ 7 0 ≤ 9000
    · obtain ⟨μ1, e1, e2, e3⟩ := rem_c y.ca y.p hr o3.1 o4
      have hr1 := e2.1.trans hr
      obtain ⟨μ2, d1, d2, d3⟩ := sit_c e3 y.p o1 hr1
      have g1 : Ag μ μ2 XC := (e2.wk (fun a q => by omega)).tr (d2.wk (fun a q => by omega))
      have m0 := y.ma1 g1
      have hr2 : μ2.2 = RFt P Q := g1.1.trans hr
      obtain ⟨μ3, f1, f2, f3, f4⟩ := rem_m (nx := (σ.2 0 5 + 1) % 20) m0 o1.2.2.2.1 hr2 o3.1
      have hr3 := f2.1.trans hr2
      obtain ⟨μ4, k1, k2, k3⟩ := sit_m f4 o1 o2 (by omega) hr3
      have hr4 := k2.1.trans hr3
      have g2 : Ag μ2 μ4 XM := (f2.wk (fun a q => by omega)).tr (k2.wk (fun a q => by omega))
      have y2 := y.step g1 d3 g2 (by rw [k2.2 107 (by decide), f3 12 (by decide)]) k3 ⟨o1, sit_ok o1 o2 (by omega), ⟨rl_le o3.1, rU_ok o3.1 o2 o3.2⟩, Nat.mod_lt _ (by decide), o5, o6, o7, o8, o9⟩
      rw [if_pos ((le9000 (by omega)).mpr r), rd hr (rt_0_5 P Q), bR_s, bR_s, e1, bV_s, d1, bC_s]
      refine ⟨_, μ2, μ4, rfl, ?_, y2.i⟩
      have h35' : μ2.1 112 35 = nI (sB σ 7 0) := m0.2.1.2.1
      rw [m0.1.1, if_neg (fun w => nI_ne0 (show 0 < hC (sH σ) by omega) (by omega) w), rd hr2 (rt_107_8 P Q), bR_s, show ckb (35 : Int32) (ln 112) = true from by decide, gd_t]
      show (if μ2.1 112 35 ≤ 9000 then _ else _) = _
      rw [h35', if_pos ((le9000 (by omega)).mpr r), f1, bV_s, k1, bV_s, rd hr4 (rt_107_8 P Q), bR_s, show ckb (36 : Int32) (ln 112) = true from by decide, gd_t]
      have h36 : μ4.1 112 36 = nI (fgB (sH σ) (sB σ) + 1) - 1 := k3.2.1.2.2
      show some (μ4.1 112 36, μ4) = _
      rw [h36, nI_sub1]
    · rw [if_neg (fun w => r ((le9000 (by have := o2.2.1; omega)).mp w))]
      refine ⟨_, μ, μ, rfl, ?_, hI⟩
      rw [y.mh.1, if_neg (fun w => nI_ne0 (show 0 < hC (sH σ) by omega) (by omega) w), rd hr (rt_107_8 P Q), bR_s, show ckb (35 : Int32) (ln 112) = true from by decide, gd_t]
      show (if μ.1 112 35 ≤ 9000 then _ else _) = _
      rw [h35, if_neg (fun w => r ((le9000 (by have := o2.2.1; omega)).mp w))]
theorem MB.put {μ : Mm} {h : Hs} {b : Bt} {p i : Nat} (v : Nat) (hb : MB μ 112 0 h b) (hM7 : hM h ≤ 7) (hp : p < hM h) (hi : i < 5) : MB (up2 μ.1 112 (5 * p + i) (nI v), μ.2) 112 0 h (up2 b p i v) := by
  refine ⟨fun p' hp' i' hi' => ?_, ?_, ?_⟩
  · show up2 μ.1 112 (5 * p + i) (nI v) 112 (0 + (5 * p' + i')) = nI (up2 b p i v p' i')
    by_cases q : p' = p ∧ i' = i
    · rw [q.1, q.2, Nat.zero_add, up2_at, up2_at]
    · rw [up2_nk (by omega), show up2 b p i v p' i' = b p' i' from if_neg q]
      exact hb.1 p' hp' i' hi'
  · show up2 μ.1 112 (5 * p + i) (nI v) 112 35 = nI (up2 b p i v 7 0)
    rw [up2_nk (by omega), up2_na (by omega)]
    exact hb.2.1
  · show up2 μ.1 112 (5 * p + i) (nI v) 112 36 = nI (up2 b p i v 7 1) - 1
    rw [up2_nk (by omega), up2_na (by omega)]
    exact hb.2.2
theorem bok_put {h : Hs} {b : Bt} {p i v : Nat} (hb : bok h b) (hp : p < 7) (hv : v ≤ 2) : bok h (up2 b p i v) := by
  refine ⟨fun p' hp' i' hi' => ?_, ?_, ?_⟩
  · by_cases q : p' = p ∧ i' = i
    · rw [q.1, q.2, up2_at]; exact hv
    · rw [show up2 b p i v p' i' = b p' i' from if_neg q]
      exact hb.1 p' hp' i' hi'
  · rw [up2_na (by omega)]; exact hb.2.1
  · rw [up2_na (by omega)]; exact hb.2.2
theorem st_vote : Sp3 Inv f_X9_vote f_X10_vote := by
  intro μ x t w hI
  obtain ⟨σ, P, Q, y⟩ := id hI
  have hr := y.2.1
  have hN5 := y.hk.2.2.1
  have hM7 := y.hk.2.2.2.1
  obtain ⟨o1, o2, o3, o4, o5, o6, o7, o8, o9⟩ := y.2.2.1
  unfold f_X9_vote f_X10_vote
  rw [rd hr (rt_p P Q), bR_s, hasPerson_eq y, bC_s]
  by_cases c : inI x (hM (sH σ)) = true
  · obtain ⟨p, hp, rfl⟩ := inI_j c (by omega)
    rw [if_neg (bz_t c), rd hr (rt_p P Q), bR_s, hasItem_eq y, bC_s]
    by_cases c2 : inI t (hN (sH σ)) = true
    · obtain ⟨i, hi, rfl⟩ := inI_j c2 (by omega)
      rw [if_neg (bz_t c2), lit_in w 2 2 rfl (by decide)]
      by_cases c3 : inI w 3 = true
      · obtain ⟨v, hv, rfl⟩ := inI_j c3 (by decide)
        obtain ⟨μ1, e1, e2, e3⟩ := rem_c y.ca y.p hr o3.1 o4
        have hr1 := e2.1.trans hr
        obtain ⟨μ2, d1, d2, d3⟩ := put_eq (v := v) bal_19 hr1 hM7 e3.2.1 hp (show i < 5 by omega) (by omega)
        have hr2 := d2.1.trans hr1
        have cA := e3.bl y.p (fun a _ q => d2.2 a (by omega)) d3
        have g1 : Ag μ μ2 XC := (e2.wk (fun a q => by omega)).tr (d2.wk (fun a q => by omega))
        have m0 := y.ma1 g1
        obtain ⟨μ3, f1, f2, f3, f4⟩ := rem_m (nx := (σ.2 0 5 + 1) % 20) m0 hM7 hr2 o3.1
        have hr3 := f2.1.trans hr2
        have g3 : Ag μ3 (up2 μ3.1 112 (5 * p + i) (nI v), μ3.2) (fun a => a = 112) := Ag.up rfl
        have mA := f4.bl (μ' := (up2 μ3.1 112 (5 * p + i) (nI v), μ3.2)) (fun a h1 h2 => g3.2 a h2) (fun k _ => rfl) (f4.2.1.put v hM7 hp (by omega))
        have g2 : Ag μ2 (up2 μ3.1 112 (5 * p + i) (nI v), μ3.2) XM := (f2.wk (fun a q => by omega)).tr (g3.wk (fun a q => by omega))
        have hb2 := bok_put (i := i) o2 (show p < 7 by omega) (show v ≤ 2 by omega)
        have y2 := y.step g1 cA g2 (by show μ3.1 107 12 = _; rw [f3 12 (by decide)]) mA ⟨o1, hb2, ⟨rl_le o3.1, rU_ok o3.1 o2 o3.2⟩, Nat.mod_lt _ (by decide), o5, o6, o7, o8, o9⟩
        rw [if_pos c3, rd hr (rt_0_5 P Q), bR_s, rd hr (rt_0_4 P Q), bR_s, e1, bV_s, rd hr1 (rt_0_4 P Q), bR_s, d1, bV_s, rd hr2 (rt_0_4 P Q), bR_s, standOf_eq hr2 bal_19 hM7 d3 (by omega), bC_s]
        refine ⟨_, μ2, _, rfl, ?_, y2.i⟩
        rw [isPerson_h o1 m0.1, bC_s, if_neg (bz_t c), isItem_h o1 m0.1, bC_s, if_neg (bz_t c2), in_lit μ2 _ 2 2 rfl (by decide), bC_s, if_neg (bz_t c3), f1, bV_s, rd hr3 (rt_107_8 P Q), bR_s, nI_5, ckb_n (show 5 * p + i < ln 112 by show _ < 37; omega) (by decide), gd_t, nI_clamp (by omega), bM_s, mstandOf_eq (μ := (up2 μ3.1 112 (5 * p + i) (nI v), μ3.2)) (P := P) (Q := Q) hr3 hM7 mA.1.2.2.2.2.1 mA.2.1 hb2 (show i < 5 by omega), bC_s]
      · rw [if_neg c3]
        refine ⟨_, μ, μ, rfl, ?_, hI⟩
        rw [isPerson_eq y, bC_s, if_neg (bz_t c), isItem_eq y, bC_s, if_neg (bz_t c2), in_lit μ w 2 2 rfl (by decide), bC_s, if_pos (bz_f (by simpa using c3))]
    · rw [if_pos (bz_f (by simpa using c2))]
      refine ⟨_, μ, μ, rfl, ?_, hI⟩
      rw [isPerson_eq y, bC_s, if_neg (bz_t c), isItem_eq y, bC_s, if_pos (bz_f (by simpa using c2))]
  · rw [if_pos (bz_f (by simpa using c))]
    refine ⟨_, μ, μ, rfl, ?_, hI⟩
    rw [isPerson_eq y, bC_s, if_pos (bz_f (by simpa using c))]
/-! undo -/
theorem tb_i {nx : Nat} (h : nx < 20) : nI nx + (20 : Int32) - (1 : Int32) = nI (nx + 19) := by
  show nI nx + nI 20 - 1 = _
  rw [nI_add]
  exact nI_sub1 (nx + 19)
theorem back_c {P Q : Nat} {μ : Mm} {h : Hs} {b : Bt} {U M : Nat → Bt} {N : Nat → Nat → Nat} (c : CA P μ h b U M N) (hP : P = 3 ∨ P = 11) (hr : μ.2 = RFt P Q) (hul : N 0 0 ≤ 20) (h0 : 0 < N 0 0) (hnx : N 0 5 < 20) :
    ∃ μ', f_X3_takeBack μ 22 19 = some μ' ∧ Ag μ μ' (fun a => 19 ≤ a ∧ a ≤ 83) ∧ CA P μ' h (U (N 0 0 - 1)) U M (up2 (up2 N 0 0 (N 0 0 - 1)) 0 5 ((N 0 5 + 19) % 20)) := by
  obtain ⟨p1, p2, p3⟩ := c.2.2.1
  have hlt : (N 0 5 + 19) % 20 < 20 := Nat.mod_lt _ (by decide)
  obtain ⟨μ1, e1, e2, e3⟩ := copy_eq (a := 19) (c := 24 + 3 * ((N 0 5 + 19) % 20)) bal_19 (bal_u hlt) (Or.inl (by omega)) hr
  have hrg : ring (N 0 5) (N 0 0) (N 0 0 - 1) = (N 0 5 + 19) % 20 := by unfold ring; omega
  have hcb := e3 h (U (N 0 0 - 1)) (by have := p3 (N 0 0 - 1) (by omega); rw [hrg] at this; exact this)
  have f22 : μ1.1 22 = μ.1 22 := e2.2 22 (by omega)
  have c1 := c.bl hP (fun a _ q => e2.2 a (by omega)) hcb
  have g2 : Ag μ1 (up2 (up2 μ1.1 22 2 (nI ((N 0 5 + 19) % 20))) 22 1 (nI (N 0 0 - 1)), μ1.2) (fun a => a = 22) := (Ag.up (X := fun a => a = 22) rfl).u1 rfl
  refine ⟨(up2 (up2 μ1.1 22 2 (nI ((N 0 5 + 19) % 20))) 22 1 (nI (N 0 0 - 1)), μ1.2), ?_, (e2.wk (fun a q => by omega)).tr (g2.wk (fun a q => by omega)), c1.un hP (fun a _ q => g2.2 a (by omega)) ⟨rfl, rfl, fun j hj => ?_⟩⟩
  · unfold f_X3_takeBack
    rw [p2, tb_i hnx, rem20 (by omega), bI_s, rowAt_eq hr hlt, bC_s, bN_s, p1, if_neg (nI_nle h0 (by omega)), e1, bV_s, bM_s]
    show bM (up2 (up2 μ1.1 22 2 (nI ((N 0 5 + 19) % 20))) 22 1 (μ1.1 22 1 - 1), μ1.2) _ = _
    have hs := nI_sub1 (N 0 0 - 1)
    rw [show N 0 0 - 1 + 1 = N 0 0 by omega] at hs
    rw [f22, p1, hs, bM_s]
  · have hr2 := ring_lt (N 0 5) (N 0 0) j
    rw [show ring ((N 0 5 + 19) % 20) (N 0 0 - 1) j = ring (N 0 5) (N 0 0) j by unfold ring; omega]
    exact (c1.2.2.1.2.2 j (by omega)).cg (g2.2 _ (by omega)) (g2.2 _ (by omega)) (g2.2 _ (by omega))
theorem ucp_loop {P Q ul : Nat} (hul : ul < 20) : ∀ (m k f : Nat) (μ : Mm), k + m = 37 → m < f → μ.2 = RFt P Q → μ.1 107 27 = nI ul →
    ∃ μ', f_X10_undo_L22 f μ 107 (nI k) = some (nI ul, μ') ∧ Ag μ μ' (fun a => a = 112) ∧ ∀ j, μ'.1 112 j = if k ≤ j ∧ j < 37 then μ.1 122 (37 * ul + j) else μ.1 112 j := by
  intro m
  induction m with
  | zero =>
    intro k f μ hm hf hr h27
    obtain ⟨f, rfl⟩ := fs1 hf
    refine ⟨μ, ?_, Ag.rf, fun j => ?_⟩
    · show f_X10_undo_L22b _ _ _ _ = _
      unfold f_X10_undo_L22b
      rw [show k = 37 by omega, if_pos (by decide), h27]
    · rw [if_neg (by omega)]
  | succ m ih =>
    intro k f μ hm hf hr h27
    obtain ⟨f, rfl⟩ := fs1 hf
    have g : Ag μ (up2 μ.1 112 k (μ.1 122 (37 * ul + k)), μ.2) (fun a => a = 112) := Ag.up rfl
    obtain ⟨μ', e1, e2, e3⟩ := ih (k + 1) f (up2 μ.1 112 k (μ.1 122 (37 * ul + k)), μ.2) (by omega) (by omega) hr h27
    refine ⟨μ', ?_, g.tr e2, fun j => ?_⟩
    · show f_X10_undo_L22b _ _ _ _ = _
      unfold f_X10_undo_L22b
      rw [if_neg (show ¬ (37 : Int32) ≤ nI k from nI_ge (b := 37) (by omega) (by omega)), rd hr (rt_107_8 P Q), bR_s, rd hr (rt_107_28 P Q), bR_s, h27, nI_37, ckb_n (show 37 * ul + k < ln 122 by show _ < 740; omega) (by decide), gd_t, ckb_n (show k < ln 112 by show k < 37; omega) (by decide), gd_t, bM_s, nI_clamp (by omega), nI_clamp (by omega), nI_p1]
      exact e1
    · rw [e3 j]
      show (if k + 1 ≤ j ∧ j < 37 then μ.1 122 (37 * ul + j) else up2 μ.1 112 k (μ.1 122 (37 * ul + k)) 112 j) = _
      by_cases q : j = k
      · rw [if_neg (by omega), if_pos (by omega), q, up2_at]
      · rw [up2_nk q]
        by_cases r : k ≤ j ∧ j < 37
        · rw [if_pos r, if_pos (by omega)]
        · rw [if_neg r, if_neg (by omega)]
theorem st_undo : Sp0 Inv f_X9_undo f_X10_undo := by
  intro μ hI
  obtain ⟨σ, P, Q, y⟩ := id hI
  have hr := y.2.1
  have hM7 := y.hk.2.2.2.1
  obtain ⟨o1, o2, o3, o4, o5, o6, o7, o8, o9⟩ := y.2.2.1
  have h22 : μ.1 22 1 = nI (σ.2 0 0) := y.ca.2.2.1.1
  have h27 : μ.1 107 27 = nI (σ.2 0 0) := y.ma.2.2.1.1
  unfold f_X9_undo f_X10_undo
  rw [rd hr (rt_0_5 P Q), bR_s, h22]
  by_cases q : 0 < σ.2 0 0
  · obtain ⟨μ1, e1, e2, e3⟩ := back_c y.ca y.p hr o3.1 q o4
    have hr1 := e2.1.trans hr
    have g1 : Ag μ μ1 XC := e2.wk (fun a q => by omega)
    have m0 := y.ma1 g1
    have hs := nI_sub1 (σ.2 0 0 - 1)
    rw [show σ.2 0 0 - 1 + 1 = σ.2 0 0 by omega] at hs
    have ga : Ag μ1 (up2 μ1.1 107 27 (nI (σ.2 0 0 - 1)), μ1.2) XM := Ag.up (Nat.le_refl _)
    obtain ⟨μ2, d1, d2, d3⟩ := ucp_loop (P := P) (Q := Q) (ul := σ.2 0 0 - 1) (by have := o3.1; omega) 37 0 FU (up2 μ1.1 107 27 (nI (σ.2 0 0 - 1)), μ1.2) (by omega) (by rw [FU_eq]; omega) hr1 rfl
    have mU := m0.un (μ' := (up2 μ1.1 107 27 (nI (σ.2 0 0 - 1)), μ1.2)) (ul := σ.2 0 0 - 1) (nx := (σ.2 0 5 + 19) % 20) (U' := sU σ) (fun a h1 h2 => up2_ne (by omega)) (fun k hk => up2_nk hk) ⟨rfl, fun j hj => (m0.2.2.1.2 j (by omega)).cg rfl⟩
    have mA := mU.bl (μ' := μ2) (b' := sU σ (σ.2 0 0 - 1)) (fun a h1 h2 => d2.2 a h2) (fun k _ => by rw [d2.2 107 (by decide)]) ((m0.2.2.1.2 (σ.2 0 0 - 1) (by omega)).mv hM7 (fun t ht => by rw [d3, if_pos (by omega), Nat.zero_add]; rfl))
    have g2 : Ag μ1 μ2 XM := ga.tr (d2.wk (fun a q => by omega))
    have y2 := y.step g1 e3 g2 (by rw [d2.2 107 (by decide)]; rfl) mA ⟨o1, o3.2 _ (by omega), ⟨show σ.2 0 0 - 1 ≤ 20 by have := o3.1; omega, fun j (hj : j < σ.2 0 0 - 1) => o3.2 j (by omega)⟩, Nat.mod_lt _ (by decide), o5, o6, o7, o8, o9⟩
    have h1 : μ1.1 22 1 = nI (σ.2 0 0 - 1) := e3.2.2.1.1
    rw [if_pos (show (0 : Int32) < nI (σ.2 0 0) from nI_lt (a := 0) q (by have := o3.1; omega)), bR_s, rd hr (rt_0_4 P Q), bR_s, e1, bV_s, rd hr1 (rt_0_5 P Q), bR_s, h1]
    refine ⟨_, μ1, μ2, rfl, ?_, y2.i⟩
    rw [m0.2.2.1.1, if_neg (fun w => nI_ne0 q (by have := o3.1; omega) w), hs, bM_s]
    exact d1
  · have q0 : σ.2 0 0 = 0 := by omega
    rw [if_neg (show ¬ (0 : Int32) < nI (σ.2 0 0) by rw [q0]; decide)]
    refine ⟨_, μ, μ, rfl, ?_, hI⟩
    rw [h27, if_pos (by rw [q0]; rfl)]
