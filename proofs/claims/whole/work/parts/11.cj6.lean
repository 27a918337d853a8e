theorem hn_J6_bitCount_0f7a4 : yJ6_bitCount_0f7a4.cls ≠ "java/lang/invoke/MethodHandle" ∧ yJ6_bitCount_0f7a4.cls ≠ "java/lang/invoke/VarHandle" ∧ (parseMethodDescriptor yJ6_bitCount_0f7a4.desc).map (fun d => d.parameters.length) = some 1 := by decide +kernel
def f_J6_bitCount_0f7a4 (μ : Mm) (x0 : Int32) : Option (Int32 × Mm) := bI (x0 - (((x0.toUInt32 >>> ((1 : Int32).toUInt32 &&& Int32.toUInt32 31)).toInt32) &&& (1431655765 : Int32))) (fun v1 => bI ((v1 &&& (858993459 : Int32)) + (((v1.toUInt32 >>> ((2 : Int32).toUInt32 &&& Int32.toUInt32 31)).toInt32) &&& (858993459 : Int32))) (fun v2 => bI ((v2 + ((v2.toUInt32 >>> ((4 : Int32).toUInt32 &&& Int32.toUInt32 31)).toInt32)) &&& (252645135 : Int32)) (fun v3 => bI (v3 + ((v3.toUInt32 >>> ((8 : Int32).toUInt32 &&& Int32.toUInt32 31)).toInt32)) (fun v4 => bI (v4 + ((v4.toUInt32 >>> ((16 : Int32).toUInt32 &&& Int32.toUInt32 31)).toInt32)) (fun v5 => some (v5 &&& (63 : Int32), μ))))))
set_option maxRecDepth 100000 in
theorem c_J6_bitCount_0f7a4 {l : Launch} {D : va_G} {cA : Nat → ClassId} {z : Nat} {μ : Mm} {x0 : Int32} {r : Int32} {μ' : Mm} (h : f_J6_bitCount_0f7a4 μ x0 = some (r, μ')) : Ct l D cA z yJ6_bitCount_0f7a4 wsJ6_bitCount_0f7a4 0 0 [.int x0] μ (some (.int r)) μ' := by
  refine m_in (cc := cJ6_bitCount_0f7a4) (maxL := 1) (ret := (some .int)) (own := RJ6) (by decide) rfl rfl (Nat.le_of_ble_eq_true rfl) ?_
  intro p e s m below meth c ls X hd hS hl
  obtain ⟨hx, hb, hr, hlk, hml, hown, hts, hK⟩ := id X
  have hl : lv_has ls 1 [(0, .int x0)] := hl
  unfold f_J6_bitCount_0f7a4 at h
  refine lv_iload_n hx hb dJ6_bitCount_0f7a4_0 rfl (lv_at hl 0 rfl) ?_
  refine lv_iload_n hx hb dJ6_bitCount_0f7a4_1 rfl (lv_at hl 0 rfl) ?_
  refine lv_iconst (v := 1) hx hb dJ6_bitCount_0f7a4_2 (by decide) ?_
  refine lv_iushr hx hb dJ6_bitCount_0f7a4_3 rfl ?_
  refine lv_ldcw (v := 1431655765) hx hb hown (hts (.constant RJ6 265 (1431655765)) (List.mem_of_getElem? (i := 1) rfl)) dJ6_bitCount_0f7a4_4 ?_
  refine lv_iand hx hb dJ6_bitCount_0f7a4_7 ?_
  refine lv_isub hx hb dJ6_bitCount_0f7a4_8 ?_
  refine lv_topi (fun v1 ev1 => ?_)
  have h := bI_e ev1 h
  refine lv_istore_n (lv' := [(0, .int v1)]) hx hb dJ6_bitCount_0f7a4_9 rfl hl (by decide) rfl (fun ls hl => ?_)
  refine lv_iload_n hx hb dJ6_bitCount_0f7a4_10 rfl (lv_at hl 0 rfl) ?_
  refine lv_ldcw (v := 858993459) hx hb hown (hts (.constant RJ6 266 (858993459)) (List.mem_of_getElem? (i := 2) rfl)) dJ6_bitCount_0f7a4_11 ?_
  refine lv_iand hx hb dJ6_bitCount_0f7a4_14 ?_
  refine lv_iload_n hx hb dJ6_bitCount_0f7a4_15 rfl (lv_at hl 0 rfl) ?_
  refine lv_iconst (v := 2) hx hb dJ6_bitCount_0f7a4_16 (by decide) ?_
  refine lv_iushr hx hb dJ6_bitCount_0f7a4_17 rfl ?_
  refine lv_ldcw (v := 858993459) hx hb hown (hts (.constant RJ6 266 (858993459)) (List.mem_of_getElem? (i := 2) rfl)) dJ6_bitCount_0f7a4_18 ?_
  refine lv_iand hx hb dJ6_bitCount_0f7a4_21 ?_
  refine lv_iadd hx hb dJ6_bitCount_0f7a4_22 ?_
  refine lv_topi (fun v2 ev2 => ?_)
  have h := bI_e ev2 h
  refine lv_istore_n (lv' := [(0, .int v2)]) hx hb dJ6_bitCount_0f7a4_23 rfl hl (by decide) rfl (fun ls hl => ?_)
  refine lv_iload_n hx hb dJ6_bitCount_0f7a4_24 rfl (lv_at hl 0 rfl) ?_
  refine lv_iload_n hx hb dJ6_bitCount_0f7a4_25 rfl (lv_at hl 0 rfl) ?_
  refine lv_iconst (v := 4) hx hb dJ6_bitCount_0f7a4_26 (by decide) ?_
  refine lv_iushr hx hb dJ6_bitCount_0f7a4_27 rfl ?_
  refine lv_iadd hx hb dJ6_bitCount_0f7a4_28 ?_
  refine lv_ldcw (v := 252645135) hx hb hown (hts (.constant RJ6 267 (252645135)) (List.mem_of_getElem? (i := 3) rfl)) dJ6_bitCount_0f7a4_29 ?_
  refine lv_iand hx hb dJ6_bitCount_0f7a4_32 ?_
  refine lv_topi (fun v3 ev3 => ?_)
  have h := bI_e ev3 h
  refine lv_istore_n (lv' := [(0, .int v3)]) hx hb dJ6_bitCount_0f7a4_33 rfl hl (by decide) rfl (fun ls hl => ?_)
  refine lv_iload_n hx hb dJ6_bitCount_0f7a4_34 rfl (lv_at hl 0 rfl) ?_
  refine lv_iload_n hx hb dJ6_bitCount_0f7a4_35 rfl (lv_at hl 0 rfl) ?_
  refine lv_bipush (v := 8) hx hb dJ6_bitCount_0f7a4_36 (by decide) ?_
  refine lv_iushr hx hb dJ6_bitCount_0f7a4_38 rfl ?_
  refine lv_iadd hx hb dJ6_bitCount_0f7a4_39 ?_
  refine lv_topi (fun v4 ev4 => ?_)
  have h := bI_e ev4 h
  refine lv_istore_n (lv' := [(0, .int v4)]) hx hb dJ6_bitCount_0f7a4_40 rfl hl (by decide) rfl (fun ls hl => ?_)
  refine lv_iload_n hx hb dJ6_bitCount_0f7a4_41 rfl (lv_at hl 0 rfl) ?_
  refine lv_iload_n hx hb dJ6_bitCount_0f7a4_42 rfl (lv_at hl 0 rfl) ?_
  refine lv_bipush (v := 16) hx hb dJ6_bitCount_0f7a4_43 (by decide) ?_
  refine lv_iushr hx hb dJ6_bitCount_0f7a4_45 rfl ?_
  refine lv_iadd hx hb dJ6_bitCount_0f7a4_46 ?_
  refine lv_topi (fun v5 ev5 => ?_)
  have h := bI_e ev5 h
  refine lv_istore_n (lv' := [(0, .int v5)]) hx hb dJ6_bitCount_0f7a4_47 rfl hl (by decide) rfl (fun ls hl => ?_)
  refine lv_iload_n hx hb dJ6_bitCount_0f7a4_48 rfl (lv_at hl 0 rfl) ?_
  refine lv_bipush (v := 63) hx hb dJ6_bitCount_0f7a4_49 (by decide) ?_
  refine lv_iand hx hb dJ6_bitCount_0f7a4_51 ?_
  obtain ⟨rfl, rfl⟩ := so_e h
  exact rt_i hx hb hr hlk hd hS dJ6_bitCount_0f7a4_52
theorem hn_J7_fill_53178 : yJ7_fill_53178.cls ≠ "java/lang/invoke/MethodHandle" ∧ yJ7_fill_53178.cls ≠ "java/lang/invoke/VarHandle" ∧ (parseMethodDescriptor yJ7_fill_53178.desc).map (fun d => d.parameters.length) = some 2 := by decide +kernel
abbrev HL_J7_fill_53178_5 (l : Launch) (D : va_G) (cA : Nat → ClassId) (z : Nat) (av : List Value) (μ' : Mm) (p : Program) (e : Env) (s : State) (m : MethodId) (below : List Frame) (meth : Method) (c : Code) (rc : Mm → Nat → Int32 → Int32 → Int32 → Option Mm) : Prop := ∀ (μ : Mm) (H : Heap) (locs : List Loc) (ls : Array Slot) (a0 : Nat) (x1 : Int32) (x2 : Int32) (x3 : Int32), kd a0 = 11 → Wd D cA z μ H → va_S (Az z) s.heap H locs → lv_has ls 4 [(0, .ref (z + a0)), (1, .int x1), (2, .int x2), (3, .int x3)] → rc μ a0 x1 x2 x3 = some μ' → WG l D cA z wsJ7_fill_53178 0 0 av none μ' p e s m below meth c H locs (F0 m 5 ls [])
def f_J7_fill_53178_L5b (rc5 : Mm → Nat → Int32 → Int32 → Int32 → Option Mm) (μ : Mm) (a0 : Nat) (x1 : Int32) (x2 : Int32) (x3 : Int32) : Option Mm := if x3 ≤ x2 then (some μ) else (gd (ckb x2 (ln a0)) (bM (up2 μ.1 a0 (x2).toNatClampNeg x1, μ.2) (fun μ3 => rc5 μ3 a0 x1 (x2 + (1 : Int32)) x3)))
set_option maxRecDepth 100000 in
theorem k_f_J7_fill_53178_L5b {l : Launch} {D : va_G} {cA : Nat → ClassId} {z : Nat} {av : List Value} {p : Program} {e : Env} {s : State} {m : MethodId} {below : List Frame} {meth : Method} {c : Code} {μ' : Mm} (X : Fx D cA RJ7 wsJ7_fill_53178 cJ7_fill_53178 4 none p s m av.toArray meth c) {rc5 : Mm → Nat → Int32 → Int32 → Int32 → Option Mm} (hrc5 : HL_J7_fill_53178_5 l D cA z av μ' p e s m below meth c rc5) {μ : Mm} {a0 : Nat} {x1 : Int32} {x2 : Int32} {x3 : Int32} (hk_a0 : kd a0 = 11) {H : Heap} {locs : List Loc} {ls : Array Slot} (hd : Wd D cA z μ H) (hS : va_S (Az z) s.heap H locs) (hl : lv_has ls 4 [(0, .ref (z + a0)), (1, .int x1), (2, .int x2), (3, .int x3)]) (h : f_J7_fill_53178_L5b rc5 μ a0 x1 x2 x3 = some μ') : WG l D cA z wsJ7_fill_53178 0 0 av none μ' p e s m below meth c H locs (F0 m 5 ls []) := by
  obtain ⟨hx, hb, hr, hlk, hml, hown, hts, hK⟩ := id X
  unfold f_J7_fill_53178_L5b at h
  refine lv_iload_n hx hb dJ7_fill_53178_5 rfl (lv_at hl 2 rfl) ?_
  refine lv_iload_n hx hb dJ7_fill_53178_6 rfl (lv_at hl 3 rfl) ?_
  refine lv_icmp_ge (tgt := 20) hx hb dJ7_fill_53178_7 (by decide) (fun q1 => ?_) (fun q1 => ?_)
  · have h := if_y q1 h
    obtain rfl := sv_e h
    exact rt_v hx hb hr hlk hd hS dJ7_fill_53178_20
  · have h := if_n q1 h
    refine lv_aload_n hx hb dJ7_fill_53178_10 rfl (lv_at hl 0 rfl) ?_
    refine lv_iload_n hx hb dJ7_fill_53178_11 rfl (lv_at hl 2 rfl) ?_
    refine lv_iload_n hx hb dJ7_fill_53178_12 rfl (lv_at hl 1 rfl) ?_
    obtain ⟨g2, h⟩ := gd_e h
    refine r_iast hx hb hK hd hS hk_a0 (ckb_in g2) dJ7_fill_53178_13 (fun μ3 eμ3 H locs hd hS => ?_)
    have h := bM_e eμ3 h
    refine lv_iinc (v := x2 + (1 : Int32)) (lv' := [(2, .int (x2 + (1 : Int32))), (0, .ref (z + a0)), (1, .int x1), (3, .int x3)]) hx hb dJ7_fill_53178_14 hl (k := 2) rfl rfl (by decide) rfl (fun ls hl => ?_)
    refine lv_goto (tgt := 5) hx hb dJ7_fill_53178_17 (by decide) ?_
    exact hrc5 _ _ _ _ _ _ _ _ hk_a0 hd hS (lv_sub hl [1, 2, 0, 3] rfl) h
def f_J7_fill_53178_L5 : Nat → Mm → Nat → Int32 → Int32 → Int32 → Option Mm
  | 0 => fun _ _ _ _ _ => none
  | n + 1 => fun μ a0 x1 x2 x3 => f_J7_fill_53178_L5b (f_J7_fill_53178_L5 n) μ a0 x1 x2 x3
theorem k_f_J7_fill_53178_L5 {l : Launch} {D : va_G} {cA : Nat → ClassId} {z : Nat} {av : List Value} {p : Program} {e : Env} {s : State} {m : MethodId} {below : List Frame} {meth : Method} {c : Code} {μ' : Mm} (X : Fx D cA RJ7 wsJ7_fill_53178 cJ7_fill_53178 4 none p s m av.toArray meth c) (n : Nat) : HL_J7_fill_53178_5 l D cA z av μ' p e s m below meth c (f_J7_fill_53178_L5 n) := by
  induction n with
  | zero => intro _ _ _ _ _ _ _ _ _ _ _ _ h; have h2 : (none : Option _) = some _ := h; cases h2
  | succ n ih => intro μ H locs ls a0 x1 x2 x3 hk_a0 hd hS hl h; exact k_f_J7_fill_53178_L5b X ih hk_a0 hd hS hl h
def f_J7_fill_53178 (μ : Mm) (a0 : Nat) (x1 : Int32) : Option Mm := bI (Int32.ofNat (ln a0)) (fun v1 => f_J7_fill_53178_L5 FU μ a0 x1 (0 : Int32) v1)
set_option maxRecDepth 100000 in
theorem c_J7_fill_53178 {l : Launch} {D : va_G} {cA : Nat → ClassId} {z : Nat} {μ : Mm} {a0 : Nat} {x1 : Int32} {μ' : Mm} (hk_a0 : kd a0 = 11) (h : f_J7_fill_53178 μ a0 x1 = some μ') : Ct l D cA z yJ7_fill_53178 wsJ7_fill_53178 0 0 [.ref (z + a0), .int x1] μ none μ' := by
  refine m_in (cc := cJ7_fill_53178) (maxL := 4) (ret := none) (own := RJ7) (by decide) rfl rfl (Nat.le_of_ble_eq_true rfl) ?_
  intro p e s m below meth c ls X hd hS hl
  obtain ⟨hx, hb, hr, hlk, hml, hown, hts, hK⟩ := id X
  have hl : lv_has ls 4 [(0, .ref (z + a0)), (1, .int x1)] := hl
  unfold f_J7_fill_53178 at h
  refine lv_iconst (v := 0) hx hb dJ7_fill_53178_0 (by decide) ?_
  refine lv_istore_n (lv' := [(2, .int (0 : Int32)), (0, .ref (z + a0)), (1, .int x1)]) hx hb dJ7_fill_53178_1 rfl hl (by decide) rfl (fun ls hl => ?_)
  refine lv_aload_n hx hb dJ7_fill_53178_2 rfl (lv_at hl 1 rfl) ?_
  refine r_alen hx hb hK hd hk_a0 rfl dJ7_fill_53178_3 ?_
  refine lv_topi (fun v1 ev1 => ?_)
  have h := bI_e ev1 h
  refine lv_istore_n (lv' := [(3, .int v1), (2, .int (0 : Int32)), (0, .ref (z + a0)), (1, .int x1)]) hx hb dJ7_fill_53178_4 rfl hl (by decide) rfl (fun ls hl => ?_)
  exact k_f_J7_fill_53178_L5 X FU _ _ _ _ _ _ _ _ hk_a0 hd hS (lv_sub hl [2, 3, 1, 0] rfl) h
theorem hv_X0_clear : yX0_clear.cls = RX0 ∧ yX0_clear.cls ≠ "java/lang/invoke/MethodHandle" ∧ yX0_clear.cls ≠ "java/lang/invoke/VarHandle" ∧ (parseMethodDescriptor yX0_clear.desc).map (fun d => d.parameters.length) = some 0 := by decide +kernel
def f_X0_clear (μ : Mm) (a0 : Nat) : Option Mm := bR (μ.2 a0 0) (fun b1 => bV (f_J7_fill_53178 μ b1 (0 : Int32)) (fun μ2 => bR (μ2.2 a0 1) (fun b5 => bV (f_J7_fill_53178 μ2 b5 (0 : Int32)) (fun μ6 => bM (up2 μ6.1 a0 2 (0 : Int32), μ6.2) (fun μ9 => bM (up2 μ9.1 a0 3 (-1 : Int32), μ9.2) (fun μ10 => some μ10))))))
set_option maxRecDepth 100000 in
theorem c_X0_clear {l : Launch} {D : va_G} {cA : Nat → ClassId} {z : Nat} {μ : Mm} {a0 : Nat} {μ' : Mm} (hk_a0 : kd a0 = 0) (h : f_X0_clear μ a0 = some μ') : Ct l D cA z yX0_clear wsX0_clear 1 23 [.ref (z + a0)] μ none μ' := by
  refine m_in (cc := cX0_clear) (maxL := 1) (ret := none) (own := RX0) (by decide) rfl rfl (Nat.le_of_ble_eq_true rfl) ?_
  intro p e s m below meth c ls X hd hS hl
  obtain ⟨hx, hb, hr, hlk, hml, hown, hts, hK⟩ := id X
  have hl : lv_has ls 1 [(0, .ref (z + a0))] := hl
  unfold f_X0_clear at h
  refine lv_aload_n hx hb dX0_clear_0 rfl (lv_at hl 0 rfl) ?_
  obtain ⟨b1, hb1, h⟩ := bR_e h
  refine r_getr hx hb hts (fun w h => List.mem_cons_of_mem _ (List.mem_append_right _ (h))) hown hK hd hk_a0 hb1 rfl fs_0_0 (hts (.fieldLink RX0 9 "LevelVotes$Ballot" "yes" "[I") (List.mem_of_getElem? (i := 1) rfl)) dX0_clear_1 (fun hq => ?_)
  have hk_b1 : kd b1 = 11 := hq
  refine lv_iconst (v := 0) hx hb dX0_clear_4 (by decide) ?_
  obtain ⟨μ2, hc4, h⟩ := bV_e h
  refine rc_Sv (rest := []) [.ref (z + b1), .int (0 : Int32)] ⟨hx, hb, hml, hown, hts⟩ hK hd hS (c_J7_fill_53178 hk_b1 hc4) (va_cwS 2 hts gX0_clear_J7_fill_53178 rfl rfl rfl hn_J7_fill_53178 ⟨Nat.le_of_ble_eq_true rfl, Nat.le_of_ble_eq_true rfl⟩) rfl hl.1 rfl (Nat.le_of_ble_eq_true rfl) dX0_clear_5 ⟨Nat.zero_le _, Nat.zero_le _⟩ (fun H locs hd hS => ?_)
  refine lv_aload_n hx hb dX0_clear_8 rfl (lv_at hl 0 rfl) ?_
  obtain ⟨b5, hb5, h⟩ := bR_e h
  refine r_getr hx hb hts (fun w h => List.mem_cons_of_mem _ (List.mem_append_right _ (h))) hown hK hd hk_a0 hb5 rfl fs_0_1 (hts (.fieldLink RX0 15 "LevelVotes$Ballot" "no" "[I") (List.mem_of_getElem? (i := 2) rfl)) dX0_clear_9 (fun hq => ?_)
  have hk_b5 : kd b5 = 11 := hq
  refine lv_iconst (v := 0) hx hb dX0_clear_12 (by decide) ?_
  obtain ⟨μ6, hc8, h⟩ := bV_e h
  refine rc_Sv (rest := []) [.ref (z + b5), .int (0 : Int32)] ⟨hx, hb, hml, hown, hts⟩ hK hd hS (c_J7_fill_53178 hk_b5 hc8) (va_cwS 2 hts gX0_clear_J7_fill_53178 rfl rfl rfl hn_J7_fill_53178 ⟨Nat.le_of_ble_eq_true rfl, Nat.le_of_ble_eq_true rfl⟩) rfl hl.1 rfl (Nat.le_of_ble_eq_true rfl) dX0_clear_13 ⟨Nat.zero_le _, Nat.zero_le _⟩ (fun H locs hd hS => ?_)
  refine lv_aload_n hx hb dX0_clear_16 rfl (lv_at hl 0 rfl) ?_
  refine lv_iconst (v := 0) hx hb dX0_clear_17 (by decide) ?_
  refine r_puti hx hb hts (fun w h => List.mem_cons_of_mem _ (List.mem_append_right _ (h))) tyX0 tyX0_ok nmX0 hown hK hd hS hk_a0 rfl 2 fs_0_2 rfl (hts (.fieldLink RX0 28 "LevelVotes$Ballot" "sessions" "I") (List.mem_of_getElem? (i := 3) rfl)) (vp_nar_int _) rfl dX0_clear_18 (fun μ9 eμ9 H locs hd hS => ?_)
  have h := bM_e eμ9 h
  refine lv_aload_n hx hb dX0_clear_21 rfl (lv_at hl 0 rfl) ?_
  refine lv_iconst (v := -1) hx hb dX0_clear_22 (by decide) ?_
  refine r_puti hx hb hts (fun w h => List.mem_cons_of_mem _ (List.mem_append_right _ (h))) tyX0 tyX0_ok nmX0 hown hK hd hS hk_a0 rfl 3 fs_0_3 rfl (hts (.fieldLink RX0 18 "LevelVotes$Ballot" "last" "I") (List.mem_of_getElem? (i := 4) rfl)) (vp_nar_int _) rfl dX0_clear_23 (fun μ10 eμ10 H locs hd hS => ?_)
  have h := bM_e eμ10 h
  obtain rfl := sv_e h
  exact rt_v hx hb hr hlk hd hS dX0_clear_26
theorem hv_X0_yesOf : yX0_yesOf.cls = RX0 ∧ yX0_yesOf.cls ≠ "java/lang/invoke/MethodHandle" ∧ yX0_yesOf.cls ≠ "java/lang/invoke/VarHandle" ∧ (parseMethodDescriptor yX0_yesOf.desc).map (fun d => d.parameters.length) = some 1 := by decide +kernel
def f_X0_yesOf (μ : Mm) (a0 : Nat) (x1 : Int32) : Option (Int32 × Mm) := if x1 < 0 then (some ((0 : Int32), μ)) else (bR (μ.2 a0 0) (fun b2 => if (Int32.ofNat (ln b2)) ≤ x1 then (some ((0 : Int32), μ)) else (bR (μ.2 a0 0) (fun b4 => gd (ckb x1 (ln b4)) (some (μ.1 b4 (x1).toNatClampNeg, μ))))))
set_option maxRecDepth 100000 in
theorem c_X0_yesOf {l : Launch} {D : va_G} {cA : Nat → ClassId} {z : Nat} {μ : Mm} {a0 : Nat} {x1 : Int32} {r : Int32} {μ' : Mm} (hk_a0 : kd a0 = 0) (h : f_X0_yesOf μ a0 x1 = some (r, μ')) : Ct l D cA z yX0_yesOf wsX0_yesOf 0 0 [.ref (z + a0), .int x1] μ (some (.int r)) μ' := by
  refine m_in (cc := cX0_yesOf) (maxL := 2) (ret := (some .int)) (own := RX0) (by decide) rfl rfl (Nat.le_of_ble_eq_true rfl) ?_
  intro p e s m below meth c ls X hd hS hl
  obtain ⟨hx, hb, hr, hlk, hml, hown, hts, hK⟩ := id X
  have hl : lv_has ls 2 [(0, .ref (z + a0)), (1, .int x1)] := hl
  unfold f_X0_yesOf at h
  refine lv_iload_n hx hb dX0_yesOf_0 rfl (lv_at hl 1 rfl) ?_
  refine lv_if_lt (tgt := 22) hx hb dX0_yesOf_1 (by decide) (fun q1 => ?_) (fun q1 => ?_)
  · have h := if_y q1 h
    refine lv_iconst (v := 0) hx hb dX0_yesOf_22 (by decide) ?_
    obtain ⟨rfl, rfl⟩ := so_e h
    exact rt_i hx hb hr hlk hd hS dX0_yesOf_23
  · have h := if_n q1 h
    refine lv_iload_n hx hb dX0_yesOf_4 rfl (lv_at hl 1 rfl) ?_
    refine lv_aload_n hx hb dX0_yesOf_5 rfl (lv_at hl 0 rfl) ?_
    obtain ⟨b2, hb2, h⟩ := bR_e h
    refine r_getr hx hb hts (fun w h => List.mem_cons_of_mem _ (List.mem_append_right _ (h))) hown hK hd hk_a0 hb2 rfl fs_0_0 (hts (.fieldLink RX0 9 "LevelVotes$Ballot" "yes" "[I") (List.mem_of_getElem? (i := 1) rfl)) dX0_yesOf_6 (fun hq => ?_)
    have hk_b2 : kd b2 = 11 := hq
    refine r_alen hx hb hK hd hk_b2 rfl dX0_yesOf_9 ?_
    refine lv_icmp_ge (tgt := 22) hx hb dX0_yesOf_10 (by decide) (fun q3 => ?_) (fun q3 => ?_)
    · have h := if_y q3 h
      refine lv_iconst (v := 0) hx hb dX0_yesOf_22 (by decide) ?_
      obtain ⟨rfl, rfl⟩ := so_e h
      exact rt_i hx hb hr hlk hd hS dX0_yesOf_23
    · have h := if_n q3 h
      refine lv_aload_n hx hb dX0_yesOf_13 rfl (lv_at hl 0 rfl) ?_
      obtain ⟨b4, hb4, h⟩ := bR_e h
      refine r_getr hx hb hts (fun w h => List.mem_cons_of_mem _ (List.mem_append_right _ (h))) hown hK hd hk_a0 hb4 rfl fs_0_0 (hts (.fieldLink RX0 9 "LevelVotes$Ballot" "yes" "[I") (List.mem_of_getElem? (i := 1) rfl)) dX0_yesOf_14 (fun hq => ?_)
      have hk_b4 : kd b4 = 11 := hq
      refine lv_iload_n hx hb dX0_yesOf_17 rfl (lv_at hl 1 rfl) ?_
      obtain ⟨g5, h⟩ := gd_e h
      refine r_iald hx hb hK hd hk_b4 (ckb_in g5) dX0_yesOf_18 ?_
      refine lv_goto (tgt := 23) hx hb dX0_yesOf_19 (by decide) ?_
      obtain ⟨rfl, rfl⟩ := so_e h
      exact rt_i hx hb hr hlk hd hS dX0_yesOf_23
theorem hv_X0_noOf : yX0_noOf.cls = RX0 ∧ yX0_noOf.cls ≠ "java/lang/invoke/MethodHandle" ∧ yX0_noOf.cls ≠ "java/lang/invoke/VarHandle" ∧ (parseMethodDescriptor yX0_noOf.desc).map (fun d => d.parameters.length) = some 1 := by decide +kernel
def f_X0_noOf (μ : Mm) (a0 : Nat) (x1 : Int32) : Option (Int32 × Mm) := if x1 < 0 then (some ((0 : Int32), μ)) else (bR (μ.2 a0 1) (fun b2 => if (Int32.ofNat (ln b2)) ≤ x1 then (some ((0 : Int32), μ)) else (bR (μ.2 a0 1) (fun b4 => gd (ckb x1 (ln b4)) (some (μ.1 b4 (x1).toNatClampNeg, μ))))))
set_option maxRecDepth 100000 in
theorem c_X0_noOf {l : Launch} {D : va_G} {cA : Nat → ClassId} {z : Nat} {μ : Mm} {a0 : Nat} {x1 : Int32} {r : Int32} {μ' : Mm} (hk_a0 : kd a0 = 0) (h : f_X0_noOf μ a0 x1 = some (r, μ')) : Ct l D cA z yX0_noOf wsX0_noOf 0 0 [.ref (z + a0), .int x1] μ (some (.int r)) μ' := by
  refine m_in (cc := cX0_noOf) (maxL := 2) (ret := (some .int)) (own := RX0) (by decide) rfl rfl (Nat.le_of_ble_eq_true rfl) ?_
  intro p e s m below meth c ls X hd hS hl
  obtain ⟨hx, hb, hr, hlk, hml, hown, hts, hK⟩ := id X
  have hl : lv_has ls 2 [(0, .ref (z + a0)), (1, .int x1)] := hl
  unfold f_X0_noOf at h
  refine lv_iload_n hx hb dX0_noOf_0 rfl (lv_at hl 1 rfl) ?_
  refine lv_if_lt (tgt := 22) hx hb dX0_noOf_1 (by decide) (fun q1 => ?_) (fun q1 => ?_)
  · have h := if_y q1 h
    refine lv_iconst (v := 0) hx hb dX0_noOf_22 (by decide) ?_
    obtain ⟨rfl, rfl⟩ := so_e h
    exact rt_i hx hb hr hlk hd hS dX0_noOf_23
  · have h := if_n q1 h
    refine lv_iload_n hx hb dX0_noOf_4 rfl (lv_at hl 1 rfl) ?_
    refine lv_aload_n hx hb dX0_noOf_5 rfl (lv_at hl 0 rfl) ?_
    obtain ⟨b2, hb2, h⟩ := bR_e h
    refine r_getr hx hb hts (fun w h => List.mem_cons_of_mem _ (List.mem_append_right _ (h))) hown hK hd hk_a0 hb2 rfl fs_0_1 (hts (.fieldLink RX0 15 "LevelVotes$Ballot" "no" "[I") (List.mem_of_getElem? (i := 1) rfl)) dX0_noOf_6 (fun hq => ?_)
    have hk_b2 : kd b2 = 11 := hq
    refine r_alen hx hb hK hd hk_b2 rfl dX0_noOf_9 ?_
    refine lv_icmp_ge (tgt := 22) hx hb dX0_noOf_10 (by decide) (fun q3 => ?_) (fun q3 => ?_)
    · have h := if_y q3 h
      refine lv_iconst (v := 0) hx hb dX0_noOf_22 (by decide) ?_
      obtain ⟨rfl, rfl⟩ := so_e h
      exact rt_i hx hb hr hlk hd hS dX0_noOf_23
    · have h := if_n q3 h
      refine lv_aload_n hx hb dX0_noOf_13 rfl (lv_at hl 0 rfl) ?_
      obtain ⟨b4, hb4, h⟩ := bR_e h
      refine r_getr hx hb hts (fun w h => List.mem_cons_of_mem _ (List.mem_append_right _ (h))) hown hK hd hk_a0 hb4 rfl fs_0_1 (hts (.fieldLink RX0 15 "LevelVotes$Ballot" "no" "[I") (List.mem_of_getElem? (i := 1) rfl)) dX0_noOf_14 (fun hq => ?_)
      have hk_b4 : kd b4 = 11 := hq
      refine lv_iload_n hx hb dX0_noOf_17 rfl (lv_at hl 1 rfl) ?_
      obtain ⟨g5, h⟩ := gd_e h
      refine r_iald hx hb hK hd hk_b4 (ckb_in g5) dX0_noOf_18 ?_
      refine lv_goto (tgt := 23) hx hb dX0_noOf_19 (by decide) ?_
      obtain ⟨rfl, rfl⟩ := so_e h
      exact rt_i hx hb hr hlk hd hS dX0_noOf_23
theorem hv_X0_copy : yX0_copy.cls = RX0 ∧ yX0_copy.cls ≠ "java/lang/invoke/MethodHandle" ∧ yX0_copy.cls ≠ "java/lang/invoke/VarHandle" ∧ (parseMethodDescriptor yX0_copy.desc).map (fun d => d.parameters.length) = some 1 := by decide +kernel
abbrev HL_X0_copy_2 (l : Launch) (D : va_G) (cA : Nat → ClassId) (z : Nat) (av : List Value) (μ' : Mm) (p : Program) (e : Env) (s : State) (m : MethodId) (below : List Frame) (meth : Method) (c : Code) (rc : Mm → Nat → Nat → Int32 → Option Mm) : Prop := ∀ (μ : Mm) (H : Heap) (locs : List Loc) (ls : Array Slot) (a0 : Nat) (a1 : Nat) (x2 : Int32), kd a0 = 0 → kd a1 = 0 → Wd D cA z μ H → va_S (Az z) s.heap H locs → lv_has ls 3 [(0, .ref (z + a0)), (1, .ref (z + a1)), (2, .int x2)] → rc μ a0 a1 x2 = some μ' → WG l D cA z wsX0_copy 1 21 av none μ' p e s m below meth c H locs (F0 m 2 ls [])
def f_X0_copy_L2b (rc2 : Mm → Nat → Nat → Int32 → Option Mm) (μ : Mm) (a0 : Nat) (a1 : Nat) (x2 : Int32) : Option Mm := if (5 : Int32) ≤ x2 then (bM (up2 μ.1 a0 2 (μ.1 a1 2), μ.2) (fun μ2 => bM (up2 μ2.1 a0 3 (μ2.1 a1 3), μ2.2) (fun μ3 => some μ3))) else (bR (μ.2 a0 0) (fun b4 => bC (f_X0_yesOf μ a1 x2) (fun r6 μ5 => gd (ckb x2 (ln b4)) (bM (up2 μ5.1 b4 (x2).toNatClampNeg r6, μ5.2) (fun μ9 => bR (μ9.2 a0 1) (fun b10 => bC (f_X0_noOf μ9 a1 x2) (fun r12 μ11 => gd (ckb x2 (ln b10)) (bM (up2 μ11.1 b10 (x2).toNatClampNeg r12, μ11.2) (fun μ15 => rc2 μ15 a0 a1 (x2 + (1 : Int32)))))))))))
set_option maxRecDepth 100000 in
theorem k_f_X0_copy_L2b {l : Launch} {D : va_G} {cA : Nat → ClassId} {z : Nat} {av : List Value} {p : Program} {e : Env} {s : State} {m : MethodId} {below : List Frame} {meth : Method} {c : Code} {μ' : Mm} (X : Fx D cA RX0 wsX0_copy cX0_copy 3 none p s m av.toArray meth c) {rc2 : Mm → Nat → Nat → Int32 → Option Mm} (hrc2 : HL_X0_copy_2 l D cA z av μ' p e s m below meth c rc2) {μ : Mm} {a0 : Nat} {a1 : Nat} {x2 : Int32} (hk_a0 : kd a0 = 0) (hk_a1 : kd a1 = 0) {H : Heap} {locs : List Loc} {ls : Array Slot} (hd : Wd D cA z μ H) (hS : va_S (Az z) s.heap H locs) (hl : lv_has ls 3 [(0, .ref (z + a0)), (1, .ref (z + a1)), (2, .int x2)]) (h : f_X0_copy_L2b rc2 μ a0 a1 x2 = some μ') : WG l D cA z wsX0_copy 1 21 av none μ' p e s m below meth c H locs (F0 m 2 ls []) := by
  obtain ⟨hx, hb, hr, hlk, hml, hown, hts, hK⟩ := id X
  unfold f_X0_copy_L2b at h
  refine lv_iload_n hx hb dX0_copy_2 rfl (lv_at hl 2 rfl) ?_
  refine lv_iconst (v := 5) hx hb dX0_copy_3 (by decide) ?_
  refine lv_icmp_ge (tgt := 35) hx hb dX0_copy_4 (by decide) (fun q1 => ?_) (fun q1 => ?_)
  · have h := if_y q1 h
    refine lv_aload_n hx hb dX0_copy_35 rfl (lv_at hl 0 rfl) ?_
    refine lv_aload_n hx hb dX0_copy_36 rfl (lv_at hl 1 rfl) ?_
    refine r_geti hx hb hts (fun w h => List.mem_cons_of_mem _ (List.mem_append_right _ (h))) hown hK hd hk_a1 rfl 2 fs_0_2 (hts (.fieldLink RX0 28 "LevelVotes$Ballot" "sessions" "I") (List.mem_of_getElem? (i := 3) rfl)) dX0_copy_37 ?_
    refine r_puti hx hb hts (fun w h => List.mem_cons_of_mem _ (List.mem_append_right _ (h))) tyX0 tyX0_ok nmX0 hown hK hd hS hk_a0 rfl 2 fs_0_2 rfl (hts (.fieldLink RX0 28 "LevelVotes$Ballot" "sessions" "I") (List.mem_of_getElem? (i := 3) rfl)) (vp_nar_int _) rfl dX0_copy_40 (fun μ2 eμ2 H locs hd hS => ?_)
    have h := bM_e eμ2 h
    refine lv_aload_n hx hb dX0_copy_43 rfl (lv_at hl 0 rfl) ?_
    refine lv_aload_n hx hb dX0_copy_44 rfl (lv_at hl 1 rfl) ?_
    refine r_geti hx hb hts (fun w h => List.mem_cons_of_mem _ (List.mem_append_right _ (h))) hown hK hd hk_a1 rfl 3 fs_0_3 (hts (.fieldLink RX0 18 "LevelVotes$Ballot" "last" "I") (List.mem_of_getElem? (i := 4) rfl)) dX0_copy_45 ?_
    refine r_puti hx hb hts (fun w h => List.mem_cons_of_mem _ (List.mem_append_right _ (h))) tyX0 tyX0_ok nmX0 hown hK hd hS hk_a0 rfl 3 fs_0_3 rfl (hts (.fieldLink RX0 18 "LevelVotes$Ballot" "last" "I") (List.mem_of_getElem? (i := 4) rfl)) (vp_nar_int _) rfl dX0_copy_48 (fun μ3 eμ3 H locs hd hS => ?_)
    have h := bM_e eμ3 h
    obtain rfl := sv_e h
    exact rt_v hx hb hr hlk hd hS dX0_copy_51
  · have h := if_n q1 h
    refine lv_aload_n hx hb dX0_copy_7 rfl (lv_at hl 0 rfl) ?_
    obtain ⟨b4, hb4, h⟩ := bR_e h
    refine r_getr hx hb hts (fun w h => List.mem_cons_of_mem _ (List.mem_append_right _ (h))) hown hK hd hk_a0 hb4 rfl fs_0_0 (hts (.fieldLink RX0 9 "LevelVotes$Ballot" "yes" "[I") (List.mem_of_getElem? (i := 1) rfl)) dX0_copy_8 (fun hq => ?_)
    have hk_b4 : kd b4 = 11 := hq
    refine lv_iload_n hx hb dX0_copy_11 rfl (lv_at hl 2 rfl) ?_
    refine lv_aload_n hx hb dX0_copy_12 rfl (lv_at hl 1 rfl) ?_
    refine lv_iload_n hx hb dX0_copy_13 rfl (lv_at hl 2 rfl) ?_
    obtain ⟨r6, μ5, hc7, h⟩ := bC_e h
    refine rc_Vi (rest := [.int x2, .ref (z + b4)]) [.int x2] ⟨hx, hb, hml, hown, hts⟩ hK hd hS (c_X0_yesOf hk_a1 hc7) (cwV 1 hts gX0_copy_X0_yesOf rfl rfl rfl hv_X0_yesOf ⟨Nat.le_of_ble_eq_true rfl, Nat.le_of_ble_eq_true rfl⟩) hk_a1 rfl rfl rfl rfl hl.1 rfl (Nat.le_of_ble_eq_true rfl) dX0_copy_14 ⟨Nat.zero_le _, Nat.zero_le _⟩ (fun H locs hd hS => ?_)
    obtain ⟨g8, h⟩ := gd_e h
    refine r_iast hx hb hK hd hS hk_b4 (ckb_in g8) dX0_copy_17 (fun μ9 eμ9 H locs hd hS => ?_)
    have h := bM_e eμ9 h
    refine lv_aload_n hx hb dX0_copy_18 rfl (lv_at hl 0 rfl) ?_
    obtain ⟨b10, hb10, h⟩ := bR_e h
    refine r_getr hx hb hts (fun w h => List.mem_cons_of_mem _ (List.mem_append_right _ (h))) hown hK hd hk_a0 hb10 rfl fs_0_1 (hts (.fieldLink RX0 15 "LevelVotes$Ballot" "no" "[I") (List.mem_of_getElem? (i := 2) rfl)) dX0_copy_19 (fun hq => ?_)
    have hk_b10 : kd b10 = 11 := hq
    refine lv_iload_n hx hb dX0_copy_22 rfl (lv_at hl 2 rfl) ?_
    refine lv_aload_n hx hb dX0_copy_23 rfl (lv_at hl 1 rfl) ?_
    refine lv_iload_n hx hb dX0_copy_24 rfl (lv_at hl 2 rfl) ?_
    obtain ⟨r12, μ11, hc13, h⟩ := bC_e h
    refine rc_Vi (rest := [.int x2, .ref (z + b10)]) [.int x2] ⟨hx, hb, hml, hown, hts⟩ hK hd hS (c_X0_noOf hk_a1 hc13) (cwV 1 hts gX0_copy_X0_noOf rfl rfl rfl hv_X0_noOf ⟨Nat.le_of_ble_eq_true rfl, Nat.le_of_ble_eq_true rfl⟩) hk_a1 rfl rfl rfl rfl hl.1 rfl (Nat.le_of_ble_eq_true rfl) dX0_copy_25 ⟨Nat.zero_le _, Nat.zero_le _⟩ (fun H locs hd hS => ?_)
    obtain ⟨g14, h⟩ := gd_e h
    refine r_iast hx hb hK hd hS hk_b10 (ckb_in g14) dX0_copy_28 (fun μ15 eμ15 H locs hd hS => ?_)
    have h := bM_e eμ15 h
    refine lv_iinc (v := x2 + (1 : Int32)) (lv' := [(2, .int (x2 + (1 : Int32))), (0, .ref (z + a0)), (1, .ref (z + a1))]) hx hb dX0_copy_29 hl (k := 2) rfl rfl (by decide) rfl (fun ls hl => ?_)
    refine lv_goto (tgt := 2) hx hb dX0_copy_32 (by decide) ?_
    exact hrc2 _ _ _ _ _ _ _ hk_a0 hk_a1 hd hS (lv_sub hl [1, 2, 0] rfl) h
def f_X0_copy_L2 : Nat → Mm → Nat → Nat → Int32 → Option Mm
  | 0 => fun _ _ _ _ => none
  | n + 1 => fun μ a0 a1 x2 => f_X0_copy_L2b (f_X0_copy_L2 n) μ a0 a1 x2
theorem k_f_X0_copy_L2 {l : Launch} {D : va_G} {cA : Nat → ClassId} {z : Nat} {av : List Value} {p : Program} {e : Env} {s : State} {m : MethodId} {below : List Frame} {meth : Method} {c : Code} {μ' : Mm} (X : Fx D cA RX0 wsX0_copy cX0_copy 3 none p s m av.toArray meth c) (n : Nat) : HL_X0_copy_2 l D cA z av μ' p e s m below meth c (f_X0_copy_L2 n) := by
  induction n with
  | zero => intro _ _ _ _ _ _ _ _ _ _ _ _ h; have h2 : (none : Option _) = some _ := h; cases h2
  | succ n ih => intro μ H locs ls a0 a1 x2 hk_a0 hk_a1 hd hS hl h; exact k_f_X0_copy_L2b X ih hk_a0 hk_a1 hd hS hl h
def f_X0_copy (μ : Mm) (a0 : Nat) (a1 : Nat) : Option Mm := f_X0_copy_L2 FU μ a0 a1 (0 : Int32)
set_option maxRecDepth 100000 in
theorem c_X0_copy {l : Launch} {D : va_G} {cA : Nat → ClassId} {z : Nat} {μ : Mm} {a0 : Nat} {a1 : Nat} {μ' : Mm} (hk_a0 : kd a0 = 0) (hk_a1 : kd a1 = 0) (h : f_X0_copy μ a0 a1 = some μ') : Ct l D cA z yX0_copy wsX0_copy 1 21 [.ref (z + a0), .ref (z + a1)] μ none μ' := by
  refine m_in (cc := cX0_copy) (maxL := 3) (ret := none) (own := RX0) (by decide) rfl rfl (Nat.le_of_ble_eq_true rfl) ?_
  intro p e s m below meth c ls X hd hS hl
  obtain ⟨hx, hb, hr, hlk, hml, hown, hts, hK⟩ := id X
  have hl : lv_has ls 3 [(0, .ref (z + a0)), (1, .ref (z + a1))] := hl
  unfold f_X0_copy at h
  refine lv_iconst (v := 0) hx hb dX0_copy_0 (by decide) ?_
  refine lv_istore_n (lv' := [(2, .int (0 : Int32)), (0, .ref (z + a0)), (1, .ref (z + a1))]) hx hb dX0_copy_1 rfl hl (by decide) rfl (fun ls hl => ?_)
  exact k_f_X0_copy_L2 X FU _ _ _ _ _ _ _ hk_a0 hk_a1 hd hS (lv_sub hl [1, 2, 0] rfl) h
theorem hv_X0_put : yX0_put.cls = RX0 ∧ yX0_put.cls ≠ "java/lang/invoke/MethodHandle" ∧ yX0_put.cls ≠ "java/lang/invoke/VarHandle" ∧ (parseMethodDescriptor yX0_put.desc).map (fun d => d.parameters.length) = some 3 := by decide +kernel
def f_X0_put_j91 (μ : Mm) (ys0 : Int32) (ys1 : Int32) (bs2 : Nat) : Option Mm := gd (ckb ys1 (ln bs2)) (bM (up2 μ.1 bs2 (ys1).toNatClampNeg ys0, μ.2) (fun μ2 => some μ2))
set_option maxRecDepth 100000 in
theorem k_f_X0_put_j91 {l : Launch} {D : va_G} {cA : Nat → ClassId} {z : Nat} {av : List Value} {p : Program} {e : Env} {s : State} {m : MethodId} {below : List Frame} {meth : Method} {c : Code} {μ' : Mm} (X : Fx D cA RX0 wsX0_put cX0_put 5 none p s m av.toArray meth c) {μ : Mm} {ys0 : Int32} {ys1 : Int32} {bs2 : Nat} (hk_bs2 : kd bs2 = 11) {H : Heap} {locs : List Loc} {ls : Array Slot} (hd : Wd D cA z μ H) (hS : va_S (Az z) s.heap H locs) (hl : lv_has ls 5 []) (h : f_X0_put_j91 μ ys0 ys1 bs2 = some μ') : WG l D cA z wsX0_put 0 0 av none μ' p e s m below meth c H locs (F0 m 91 ls [.int ys0, .int ys1, .ref (z + bs2)]) := by
  obtain ⟨hx, hb, hr, hlk, hml, hown, hts, hK⟩ := id X
  unfold f_X0_put_j91 at h
  obtain ⟨g1, h⟩ := gd_e h
  refine r_iast hx hb hK hd hS hk_bs2 (ckb_in g1) dX0_put_91 (fun μ2 eμ2 H locs hd hS => ?_)
  have h := bM_e eμ2 h
  obtain rfl := sv_e h
  exact rt_v hx hb hr hlk hd hS dX0_put_92
def f_X0_put_j58 (μ : Mm) (a0 : Nat) (x2 : Int32) (x3 : Int32) (x4 : Int32) (ys0 : Int32) (ys1 : Int32) (bs2 : Nat) : Option Mm := gd (ckb ys1 (ln bs2)) (bM (up2 μ.1 bs2 (ys1).toNatClampNeg ys0, μ.2) (fun μ2 => bR (μ2.2 a0 1) (fun b3 => if x3 = 0 then (bR (μ2.2 a0 1) (fun b7 => gd (ckb x2 (ln b7)) (f_X0_put_j91 μ2 ((μ2.1 b7 (x2).toNatClampNeg) ||| x4) x2 b3))) else (bR (μ2.2 a0 1) (fun b5 => gd (ckb x2 (ln b5)) (f_X0_put_j91 μ2 ((μ2.1 b5 (x2).toNatClampNeg) &&& (x4 ^^^ (-1 : Int32))) x2 b3))))))
set_option maxRecDepth 100000 in
theorem k_f_X0_put_j58 {l : Launch} {D : va_G} {cA : Nat → ClassId} {z : Nat} {av : List Value} {p : Program} {e : Env} {s : State} {m : MethodId} {below : List Frame} {meth : Method} {c : Code} {μ' : Mm} (X : Fx D cA RX0 wsX0_put cX0_put 5 none p s m av.toArray meth c) {μ : Mm} {a0 : Nat} {x2 : Int32} {x3 : Int32} {x4 : Int32} {ys0 : Int32} {ys1 : Int32} {bs2 : Nat} (hk_a0 : kd a0 = 0) (hk_bs2 : kd bs2 = 11) {H : Heap} {locs : List Loc} {ls : Array Slot} (hd : Wd D cA z μ H) (hS : va_S (Az z) s.heap H locs) (hl : lv_has ls 5 [(0, .ref (z + a0)), (2, .int x2), (3, .int x3), (4, .int x4)]) (h : f_X0_put_j58 μ a0 x2 x3 x4 ys0 ys1 bs2 = some μ') : WG l D cA z wsX0_put 0 0 av none μ' p e s m below meth c H locs (F0 m 58 ls [.int ys0, .int ys1, .ref (z + bs2)]) := by
  obtain ⟨hx, hb, hr, hlk, hml, hown, hts, hK⟩ := id X
  unfold f_X0_put_j58 at h
  obtain ⟨g1, h⟩ := gd_e h
  refine r_iast hx hb hK hd hS hk_bs2 (ckb_in g1) dX0_put_58 (fun μ2 eμ2 H locs hd hS => ?_)
  have h := bM_e eμ2 h
  refine lv_aload_n hx hb dX0_put_59 rfl (lv_at hl 0 rfl) ?_
  obtain ⟨b3, hb3, h⟩ := bR_e h
  refine r_getr hx hb hts (fun w h => List.mem_cons_of_mem _ (List.mem_append_right _ (h))) hown hK hd hk_a0 hb3 rfl fs_0_1 (hts (.fieldLink RX0 15 "LevelVotes$Ballot" "no" "[I") (List.mem_of_getElem? (i := 2) rfl)) dX0_put_60 (fun hq => ?_)
  have hk_b3 : kd b3 = 11 := hq
  refine lv_iload_n hx hb dX0_put_63 rfl (lv_at hl 1 rfl) ?_
  refine lv_iload_n hx hb dX0_put_64 rfl (lv_at hl 2 rfl) ?_
  refine lv_if_ne (tgt := 80) hx hb dX0_put_65 (by decide) (fun q4 => ?_) (fun q4 => ?_)
  · have h := if_n q4 h
    refine lv_aload_n hx hb dX0_put_80 rfl (lv_at hl 0 rfl) ?_
    obtain ⟨b5, hb5, h⟩ := bR_e h
    refine r_getr hx hb hts (fun w h => List.mem_cons_of_mem _ (List.mem_append_right _ (h))) hown hK hd hk_a0 hb5 rfl fs_0_1 (hts (.fieldLink RX0 15 "LevelVotes$Ballot" "no" "[I") (List.mem_of_getElem? (i := 2) rfl)) dX0_put_81 (fun hq => ?_)
    have hk_b5 : kd b5 = 11 := hq
    refine lv_iload_n hx hb dX0_put_84 rfl (lv_at hl 1 rfl) ?_
    obtain ⟨g6, h⟩ := gd_e h
    refine r_iald hx hb hK hd hk_b5 (ckb_in g6) dX0_put_85 ?_
    refine lv_iload hx hb dX0_put_86 (lv_at hl 3 rfl) ?_
    refine lv_iconst (v := -1) hx hb dX0_put_88 (by decide) ?_
    refine lv_ixor hx hb dX0_put_89 ?_
    refine lv_iand hx hb dX0_put_90 ?_
    exact k_f_X0_put_j91 X hk_b3 hd hS (lv_sub hl [] rfl) h
  · have h := if_y q4 h
    refine lv_aload_n hx hb dX0_put_68 rfl (lv_at hl 0 rfl) ?_
    obtain ⟨b7, hb7, h⟩ := bR_e h
    refine r_getr hx hb hts (fun w h => List.mem_cons_of_mem _ (List.mem_append_right _ (h))) hown hK hd hk_a0 hb7 rfl fs_0_1 (hts (.fieldLink RX0 15 "LevelVotes$Ballot" "no" "[I") (List.mem_of_getElem? (i := 2) rfl)) dX0_put_69 (fun hq => ?_)
    have hk_b7 : kd b7 = 11 := hq
    refine lv_iload_n hx hb dX0_put_72 rfl (lv_at hl 1 rfl) ?_
    obtain ⟨g8, h⟩ := gd_e h
    refine r_iald hx hb hK hd hk_b7 (ckb_in g8) dX0_put_73 ?_
    refine lv_iload hx hb dX0_put_74 (lv_at hl 3 rfl) ?_
    refine lv_ior hx hb dX0_put_76 ?_
    refine lv_goto (tgt := 91) hx hb dX0_put_77 (by decide) ?_
    exact k_f_X0_put_j91 X hk_b3 hd hS (lv_sub hl [] rfl) h
def f_X0_put (μ : Mm) (a0 : Nat) (x1 : Int32) (x2 : Int32) (x3 : Int32) : Option Mm := if x2 < 0 then (some μ) else (if (5 : Int32) ≤ x2 then (some μ) else (if x1 < 0 then (some μ) else (if x1 < (7 : Int32) then (bI ((1 : Int32) <<< (x1 &&& 31)) (fun v5 => bR (μ.2 a0 0) (fun b6 => if x3 = (1 : Int32) then (bR (μ.2 a0 0) (fun b10 => gd (ckb x2 (ln b10)) (f_X0_put_j58 μ a0 x2 x3 v5 ((μ.1 b10 (x2).toNatClampNeg) ||| v5) x2 b6))) else (bR (μ.2 a0 0) (fun b8 => gd (ckb x2 (ln b8)) (f_X0_put_j58 μ a0 x2 x3 v5 ((μ.1 b8 (x2).toNatClampNeg) &&& (v5 ^^^ (-1 : Int32))) x2 b6)))))) else (some μ))))
set_option maxRecDepth 100000 in
theorem c_X0_put {l : Launch} {D : va_G} {cA : Nat → ClassId} {z : Nat} {μ : Mm} {a0 : Nat} {x1 : Int32} {x2 : Int32} {x3 : Int32} {μ' : Mm} (hk_a0 : kd a0 = 0) (h : f_X0_put μ a0 x1 x2 x3 = some μ') : Ct l D cA z yX0_put wsX0_put 0 0 [.ref (z + a0), .int x1, .int x2, .int x3] μ none μ' := by
  refine m_in (cc := cX0_put) (maxL := 5) (ret := none) (own := RX0) (by decide) rfl rfl (Nat.le_of_ble_eq_true rfl) ?_
  intro p e s m below meth c ls X hd hS hl
  obtain ⟨hx, hb, hr, hlk, hml, hown, hts, hK⟩ := id X
  have hl : lv_has ls 5 [(0, .ref (z + a0)), (1, .int x1), (2, .int x2), (3, .int x3)] := hl
  unfold f_X0_put at h
  refine lv_iload_n hx hb dX0_put_0 rfl (lv_at hl 2 rfl) ?_
  refine lv_if_lt (tgt := 19) hx hb dX0_put_1 (by decide) (fun q1 => ?_) (fun q1 => ?_)
  · have h := if_y q1 h
    obtain rfl := sv_e h
    exact rt_v hx hb hr hlk hd hS dX0_put_19
  · have h := if_n q1 h
    refine lv_iload_n hx hb dX0_put_4 rfl (lv_at hl 2 rfl) ?_
    refine lv_iconst (v := 5) hx hb dX0_put_5 (by decide) ?_
    refine lv_icmp_ge (tgt := 19) hx hb dX0_put_6 (by decide) (fun q2 => ?_) (fun q2 => ?_)
    · have h := if_y q2 h
      obtain rfl := sv_e h
      exact rt_v hx hb hr hlk hd hS dX0_put_19
    · have h := if_n q2 h
      refine lv_iload_n hx hb dX0_put_9 rfl (lv_at hl 1 rfl) ?_
      refine lv_if_lt (tgt := 19) hx hb dX0_put_10 (by decide) (fun q3 => ?_) (fun q3 => ?_)
      · have h := if_y q3 h
        obtain rfl := sv_e h
        exact rt_v hx hb hr hlk hd hS dX0_put_19
      · have h := if_n q3 h
        refine lv_iload_n hx hb dX0_put_13 rfl (lv_at hl 1 rfl) ?_
        refine lv_bipush (v := 7) hx hb dX0_put_14 (by decide) ?_
        refine lv_icmp_lt (tgt := 20) hx hb dX0_put_16 (by decide) (fun q4 => ?_) (fun q4 => ?_)
        · have h := if_y q4 h
          refine lv_iconst (v := 1) hx hb dX0_put_20 (by decide) ?_
          refine lv_iload_n hx hb dX0_put_21 rfl (lv_at hl 1 rfl) ?_
          refine lv_ishl hx hb dX0_put_22 ?_
          refine lv_topi (fun v5 ev5 => ?_)
          have h := bI_e ev5 h
          refine lv_istore (lv' := [(4, .int v5), (0, .ref (z + a0)), (1, .int x1), (2, .int x2), (3, .int x3)]) hx hb dX0_put_23 hl (by decide) rfl (fun ls hl => ?_)
          refine lv_aload_n hx hb dX0_put_25 rfl (lv_at hl 1 rfl) ?_
          obtain ⟨b6, hb6, h⟩ := bR_e h
          refine r_getr hx hb hts (fun w h => List.mem_cons_of_mem _ (List.mem_append_right _ (h))) hown hK hd hk_a0 hb6 rfl fs_0_0 (hts (.fieldLink RX0 9 "LevelVotes$Ballot" "yes" "[I") (List.mem_of_getElem? (i := 1) rfl)) dX0_put_26 (fun hq => ?_)
          have hk_b6 : kd b6 = 11 := hq
          refine lv_iload_n hx hb dX0_put_29 rfl (lv_at hl 3 rfl) ?_
          refine lv_iload_n hx hb dX0_put_30 rfl (lv_at hl 4 rfl) ?_
          refine lv_iconst (v := 1) hx hb dX0_put_31 (by decide) ?_
          refine lv_icmp_ne (tgt := 47) hx hb dX0_put_32 (by decide) (fun q7 => ?_) (fun q7 => ?_)
          · have h := if_n q7 h
            refine lv_aload_n hx hb dX0_put_47 rfl (lv_at hl 1 rfl) ?_
            obtain ⟨b8, hb8, h⟩ := bR_e h
            refine r_getr hx hb hts (fun w h => List.mem_cons_of_mem _ (List.mem_append_right _ (h))) hown hK hd hk_a0 hb8 rfl fs_0_0 (hts (.fieldLink RX0 9 "LevelVotes$Ballot" "yes" "[I") (List.mem_of_getElem? (i := 1) rfl)) dX0_put_48 (fun hq => ?_)
            have hk_b8 : kd b8 = 11 := hq
            refine lv_iload_n hx hb dX0_put_51 rfl (lv_at hl 3 rfl) ?_
            obtain ⟨g9, h⟩ := gd_e h
            refine r_iald hx hb hK hd hk_b8 (ckb_in g9) dX0_put_52 ?_
            refine lv_iload hx hb dX0_put_53 (lv_at hl 0 rfl) ?_
            refine lv_iconst (v := -1) hx hb dX0_put_55 (by decide) ?_
            refine lv_ixor hx hb dX0_put_56 ?_
            refine lv_iand hx hb dX0_put_57 ?_
            exact k_f_X0_put_j58 X hk_a0 hk_b6 hd hS (lv_sub hl [1, 3, 4, 0] rfl) h
          · have h := if_y q7 h
            refine lv_aload_n hx hb dX0_put_35 rfl (lv_at hl 1 rfl) ?_
            obtain ⟨b10, hb10, h⟩ := bR_e h
            refine r_getr hx hb hts (fun w h => List.mem_cons_of_mem _ (List.mem_append_right _ (h))) hown hK hd hk_a0 hb10 rfl fs_0_0 (hts (.fieldLink RX0 9 "LevelVotes$Ballot" "yes" "[I") (List.mem_of_getElem? (i := 1) rfl)) dX0_put_36 (fun hq => ?_)
            have hk_b10 : kd b10 = 11 := hq
            refine lv_iload_n hx hb dX0_put_39 rfl (lv_at hl 3 rfl) ?_
            obtain ⟨g11, h⟩ := gd_e h
            refine r_iald hx hb hK hd hk_b10 (ckb_in g11) dX0_put_40 ?_
            refine lv_iload hx hb dX0_put_41 (lv_at hl 0 rfl) ?_
            refine lv_ior hx hb dX0_put_43 ?_
            refine lv_goto (tgt := 58) hx hb dX0_put_44 (by decide) ?_
            exact k_f_X0_put_j58 X hk_a0 hk_b6 hd hS (lv_sub hl [1, 3, 4, 0] rfl) h
        · have h := if_n q4 h
          obtain rfl := sv_e h
          exact rt_v hx hb hr hlk hd hS dX0_put_19
theorem hv_X0_howOf : yX0_howOf.cls = RX0 ∧ yX0_howOf.cls ≠ "java/lang/invoke/MethodHandle" ∧ yX0_howOf.cls ≠ "java/lang/invoke/VarHandle" ∧ (parseMethodDescriptor yX0_howOf.desc).map (fun d => d.parameters.length) = some 2 := by decide +kernel
def f_X0_howOf (μ : Mm) (a0 : Nat) (x1 : Int32) (x2 : Int32) : Option (Int32 × Mm) := bC (f_X0_yesOf μ a0 x2) (fun r2 μ1 => if ((r2 >>> (x1 &&& 31)) &&& (1 : Int32)) = 0 then (bC (f_X0_noOf μ1 a0 x2) (fun r6 μ5 => if ((r6 >>> (x1 &&& 31)) &&& (1 : Int32)) = 0 then (some ((2 : Int32), μ5)) else (some ((0 : Int32), μ5)))) else (some ((1 : Int32), μ1)))
set_option maxRecDepth 100000 in
theorem c_X0_howOf {l : Launch} {D : va_G} {cA : Nat → ClassId} {z : Nat} {μ : Mm} {a0 : Nat} {x1 : Int32} {x2 : Int32} {r : Int32} {μ' : Mm} (hk_a0 : kd a0 = 0) (h : f_X0_howOf μ a0 x1 x2 = some (r, μ')) : Ct l D cA z yX0_howOf wsX0_howOf 1 21 [.ref (z + a0), .int x1, .int x2] μ (some (.int r)) μ' := by
  refine m_in (cc := cX0_howOf) (maxL := 3) (ret := (some .int)) (own := RX0) (by decide) rfl rfl (Nat.le_of_ble_eq_true rfl) ?_
  intro p e s m below meth c ls X hd hS hl
  obtain ⟨hx, hb, hr, hlk, hml, hown, hts, hK⟩ := id X
  have hl : lv_has ls 3 [(0, .ref (z + a0)), (1, .int x1), (2, .int x2)] := hl
  unfold f_X0_howOf at h
  refine lv_aload_n hx hb dX0_howOf_0 rfl (lv_at hl 0 rfl) ?_
  refine lv_iload_n hx hb dX0_howOf_1 rfl (lv_at hl 2 rfl) ?_
  obtain ⟨r2, μ1, hc3, h⟩ := bC_e h
  refine rc_Vi (rest := []) [.int x2] ⟨hx, hb, hml, hown, hts⟩ hK hd hS (c_X0_yesOf hk_a0 hc3) (cwV 1 hts gX0_howOf_X0_yesOf rfl rfl rfl hv_X0_yesOf ⟨Nat.le_of_ble_eq_true rfl, Nat.le_of_ble_eq_true rfl⟩) hk_a0 rfl rfl rfl rfl hl.1 rfl (Nat.le_of_ble_eq_true rfl) dX0_howOf_2 ⟨Nat.zero_le _, Nat.zero_le _⟩ (fun H locs hd hS => ?_)
  refine lv_iload_n hx hb dX0_howOf_5 rfl (lv_at hl 1 rfl) ?_
  refine lv_ishr hx hb dX0_howOf_6 ?_
  refine lv_iconst (v := 1) hx hb dX0_howOf_7 (by decide) ?_
  refine lv_iand hx hb dX0_howOf_8 ?_
  refine lv_if_eq (tgt := 14) hx hb dX0_howOf_9 (by decide) (fun q4 => ?_) (fun q4 => ?_)
  · have h := if_y q4 h
    refine lv_aload_n hx hb dX0_howOf_14 rfl (lv_at hl 0 rfl) ?_
    refine lv_iload_n hx hb dX0_howOf_15 rfl (lv_at hl 2 rfl) ?_
    obtain ⟨r6, μ5, hc7, h⟩ := bC_e h
    refine rc_Vi (rest := []) [.int x2] ⟨hx, hb, hml, hown, hts⟩ hK hd hS (c_X0_noOf hk_a0 hc7) (cwV 1 hts gX0_howOf_X0_noOf rfl rfl rfl hv_X0_noOf ⟨Nat.le_of_ble_eq_true rfl, Nat.le_of_ble_eq_true rfl⟩) hk_a0 rfl rfl rfl rfl hl.1 rfl (Nat.le_of_ble_eq_true rfl) dX0_howOf_16 ⟨Nat.zero_le _, Nat.zero_le _⟩ (fun H locs hd hS => ?_)
    refine lv_iload_n hx hb dX0_howOf_19 rfl (lv_at hl 1 rfl) ?_
    refine lv_ishr hx hb dX0_howOf_20 ?_
    refine lv_iconst (v := 1) hx hb dX0_howOf_21 (by decide) ?_
    refine lv_iand hx hb dX0_howOf_22 ?_
    refine lv_if_eq (tgt := 30) hx hb dX0_howOf_23 (by decide) (fun q8 => ?_) (fun q8 => ?_)
    · have h := if_y q8 h
      refine lv_iconst (v := 2) hx hb dX0_howOf_30 (by decide) ?_
      obtain ⟨rfl, rfl⟩ := so_e h
      exact rt_i hx hb hr hlk hd hS dX0_howOf_31
    · have h := if_n q8 h
      refine lv_iconst (v := 0) hx hb dX0_howOf_26 (by decide) ?_
      refine lv_goto (tgt := 31) hx hb dX0_howOf_27 (by decide) ?_
      obtain ⟨rfl, rfl⟩ := so_e h
      exact rt_i hx hb hr hlk hd hS dX0_howOf_31
  · have h := if_n q4 h
    refine lv_iconst (v := 1) hx hb dX0_howOf_12 (by decide) ?_
    obtain ⟨rfl, rfl⟩ := so_e h
    exact rt_i hx hb hr hlk hd hS dX0_howOf_13
theorem hv_X0_leadOf : yX0_leadOf.cls = RX0 ∧ yX0_leadOf.cls ≠ "java/lang/invoke/MethodHandle" ∧ yX0_leadOf.cls ≠ "java/lang/invoke/VarHandle" ∧ (parseMethodDescriptor yX0_leadOf.desc).map (fun d => d.parameters.length) = some 1 := by decide +kernel
def f_X0_leadOf (μ : Mm) (a0 : Nat) (x1 : Int32) : Option (Int32 × Mm) := bC (f_X0_yesOf μ a0 x1) (fun r2 μ1 => bC (f_J6_bitCount_0f7a4 μ1 r2) (fun r5 μ4 => bC (f_X0_noOf μ4 a0 x1) (fun r8 μ7 => bC (f_J6_bitCount_0f7a4 μ7 r8) (fun r11 μ10 => some (r5 - r11, μ10)))))
set_option maxRecDepth 100000 in
theorem c_X0_leadOf {l : Launch} {D : va_G} {cA : Nat → ClassId} {z : Nat} {μ : Mm} {a0 : Nat} {x1 : Int32} {r : Int32} {μ' : Mm} (hk_a0 : kd a0 = 0) (h : f_X0_leadOf μ a0 x1 = some (r, μ')) : Ct l D cA z yX0_leadOf wsX0_leadOf 1 21 [.ref (z + a0), .int x1] μ (some (.int r)) μ' := by
  refine m_in (cc := cX0_leadOf) (maxL := 2) (ret := (some .int)) (own := RX0) (by decide) rfl rfl (Nat.le_of_ble_eq_true rfl) ?_
  intro p e s m below meth c ls X hd hS hl
  obtain ⟨hx, hb, hr, hlk, hml, hown, hts, hK⟩ := id X
  have hl : lv_has ls 2 [(0, .ref (z + a0)), (1, .int x1)] := hl
  unfold f_X0_leadOf at h
  refine lv_aload_n hx hb dX0_leadOf_0 rfl (lv_at hl 0 rfl) ?_
  refine lv_iload_n hx hb dX0_leadOf_1 rfl (lv_at hl 1 rfl) ?_
  obtain ⟨r2, μ1, hc3, h⟩ := bC_e h
  refine rc_Vi (rest := []) [.int x1] ⟨hx, hb, hml, hown, hts⟩ hK hd hS (c_X0_yesOf hk_a0 hc3) (cwV 1 hts gX0_leadOf_X0_yesOf rfl rfl rfl hv_X0_yesOf ⟨Nat.le_of_ble_eq_true rfl, Nat.le_of_ble_eq_true rfl⟩) hk_a0 rfl rfl rfl rfl hl.1 rfl (Nat.le_of_ble_eq_true rfl) dX0_leadOf_2 ⟨Nat.zero_le _, Nat.zero_le _⟩ (fun H locs hd hS => ?_)
  obtain ⟨r5, μ4, hc6, h⟩ := bC_e h
  refine rc_Si (rest := []) [.int r2] ⟨hx, hb, hml, hown, hts⟩ hK hd hS (c_J6_bitCount_0f7a4  hc6) (va_cwS 1 hts gX0_leadOf_J6_bitCount_0f7a4 rfl rfl rfl hn_J6_bitCount_0f7a4 ⟨Nat.le_of_ble_eq_true rfl, Nat.le_of_ble_eq_true rfl⟩) rfl hl.1 rfl (Nat.le_of_ble_eq_true rfl) dX0_leadOf_5 ⟨Nat.zero_le _, Nat.zero_le _⟩ (fun H locs hd hS => ?_)
  refine lv_aload_n hx hb dX0_leadOf_8 rfl (lv_at hl 0 rfl) ?_
  refine lv_iload_n hx hb dX0_leadOf_9 rfl (lv_at hl 1 rfl) ?_
  obtain ⟨r8, μ7, hc9, h⟩ := bC_e h
  refine rc_Vi (rest := [.int r5]) [.int x1] ⟨hx, hb, hml, hown, hts⟩ hK hd hS (c_X0_noOf hk_a0 hc9) (cwV 1 hts gX0_leadOf_X0_noOf rfl rfl rfl hv_X0_noOf ⟨Nat.le_of_ble_eq_true rfl, Nat.le_of_ble_eq_true rfl⟩) hk_a0 rfl rfl rfl rfl hl.1 rfl (Nat.le_of_ble_eq_true rfl) dX0_leadOf_10 ⟨Nat.zero_le _, Nat.zero_le _⟩ (fun H locs hd hS => ?_)
  obtain ⟨r11, μ10, hc12, h⟩ := bC_e h
  refine rc_Si (rest := [.int r5]) [.int r8] ⟨hx, hb, hml, hown, hts⟩ hK hd hS (c_J6_bitCount_0f7a4  hc12) (va_cwS 1 hts gX0_leadOf_J6_bitCount_0f7a4 rfl rfl rfl hn_J6_bitCount_0f7a4 ⟨Nat.le_of_ble_eq_true rfl, Nat.le_of_ble_eq_true rfl⟩) rfl hl.1 rfl (Nat.le_of_ble_eq_true rfl) dX0_leadOf_13 ⟨Nat.zero_le _, Nat.zero_le _⟩ (fun H locs hd hS => ?_)
  refine lv_isub hx hb dX0_leadOf_16 ?_
  obtain ⟨rfl, rfl⟩ := so_e h
  exact rt_i hx hb hr hlk hd hS dX0_leadOf_17
theorem hn_X9_standBy : yX9_standBy.cls ≠ "java/lang/invoke/MethodHandle" ∧ yX9_standBy.cls ≠ "java/lang/invoke/VarHandle" ∧ (parseMethodDescriptor yX9_standBy.desc).map (fun d => d.parameters.length) = some 1 := by decide +kernel
def f_X9_standBy (μ : Mm) (x0 : Int32) : Option (Int32 × Mm) := if 0 < x0 then (if x0 = (1 : Int32) then (some ((1 : Int32), μ)) else (some ((2 : Int32), μ))) else (some ((0 : Int32), μ))
set_option maxRecDepth 100000 in
theorem c_X9_standBy {l : Launch} {D : va_G} {cA : Nat → ClassId} {z : Nat} {μ : Mm} {x0 : Int32} {r : Int32} {μ' : Mm} (h : f_X9_standBy μ x0 = some (r, μ')) : Ct l D cA z yX9_standBy wsX9_standBy 0 0 [.int x0] μ (some (.int r)) μ' := by
  refine m_in (cc := cX9_standBy) (maxL := 1) (ret := (some .int)) (own := RX9) (by decide) rfl rfl (Nat.le_of_ble_eq_true rfl) ?_
  intro p e s m below meth c ls X hd hS hl
  obtain ⟨hx, hb, hr, hlk, hml, hown, hts, hK⟩ := id X
  have hl : lv_has ls 1 [(0, .int x0)] := hl
  unfold f_X9_standBy at h
  refine lv_iload_n hx hb dX9_standBy_0 rfl (lv_at hl 0 rfl) ?_
  refine lv_if_gt (tgt := 8) hx hb dX9_standBy_1 (by decide) (fun q1 => ?_) (fun q1 => ?_)
  · have h := if_y q1 h
    refine lv_iload_n hx hb dX9_standBy_8 rfl (lv_at hl 0 rfl) ?_
    refine lv_iconst (v := 1) hx hb dX9_standBy_9 (by decide) ?_
    refine lv_icmp_ne (tgt := 17) hx hb dX9_standBy_10 (by decide) (fun q2 => ?_) (fun q2 => ?_)
    · have h := if_n q2 h
      refine lv_iconst (v := 2) hx hb dX9_standBy_17 (by decide) ?_
      obtain ⟨rfl, rfl⟩ := so_e h
      exact rt_i hx hb hr hlk hd hS dX9_standBy_18
    · have h := if_y q2 h
      refine lv_iconst (v := 1) hx hb dX9_standBy_13 (by decide) ?_
      refine lv_goto (tgt := 18) hx hb dX9_standBy_14 (by decide) ?_
      obtain ⟨rfl, rfl⟩ := so_e h
      exact rt_i hx hb hr hlk hd hS dX9_standBy_18
  · have h := if_n q1 h
    refine lv_iconst (v := 0) hx hb dX9_standBy_4 (by decide) ?_
    refine lv_goto (tgt := 18) hx hb dX9_standBy_5 (by decide) ?_
    obtain ⟨rfl, rfl⟩ := so_e h
    exact rt_i hx hb hr hlk hd hS dX9_standBy_18
theorem hv_X0_standOf : yX0_standOf.cls = RX0 ∧ yX0_standOf.cls ≠ "java/lang/invoke/MethodHandle" ∧ yX0_standOf.cls ≠ "java/lang/invoke/VarHandle" ∧ (parseMethodDescriptor yX0_standOf.desc).map (fun d => d.parameters.length) = some 1 := by decide +kernel
def f_X0_standOf (μ : Mm) (a0 : Nat) (x1 : Int32) : Option (Int32 × Mm) := bC (f_X0_leadOf μ a0 x1) (fun r2 μ1 => bC (f_X9_standBy μ1 r2) (fun r5 μ4 => some (r5, μ4)))
set_option maxRecDepth 100000 in
theorem c_X0_standOf {l : Launch} {D : va_G} {cA : Nat → ClassId} {z : Nat} {μ : Mm} {a0 : Nat} {x1 : Int32} {r : Int32} {μ' : Mm} (hk_a0 : kd a0 = 0) (h : f_X0_standOf μ a0 x1 = some (r, μ')) : Ct l D cA z yX0_standOf wsX0_standOf 2 42 [.ref (z + a0), .int x1] μ (some (.int r)) μ' := by
  refine m_in (cc := cX0_standOf) (maxL := 2) (ret := (some .int)) (own := RX0) (by decide) rfl rfl (Nat.le_of_ble_eq_true rfl) ?_
  intro p e s m below meth c ls X hd hS hl
  obtain ⟨hx, hb, hr, hlk, hml, hown, hts, hK⟩ := id X
  have hl : lv_has ls 2 [(0, .ref (z + a0)), (1, .int x1)] := hl
  unfold f_X0_standOf at h
  refine lv_aload_n hx hb dX0_standOf_0 rfl (lv_at hl 0 rfl) ?_
  refine lv_iload_n hx hb dX0_standOf_1 rfl (lv_at hl 1 rfl) ?_
  obtain ⟨r2, μ1, hc3, h⟩ := bC_e h
  refine rc_Vi (rest := []) [.int x1] ⟨hx, hb, hml, hown, hts⟩ hK hd hS (c_X0_leadOf hk_a0 hc3) (cwV 1 hts gX0_standOf_X0_leadOf rfl rfl rfl hv_X0_leadOf ⟨Nat.le_of_ble_eq_true rfl, Nat.le_of_ble_eq_true rfl⟩) hk_a0 rfl rfl rfl rfl hl.1 rfl (Nat.le_of_ble_eq_true rfl) dX0_standOf_2 ⟨Nat.zero_le _, Nat.zero_le _⟩ (fun H locs hd hS => ?_)
  obtain ⟨r5, μ4, hc6, h⟩ := bC_e h
  refine rc_Ni (rest := []) [.int r2] ⟨hx, hb, hml, hown, hts⟩ hK hd hS (c_X9_standBy  hc6) ⟨va_cnB 1 hts gX0_standOf_X9_standBy_n46 rfl rfl rfl hK.2 (hts (.initialized RX9) (List.mem_of_getElem? (i := 24) rfl)) hn_X9_standBy ⟨Nat.le_of_ble_eq_true rfl, Nat.le_of_ble_eq_true rfl⟩, (hts (.static yX9_standBy) (List.mem_of_getElem? (i := 23) rfl)), trivial⟩ rfl hl.1 rfl (Nat.le_of_ble_eq_true rfl) dX0_standOf_5 ⟨Nat.zero_le _, Nat.zero_le _⟩ (fun H locs hd hS => ?_)
  obtain ⟨rfl, rfl⟩ := so_e h
  exact rt_i hx hb hr hlk hd hS dX0_standOf_8
theorem hv_X1_next : yX1_next.cls = RX1 ∧ yX1_next.cls ≠ "java/lang/invoke/MethodHandle" ∧ yX1_next.cls ≠ "java/lang/invoke/VarHandle" ∧ (parseMethodDescriptor yX1_next.desc).map (fun d => d.parameters.length) = some 1 := by decide +kernel
def f_X1_next (μ : Mm) (a0 : Nat) (x1 : Int32) : Option (Int32 × Mm) := bM (up2 μ.1 a0 0 ((((((μ.1 a0 0).toInt64) * (1103515245 : Int64)) + (12345 : Int64)) &&& (2147483647 : Int64)).toInt32), μ.2) (fun μ1 => if x1 ≤ 0 then (some ((0 : Int32), μ1)) else (gd (ck0 x1) (some (((μ1.1 a0 0) / (65536 : Int32)) - ((μ1.1 a0 0) / (65536 : Int32)) / x1 * x1, μ1))))
set_option maxRecDepth 100000 in
theorem c_X1_next {l : Launch} {D : va_G} {cA : Nat → ClassId} {z : Nat} {μ : Mm} {a0 : Nat} {x1 : Int32} {r : Int32} {μ' : Mm} (hk_a0 : kd a0 = 1) (h : f_X1_next μ a0 x1 = some (r, μ')) : Ct l D cA z yX1_next wsX1_next 0 0 [.ref (z + a0), .int x1] μ (some (.int r)) μ' := by
  refine m_in (cc := cX1_next) (maxL := 2) (ret := (some .int)) (own := RX1) (by decide) rfl rfl (Nat.le_of_ble_eq_true rfl) ?_
  intro p e s m below meth c ls X hd hS hl
  obtain ⟨hx, hb, hr, hlk, hml, hown, hts, hK⟩ := id X
  have hl : lv_has ls 2 [(0, .ref (z + a0)), (1, .int x1)] := hl
  unfold f_X1_next at h
  refine lv_aload_n hx hb dX1_next_0 rfl (lv_at hl 0 rfl) ?_
  refine lv_aload_n hx hb dX1_next_1 rfl (lv_at hl 0 rfl) ?_
  refine r_geti hx hb hts (fun w h => List.mem_cons_of_mem _ (List.mem_append_right _ (h))) hown hK hd hk_a0 rfl 0 fs_1_0 (hts (.fieldLink RX1 9 "LevelVotes$Draws" "state" "I") (List.mem_of_getElem? (i := 1) rfl)) dX1_next_2 ?_
  refine lv_i2l hx hb dX1_next_5 rfl ?_
  refine lv_ldc2 (v := 1103515245) hx hb hown (hts (.constantLong RX1 15 (1103515245)) (List.mem_of_getElem? (i := 2) rfl)) dX1_next_6 ?_
  refine lv_lmul hx hb dX1_next_9 ?_
  refine lv_ldc2 (v := 12345) hx hb hown (hts (.constantLong RX1 17 (12345)) (List.mem_of_getElem? (i := 3) rfl)) dX1_next_10 ?_
  refine lv_ladd hx hb dX1_next_13 ?_
  refine lv_ldc2 (v := 2147483647) hx hb hown (hts (.constantLong RX1 19 (2147483647)) (List.mem_of_getElem? (i := 4) rfl)) dX1_next_14 ?_
  refine lv_land hx hb dX1_next_17 ?_
  refine lv_l2i hx hb dX1_next_18 rfl ?_
  refine r_puti hx hb hts (fun w h => List.mem_cons_of_mem _ (List.mem_append_right _ (h))) tyX1 tyX1_ok nmX1 hown hK hd hS hk_a0 rfl 0 fs_1_0 rfl (hts (.fieldLink RX1 9 "LevelVotes$Draws" "state" "I") (List.mem_of_getElem? (i := 1) rfl)) (vp_nar_int _) rfl dX1_next_19 (fun μ1 eμ1 H locs hd hS => ?_)
  have h := bM_e eμ1 h
  refine lv_iload_n hx hb dX1_next_22 rfl (lv_at hl 1 rfl) ?_
  refine lv_if_le (tgt := 38) hx hb dX1_next_23 (by decide) (fun q2 => ?_) (fun q2 => ?_)
  · have h := if_y q2 h
    refine lv_iconst (v := 0) hx hb dX1_next_38 (by decide) ?_
    obtain ⟨rfl, rfl⟩ := so_e h
    exact rt_i hx hb hr hlk hd hS dX1_next_39
  · have h := if_n q2 h
    refine lv_aload_n hx hb dX1_next_26 rfl (lv_at hl 0 rfl) ?_
    refine r_geti hx hb hts (fun w h => List.mem_cons_of_mem _ (List.mem_append_right _ (h))) hown hK hd hk_a0 rfl 0 fs_1_0 (hts (.fieldLink RX1 9 "LevelVotes$Draws" "state" "I") (List.mem_of_getElem? (i := 1) rfl)) dX1_next_27 ?_
    refine lv_ldc (v := 65536) hx hb hown (hts (.constant RX1 21 (65536)) (List.mem_of_getElem? (i := 5) rfl)) dX1_next_30 ?_
    refine lv_idiv hx hb dX1_next_32 (by decide) ?_
    refine lv_iload_n hx hb dX1_next_33 rfl (lv_at hl 1 rfl) ?_
    obtain ⟨g3, h⟩ := gd_e h
    refine lv_irem hx hb dX1_next_34 (ck0_ne g3) ?_
    refine lv_goto (tgt := 39) hx hb dX1_next_35 (by decide) ?_
    obtain ⟨rfl, rfl⟩ := so_e h
    exact rt_i hx hb hr hlk hd hS dX1_next_39
theorem hv_X4_ownHeight : yX4_ownHeight.cls = RX4 ∧ yX4_ownHeight.cls ≠ "java/lang/invoke/MethodHandle" ∧ yX4_ownHeight.cls ≠ "java/lang/invoke/VarHandle" ∧ (parseMethodDescriptor yX4_ownHeight.desc).map (fun d => d.parameters.length) = some 1 := by decide +kernel
def f_X4_ownHeight_j17 (μ : Mm) (a0 : Nat) (ys0 : Int32) : Option (Int32 × Mm) := if ys0 < 0 then (some ((0 : Int32), μ)) else (bR (μ.2 a0 6) (fun b2 => if (Int32.ofNat (ln b2)) ≤ ys0 then (some ((0 : Int32), μ)) else (bR (μ.2 a0 6) (fun b4 => gd (ckb ys0 (ln b4)) (some (μ.1 b4 (ys0).toNatClampNeg, μ))))))
set_option maxRecDepth 100000 in
theorem k_f_X4_ownHeight_j17 {l : Launch} {D : va_G} {cA : Nat → ClassId} {z : Nat} {av : List Value} {p : Program} {e : Env} {s : State} {m : MethodId} {below : List Frame} {meth : Method} {c : Code} {r : Int32} {μ' : Mm} (X : Fx D cA RX4 wsX4_ownHeight cX4_ownHeight 3 (some .int) p s m av.toArray meth c) {μ : Mm} {a0 : Nat} {ys0 : Int32} (hk_a0 : kd a0 = 4) {H : Heap} {locs : List Loc} {ls : Array Slot} (hd : Wd D cA z μ H) (hS : va_S (Az z) s.heap H locs) (hl : lv_has ls 3 [(0, .ref (z + a0))]) (h : f_X4_ownHeight_j17 μ a0 ys0 = some (r, μ')) : WG l D cA z wsX4_ownHeight 0 0 av (some (.int r)) μ' p e s m below meth c H locs (F0 m 17 ls [.int ys0]) := by
  obtain ⟨hx, hb, hr, hlk, hml, hown, hts, hK⟩ := id X
  unfold f_X4_ownHeight_j17 at h
  refine lv_istore_n (lv' := [(2, .int ys0), (0, .ref (z + a0))]) hx hb dX4_ownHeight_17 rfl hl (by decide) rfl (fun ls hl => ?_)
  refine lv_iload_n hx hb dX4_ownHeight_18 rfl (lv_at hl 0 rfl) ?_
  refine lv_if_lt (tgt := 40) hx hb dX4_ownHeight_19 (by decide) (fun q1 => ?_) (fun q1 => ?_)
  · have h := if_y q1 h
    refine lv_iconst (v := 0) hx hb dX4_ownHeight_40 (by decide) ?_
    obtain ⟨rfl, rfl⟩ := so_e h
    exact rt_i hx hb hr hlk hd hS dX4_ownHeight_41
  · have h := if_n q1 h
    refine lv_iload_n hx hb dX4_ownHeight_22 rfl (lv_at hl 0 rfl) ?_
    refine lv_aload_n hx hb dX4_ownHeight_23 rfl (lv_at hl 1 rfl) ?_
    obtain ⟨b2, hb2, h⟩ := bR_e h
    refine r_getr hx hb hts (fun w h => List.mem_cons_of_mem _ (List.mem_append_right _ (h))) hown hK hd hk_a0 hb2 rfl fs_4_6 (hts (.fieldLink RX4 9 "LevelVotes$House" "heights" "[I") (List.mem_of_getElem? (i := 2) rfl)) dX4_ownHeight_24 (fun hq => ?_)
    have hk_b2 : kd b2 = 11 := hq
    refine r_alen hx hb hK hd hk_b2 rfl dX4_ownHeight_27 ?_
    refine lv_icmp_ge (tgt := 40) hx hb dX4_ownHeight_28 (by decide) (fun q3 => ?_) (fun q3 => ?_)
    · have h := if_y q3 h
      refine lv_iconst (v := 0) hx hb dX4_ownHeight_40 (by decide) ?_
      obtain ⟨rfl, rfl⟩ := so_e h
      exact rt_i hx hb hr hlk hd hS dX4_ownHeight_41
    · have h := if_n q3 h
      refine lv_aload_n hx hb dX4_ownHeight_31 rfl (lv_at hl 1 rfl) ?_
      obtain ⟨b4, hb4, h⟩ := bR_e h
      refine r_getr hx hb hts (fun w h => List.mem_cons_of_mem _ (List.mem_append_right _ (h))) hown hK hd hk_a0 hb4 rfl fs_4_6 (hts (.fieldLink RX4 9 "LevelVotes$House" "heights" "[I") (List.mem_of_getElem? (i := 2) rfl)) dX4_ownHeight_32 (fun hq => ?_)
      have hk_b4 : kd b4 = 11 := hq
      refine lv_iload_n hx hb dX4_ownHeight_35 rfl (lv_at hl 0 rfl) ?_
      obtain ⟨g5, h⟩ := gd_e h
      refine r_iald hx hb hK hd hk_b4 (ckb_in g5) dX4_ownHeight_36 ?_
      refine lv_goto (tgt := 41) hx hb dX4_ownHeight_37 (by decide) ?_
      obtain ⟨rfl, rfl⟩ := so_e h
      exact rt_i hx hb hr hlk hd hS dX4_ownHeight_41
def f_X4_ownHeight (μ : Mm) (a0 : Nat) (x1 : Int32) : Option (Int32 × Mm) := if (μ.1 a0 5) ≤ 0 then (f_X4_ownHeight_j17 μ a0 (-1 : Int32)) else (gd (ck0 (μ.1 a0 5)) (f_X4_ownHeight_j17 μ a0 (x1 - x1 / (μ.1 a0 5) * (μ.1 a0 5))))
set_option maxRecDepth 100000 in
theorem c_X4_ownHeight {l : Launch} {D : va_G} {cA : Nat → ClassId} {z : Nat} {μ : Mm} {a0 : Nat} {x1 : Int32} {r : Int32} {μ' : Mm} (hk_a0 : kd a0 = 4) (h : f_X4_ownHeight μ a0 x1 = some (r, μ')) : Ct l D cA z yX4_ownHeight wsX4_ownHeight 0 0 [.ref (z + a0), .int x1] μ (some (.int r)) μ' := by
  refine m_in (cc := cX4_ownHeight) (maxL := 3) (ret := (some .int)) (own := RX4) (by decide) rfl rfl (Nat.le_of_ble_eq_true rfl) ?_
  intro p e s m below meth c ls X hd hS hl
  obtain ⟨hx, hb, hr, hlk, hml, hown, hts, hK⟩ := id X
  have hl : lv_has ls 3 [(0, .ref (z + a0)), (1, .int x1)] := hl
  unfold f_X4_ownHeight at h
  refine lv_aload_n hx hb dX4_ownHeight_0 rfl (lv_at hl 0 rfl) ?_
  refine r_geti hx hb hts (fun w h => List.mem_cons_of_mem _ (List.mem_append_right _ (h))) hown hK hd hk_a0 rfl 5 fs_4_5 (hts (.fieldLink RX4 47 "LevelVotes$House" "heightsTold" "I") (List.mem_of_getElem? (i := 1) rfl)) dX4_ownHeight_1 ?_
  refine lv_if_le (tgt := 16) hx hb dX4_ownHeight_4 (by decide) (fun q1 => ?_) (fun q1 => ?_)
  · have h := if_y q1 h
    refine lv_iconst (v := -1) hx hb dX4_ownHeight_16 (by decide) ?_
    exact k_f_X4_ownHeight_j17 X hk_a0 hd hS (lv_sub hl [0] rfl) h
  · have h := if_n q1 h
    refine lv_iload_n hx hb dX4_ownHeight_7 rfl (lv_at hl 1 rfl) ?_
    refine lv_aload_n hx hb dX4_ownHeight_8 rfl (lv_at hl 0 rfl) ?_
    refine r_geti hx hb hts (fun w h => List.mem_cons_of_mem _ (List.mem_append_right _ (h))) hown hK hd hk_a0 rfl 5 fs_4_5 (hts (.fieldLink RX4 47 "LevelVotes$House" "heightsTold" "I") (List.mem_of_getElem? (i := 1) rfl)) dX4_ownHeight_9 ?_
    obtain ⟨g2, h⟩ := gd_e h
    refine lv_irem hx hb dX4_ownHeight_12 (ck0_ne g2) ?_
    refine lv_goto (tgt := 17) hx hb dX4_ownHeight_13 (by decide) ?_
    exact k_f_X4_ownHeight_j17 X hk_a0 hd hS (lv_sub hl [0] rfl) h
theorem hv_X8_standOf : yX8_standOf.cls = RX8 ∧ yX8_standOf.cls ≠ "java/lang/invoke/MethodHandle" ∧ yX8_standOf.cls ≠ "java/lang/invoke/VarHandle" ∧ (parseMethodDescriptor yX8_standOf.desc).map (fun d => d.parameters.length) = some 1 := by decide +kernel
def f_X8_standOf (μ : Mm) (a0 : Nat) (x1 : Int32) : Option (Int32 × Mm) := if x1 < 0 then (some ((0 : Int32), μ)) else (if (μ.1 a0 1) ≤ x1 then (some ((0 : Int32), μ)) else (bR (μ.2 a0 0) (fun b3 => if (Int32.ofNat (ln b3)) ≤ x1 then (some ((0 : Int32), μ)) else (bR (μ.2 a0 0) (fun b5 => gd (ckb x1 (ln b5)) (some (μ.1 b5 (x1).toNatClampNeg, μ)))))))
set_option maxRecDepth 100000 in
theorem c_X8_standOf {l : Launch} {D : va_G} {cA : Nat → ClassId} {z : Nat} {μ : Mm} {a0 : Nat} {x1 : Int32} {r : Int32} {μ' : Mm} (hk_a0 : kd a0 = 8) (h : f_X8_standOf μ a0 x1 = some (r, μ')) : Ct l D cA z yX8_standOf wsX8_standOf 0 0 [.ref (z + a0), .int x1] μ (some (.int r)) μ' := by
  refine m_in (cc := cX8_standOf) (maxL := 2) (ret := (some .int)) (own := RX8) (by decide) rfl rfl (Nat.le_of_ble_eq_true rfl) ?_
  intro p e s m below meth c ls X hd hS hl
  obtain ⟨hx, hb, hr, hlk, hml, hown, hts, hK⟩ := id X
  have hl : lv_has ls 2 [(0, .ref (z + a0)), (1, .int x1)] := hl
  unfold f_X8_standOf at h
  refine lv_iload_n hx hb dX8_standOf_0 rfl (lv_at hl 1 rfl) ?_
  refine lv_if_lt (tgt := 30) hx hb dX8_standOf_1 (by decide) (fun q1 => ?_) (fun q1 => ?_)
  · have h := if_y q1 h
    refine lv_iconst (v := 0) hx hb dX8_standOf_30 (by decide) ?_
    obtain ⟨rfl, rfl⟩ := so_e h
    exact rt_i hx hb hr hlk hd hS dX8_standOf_31
  · have h := if_n q1 h
    refine lv_iload_n hx hb dX8_standOf_4 rfl (lv_at hl 1 rfl) ?_
    refine lv_aload_n hx hb dX8_standOf_5 rfl (lv_at hl 0 rfl) ?_
    refine r_geti hx hb hts (fun w h => List.mem_cons_of_mem _ (List.mem_append_right _ (h))) hown hK hd hk_a0 rfl 1 fs_8_1 (hts (.fieldLink RX8 21 "LevelVotes$Way" "items" "I") (List.mem_of_getElem? (i := 1) rfl)) dX8_standOf_6 ?_
    refine lv_icmp_ge (tgt := 30) hx hb dX8_standOf_9 (by decide) (fun q2 => ?_) (fun q2 => ?_)
    · have h := if_y q2 h
      refine lv_iconst (v := 0) hx hb dX8_standOf_30 (by decide) ?_
      obtain ⟨rfl, rfl⟩ := so_e h
      exact rt_i hx hb hr hlk hd hS dX8_standOf_31
    · have h := if_n q2 h
      refine lv_iload_n hx hb dX8_standOf_12 rfl (lv_at hl 1 rfl) ?_
      refine lv_aload_n hx hb dX8_standOf_13 rfl (lv_at hl 0 rfl) ?_
      obtain ⟨b3, hb3, h⟩ := bR_e h
      refine r_getr hx hb hts (fun w h => List.mem_cons_of_mem _ (List.mem_append_right _ (h))) hown hK hd hk_a0 hb3 rfl fs_8_0 (hts (.fieldLink RX8 9 "LevelVotes$Way" "stands" "[I") (List.mem_of_getElem? (i := 2) rfl)) dX8_standOf_14 (fun hq => ?_)
      have hk_b3 : kd b3 = 11 := hq
      refine r_alen hx hb hK hd hk_b3 rfl dX8_standOf_17 ?_
      refine lv_icmp_ge (tgt := 30) hx hb dX8_standOf_18 (by decide) (fun q4 => ?_) (fun q4 => ?_)
      · have h := if_y q4 h
        refine lv_iconst (v := 0) hx hb dX8_standOf_30 (by decide) ?_
        obtain ⟨rfl, rfl⟩ := so_e h
        exact rt_i hx hb hr hlk hd hS dX8_standOf_31
      · have h := if_n q4 h
        refine lv_aload_n hx hb dX8_standOf_21 rfl (lv_at hl 0 rfl) ?_
        obtain ⟨b5, hb5, h⟩ := bR_e h
        refine r_getr hx hb hts (fun w h => List.mem_cons_of_mem _ (List.mem_append_right _ (h))) hown hK hd hk_a0 hb5 rfl fs_8_0 (hts (.fieldLink RX8 9 "LevelVotes$Way" "stands" "[I") (List.mem_of_getElem? (i := 2) rfl)) dX8_standOf_22 (fun hq => ?_)
        have hk_b5 : kd b5 = 11 := hq
        refine lv_iload_n hx hb dX8_standOf_25 rfl (lv_at hl 1 rfl) ?_
        obtain ⟨g6, h⟩ := gd_e h
        refine r_iald hx hb hK hd hk_b5 (ckb_in g6) dX8_standOf_26 ?_
        refine lv_goto (tgt := 31) hx hb dX8_standOf_27 (by decide) ?_
        obtain ⟨rfl, rfl⟩ := so_e h
        exact rt_i hx hb hr hlk hd hS dX8_standOf_31
theorem hv_X4_cellsOf : yX4_cellsOf.cls = RX4 ∧ yX4_cellsOf.cls ≠ "java/lang/invoke/MethodHandle" ∧ yX4_cellsOf.cls ≠ "java/lang/invoke/VarHandle" ∧ (parseMethodDescriptor yX4_cellsOf.desc).map (fun d => d.parameters.length) = some 1 := by decide +kernel
def f_X4_cellsOf (μ : Mm) (a0 : Nat) (x1 : Int32) : Option (Int32 × Mm) := if x1 < 0 then (some ((0 : Int32), μ)) else (bR (μ.2 a0 7) (fun b2 => if (Int32.ofNat (ln b2)) ≤ x1 then (some ((0 : Int32), μ)) else (bR (μ.2 a0 7) (fun b4 => gd (ckb x1 (ln b4)) (some (μ.1 b4 (x1).toNatClampNeg, μ))))))
set_option maxRecDepth 100000 in
theorem c_X4_cellsOf {l : Launch} {D : va_G} {cA : Nat → ClassId} {z : Nat} {μ : Mm} {a0 : Nat} {x1 : Int32} {r : Int32} {μ' : Mm} (hk_a0 : kd a0 = 4) (h : f_X4_cellsOf μ a0 x1 = some (r, μ')) : Ct l D cA z yX4_cellsOf wsX4_cellsOf 0 0 [.ref (z + a0), .int x1] μ (some (.int r)) μ' := by
  refine m_in (cc := cX4_cellsOf) (maxL := 2) (ret := (some .int)) (own := RX4) (by decide) rfl rfl (Nat.le_of_ble_eq_true rfl) ?_
  intro p e s m below meth c ls X hd hS hl
  obtain ⟨hx, hb, hr, hlk, hml, hown, hts, hK⟩ := id X
  have hl : lv_has ls 2 [(0, .ref (z + a0)), (1, .int x1)] := hl
  unfold f_X4_cellsOf at h
  refine lv_iload_n hx hb dX4_cellsOf_0 rfl (lv_at hl 1 rfl) ?_
  refine lv_if_lt (tgt := 22) hx hb dX4_cellsOf_1 (by decide) (fun q1 => ?_) (fun q1 => ?_)
  · have h := if_y q1 h
    refine lv_iconst (v := 0) hx hb dX4_cellsOf_22 (by decide) ?_
    obtain ⟨rfl, rfl⟩ := so_e h
    exact rt_i hx hb hr hlk hd hS dX4_cellsOf_23
  · have h := if_n q1 h
    refine lv_iload_n hx hb dX4_cellsOf_4 rfl (lv_at hl 1 rfl) ?_
    refine lv_aload_n hx hb dX4_cellsOf_5 rfl (lv_at hl 0 rfl) ?_
    obtain ⟨b2, hb2, h⟩ := bR_e h
    refine r_getr hx hb hts (fun w h => List.mem_cons_of_mem _ (List.mem_append_right _ (h))) hown hK hd hk_a0 hb2 rfl fs_4_7 (hts (.fieldLink RX4 15 "LevelVotes$House" "sets" "[I") (List.mem_of_getElem? (i := 1) rfl)) dX4_cellsOf_6 (fun hq => ?_)
    have hk_b2 : kd b2 = 11 := hq
    refine r_alen hx hb hK hd hk_b2 rfl dX4_cellsOf_9 ?_
    refine lv_icmp_ge (tgt := 22) hx hb dX4_cellsOf_10 (by decide) (fun q3 => ?_) (fun q3 => ?_)
    · have h := if_y q3 h
      refine lv_iconst (v := 0) hx hb dX4_cellsOf_22 (by decide) ?_
      obtain ⟨rfl, rfl⟩ := so_e h
      exact rt_i hx hb hr hlk hd hS dX4_cellsOf_23
    · have h := if_n q3 h
      refine lv_aload_n hx hb dX4_cellsOf_13 rfl (lv_at hl 0 rfl) ?_
      obtain ⟨b4, hb4, h⟩ := bR_e h
      refine r_getr hx hb hts (fun w h => List.mem_cons_of_mem _ (List.mem_append_right _ (h))) hown hK hd hk_a0 hb4 rfl fs_4_7 (hts (.fieldLink RX4 15 "LevelVotes$House" "sets" "[I") (List.mem_of_getElem? (i := 1) rfl)) dX4_cellsOf_14 (fun hq => ?_)
      have hk_b4 : kd b4 = 11 := hq
      refine lv_iload_n hx hb dX4_cellsOf_17 rfl (lv_at hl 1 rfl) ?_
      obtain ⟨g5, h⟩ := gd_e h
      refine r_iald hx hb hK hd hk_b4 (ckb_in g5) dX4_cellsOf_18 ?_
      refine lv_goto (tgt := 23) hx hb dX4_cellsOf_19 (by decide) ?_
      obtain ⟨rfl, rfl⟩ := so_e h
      exact rt_i hx hb hr hlk hd hS dX4_cellsOf_23
theorem hv_X4_levelOf : yX4_levelOf.cls = RX4 ∧ yX4_levelOf.cls ≠ "java/lang/invoke/MethodHandle" ∧ yX4_levelOf.cls ≠ "java/lang/invoke/VarHandle" ∧ (parseMethodDescriptor yX4_levelOf.desc).map (fun d => d.parameters.length) = some 1 := by decide +kernel
def f_X4_levelOf (μ : Mm) (a0 : Nat) (x1 : Int32) : Option (Int32 × Mm) := if x1 < 0 then (some ((0 : Int32), μ)) else (bR (μ.2 a0 8) (fun b2 => if (Int32.ofNat (ln b2)) ≤ x1 then (some ((0 : Int32), μ)) else (bR (μ.2 a0 8) (fun b4 => gd (ckb x1 (ln b4)) (some (μ.1 b4 (x1).toNatClampNeg, μ))))))
set_option maxRecDepth 100000 in
theorem c_X4_levelOf {l : Launch} {D : va_G} {cA : Nat → ClassId} {z : Nat} {μ : Mm} {a0 : Nat} {x1 : Int32} {r : Int32} {μ' : Mm} (hk_a0 : kd a0 = 4) (h : f_X4_levelOf μ a0 x1 = some (r, μ')) : Ct l D cA z yX4_levelOf wsX4_levelOf 0 0 [.ref (z + a0), .int x1] μ (some (.int r)) μ' := by
  refine m_in (cc := cX4_levelOf) (maxL := 2) (ret := (some .int)) (own := RX4) (by decide) rfl rfl (Nat.le_of_ble_eq_true rfl) ?_
  intro p e s m below meth c ls X hd hS hl
  obtain ⟨hx, hb, hr, hlk, hml, hown, hts, hK⟩ := id X
  have hl : lv_has ls 2 [(0, .ref (z + a0)), (1, .int x1)] := hl
  unfold f_X4_levelOf at h
  refine lv_iload_n hx hb dX4_levelOf_0 rfl (lv_at hl 1 rfl) ?_
  refine lv_if_lt (tgt := 22) hx hb dX4_levelOf_1 (by decide) (fun q1 => ?_) (fun q1 => ?_)
  · have h := if_y q1 h
    refine lv_iconst (v := 0) hx hb dX4_levelOf_22 (by decide) ?_
    obtain ⟨rfl, rfl⟩ := so_e h
    exact rt_i hx hb hr hlk hd hS dX4_levelOf_23
  · have h := if_n q1 h
    refine lv_iload_n hx hb dX4_levelOf_4 rfl (lv_at hl 1 rfl) ?_
    refine lv_aload_n hx hb dX4_levelOf_5 rfl (lv_at hl 0 rfl) ?_
    obtain ⟨b2, hb2, h⟩ := bR_e h
    refine r_getr hx hb hts (fun w h => List.mem_cons_of_mem _ (List.mem_append_right _ (h))) hown hK hd hk_a0 hb2 rfl fs_4_8 (hts (.fieldLink RX4 18 "LevelVotes$House" "levels" "[I") (List.mem_of_getElem? (i := 1) rfl)) dX4_levelOf_6 (fun hq => ?_)
    have hk_b2 : kd b2 = 11 := hq
    refine r_alen hx hb hK hd hk_b2 rfl dX4_levelOf_9 ?_
    refine lv_icmp_ge (tgt := 22) hx hb dX4_levelOf_10 (by decide) (fun q3 => ?_) (fun q3 => ?_)
    · have h := if_y q3 h
      refine lv_iconst (v := 0) hx hb dX4_levelOf_22 (by decide) ?_
      obtain ⟨rfl, rfl⟩ := so_e h
      exact rt_i hx hb hr hlk hd hS dX4_levelOf_23
    · have h := if_n q3 h
      refine lv_aload_n hx hb dX4_levelOf_13 rfl (lv_at hl 0 rfl) ?_
      obtain ⟨b4, hb4, h⟩ := bR_e h
      refine r_getr hx hb hts (fun w h => List.mem_cons_of_mem _ (List.mem_append_right _ (h))) hown hK hd hk_a0 hb4 rfl fs_4_8 (hts (.fieldLink RX4 18 "LevelVotes$House" "levels" "[I") (List.mem_of_getElem? (i := 1) rfl)) dX4_levelOf_14 (fun hq => ?_)
      have hk_b4 : kd b4 = 11 := hq
      refine lv_iload_n hx hb dX4_levelOf_17 rfl (lv_at hl 1 rfl) ?_
      obtain ⟨g5, h⟩ := gd_e h
      refine r_iald hx hb hK hd hk_b4 (ckb_in g5) dX4_levelOf_18 ?_
      refine lv_goto (tgt := 23) hx hb dX4_levelOf_19 (by decide) ?_
      obtain ⟨rfl, rfl⟩ := so_e h
      exact rt_i hx hb hr hlk hd hS dX4_levelOf_23
theorem hv_X4_firstColumnOf : yX4_firstColumnOf.cls = RX4 ∧ yX4_firstColumnOf.cls ≠ "java/lang/invoke/MethodHandle" ∧ yX4_firstColumnOf.cls ≠ "java/lang/invoke/VarHandle" ∧ (parseMethodDescriptor yX4_firstColumnOf.desc).map (fun d => d.parameters.length) = some 1 := by decide +kernel
def f_X4_firstColumnOf (μ : Mm) (a0 : Nat) (x1 : Int32) : Option (Int32 × Mm) := if x1 < 0 then (some ((0 : Int32), μ)) else (bR (μ.2 a0 9) (fun b2 => if (Int32.ofNat (ln b2)) ≤ x1 then (some ((0 : Int32), μ)) else (bR (μ.2 a0 9) (fun b4 => gd (ckb x1 (ln b4)) (some (μ.1 b4 (x1).toNatClampNeg, μ))))))
set_option maxRecDepth 100000 in
theorem c_X4_firstColumnOf {l : Launch} {D : va_G} {cA : Nat → ClassId} {z : Nat} {μ : Mm} {a0 : Nat} {x1 : Int32} {r : Int32} {μ' : Mm} (hk_a0 : kd a0 = 4) (h : f_X4_firstColumnOf μ a0 x1 = some (r, μ')) : Ct l D cA z yX4_firstColumnOf wsX4_firstColumnOf 0 0 [.ref (z + a0), .int x1] μ (some (.int r)) μ' := by
  refine m_in (cc := cX4_firstColumnOf) (maxL := 2) (ret := (some .int)) (own := RX4) (by decide) rfl rfl (Nat.le_of_ble_eq_true rfl) ?_
  intro p e s m below meth c ls X hd hS hl
  obtain ⟨hx, hb, hr, hlk, hml, hown, hts, hK⟩ := id X
  have hl : lv_has ls 2 [(0, .ref (z + a0)), (1, .int x1)] := hl
  unfold f_X4_firstColumnOf at h
  refine lv_iload_n hx hb dX4_firstColumnOf_0 rfl (lv_at hl 1 rfl) ?_
  refine lv_if_lt (tgt := 22) hx hb dX4_firstColumnOf_1 (by decide) (fun q1 => ?_) (fun q1 => ?_)
  · have h := if_y q1 h
    refine lv_iconst (v := 0) hx hb dX4_firstColumnOf_22 (by decide) ?_
    obtain ⟨rfl, rfl⟩ := so_e h
    exact rt_i hx hb hr hlk hd hS dX4_firstColumnOf_23
  · have h := if_n q1 h
    refine lv_iload_n hx hb dX4_firstColumnOf_4 rfl (lv_at hl 1 rfl) ?_
    refine lv_aload_n hx hb dX4_firstColumnOf_5 rfl (lv_at hl 0 rfl) ?_
    obtain ⟨b2, hb2, h⟩ := bR_e h
    refine r_getr hx hb hts (fun w h => List.mem_cons_of_mem _ (List.mem_append_right _ (h))) hown hK hd hk_a0 hb2 rfl fs_4_9 (hts (.fieldLink RX4 21 "LevelVotes$House" "firstColumns" "[I") (List.mem_of_getElem? (i := 1) rfl)) dX4_firstColumnOf_6 (fun hq => ?_)
    have hk_b2 : kd b2 = 11 := hq
    refine r_alen hx hb hK hd hk_b2 rfl dX4_firstColumnOf_9 ?_
    refine lv_icmp_ge (tgt := 22) hx hb dX4_firstColumnOf_10 (by decide) (fun q3 => ?_) (fun q3 => ?_)
    · have h := if_y q3 h
      refine lv_iconst (v := 0) hx hb dX4_firstColumnOf_22 (by decide) ?_
      obtain ⟨rfl, rfl⟩ := so_e h
      exact rt_i hx hb hr hlk hd hS dX4_firstColumnOf_23
    · have h := if_n q3 h
      refine lv_aload_n hx hb dX4_firstColumnOf_13 rfl (lv_at hl 0 rfl) ?_
      obtain ⟨b4, hb4, h⟩ := bR_e h
      refine r_getr hx hb hts (fun w h => List.mem_cons_of_mem _ (List.mem_append_right _ (h))) hown hK hd hk_a0 hb4 rfl fs_4_9 (hts (.fieldLink RX4 21 "LevelVotes$House" "firstColumns" "[I") (List.mem_of_getElem? (i := 1) rfl)) dX4_firstColumnOf_14 (fun hq => ?_)
      have hk_b4 : kd b4 = 11 := hq
      refine lv_iload_n hx hb dX4_firstColumnOf_17 rfl (lv_at hl 1 rfl) ?_
      obtain ⟨g5, h⟩ := gd_e h
      refine r_iald hx hb hK hd hk_b4 (ckb_in g5) dX4_firstColumnOf_18 ?_
      refine lv_goto (tgt := 23) hx hb dX4_firstColumnOf_19 (by decide) ?_
      obtain ⟨rfl, rfl⟩ := so_e h
      exact rt_i hx hb hr hlk hd hS dX4_firstColumnOf_23
theorem hv_X4_columnOf : yX4_columnOf.cls = RX4 ∧ yX4_columnOf.cls ≠ "java/lang/invoke/MethodHandle" ∧ yX4_columnOf.cls ≠ "java/lang/invoke/VarHandle" ∧ (parseMethodDescriptor yX4_columnOf.desc).map (fun d => d.parameters.length) = some 1 := by decide +kernel
def f_X4_columnOf (μ : Mm) (a0 : Nat) (x1 : Int32) : Option (Int32 × Mm) := if (μ.1 a0 0) ≤ 0 then (some ((0 : Int32), μ)) else (gd (ck0 (μ.1 a0 0)) (some (x1 - x1 / (μ.1 a0 0) * (μ.1 a0 0), μ)))
set_option maxRecDepth 100000 in
theorem c_X4_columnOf {l : Launch} {D : va_G} {cA : Nat → ClassId} {z : Nat} {μ : Mm} {a0 : Nat} {x1 : Int32} {r : Int32} {μ' : Mm} (hk_a0 : kd a0 = 4) (h : f_X4_columnOf μ a0 x1 = some (r, μ')) : Ct l D cA z yX4_columnOf wsX4_columnOf 0 0 [.ref (z + a0), .int x1] μ (some (.int r)) μ' := by
  refine m_in (cc := cX4_columnOf) (maxL := 2) (ret := (some .int)) (own := RX4) (by decide) rfl rfl (Nat.le_of_ble_eq_true rfl) ?_
  intro p e s m below meth c ls X hd hS hl
  obtain ⟨hx, hb, hr, hlk, hml, hown, hts, hK⟩ := id X
  have hl : lv_has ls 2 [(0, .ref (z + a0)), (1, .int x1)] := hl
  unfold f_X4_columnOf at h
  refine lv_aload_n hx hb dX4_columnOf_0 rfl (lv_at hl 0 rfl) ?_
  refine r_geti hx hb hts (fun w h => List.mem_cons_of_mem _ (List.mem_append_right _ (h))) hown hK hd hk_a0 rfl 0 fs_4_0 (hts (.fieldLink RX4 31 "LevelVotes$House" "columns" "I") (List.mem_of_getElem? (i := 1) rfl)) dX4_columnOf_1 ?_
  refine lv_if_le (tgt := 16) hx hb dX4_columnOf_4 (by decide) (fun q1 => ?_) (fun q1 => ?_)
  · have h := if_y q1 h
    refine lv_iconst (v := 0) hx hb dX4_columnOf_16 (by decide) ?_
    obtain ⟨rfl, rfl⟩ := so_e h
    exact rt_i hx hb hr hlk hd hS dX4_columnOf_17
  · have h := if_n q1 h
    refine lv_iload_n hx hb dX4_columnOf_7 rfl (lv_at hl 1 rfl) ?_
    refine lv_aload_n hx hb dX4_columnOf_8 rfl (lv_at hl 0 rfl) ?_
    refine r_geti hx hb hts (fun w h => List.mem_cons_of_mem _ (List.mem_append_right _ (h))) hown hK hd hk_a0 rfl 0 fs_4_0 (hts (.fieldLink RX4 31 "LevelVotes$House" "columns" "I") (List.mem_of_getElem? (i := 1) rfl)) dX4_columnOf_9 ?_
    obtain ⟨g2, h⟩ := gd_e h
    refine lv_irem hx hb dX4_columnOf_12 (ck0_ne g2) ?_
    refine lv_goto (tgt := 17) hx hb dX4_columnOf_13 (by decide) ?_
    obtain ⟨rfl, rfl⟩ := so_e h
    exact rt_i hx hb hr hlk hd hS dX4_columnOf_17
theorem hv_X2_lay : yX2_lay.cls = RX2 ∧ yX2_lay.cls ≠ "java/lang/invoke/MethodHandle" ∧ yX2_lay.cls ≠ "java/lang/invoke/VarHandle" ∧ (parseMethodDescriptor yX2_lay.desc).map (fun d => d.parameters.length) = some 3 := by decide +kernel
abbrev HL_X2_lay_43 (l : Launch) (D : va_G) (cA : Nat → ClassId) (z : Nat) (av : List Value) (μ' : Mm) (p : Program) (e : Env) (s : State) (m : MethodId) (below : List Frame) (meth : Method) (c : Code) (rc : Mm → Nat → Nat → Int32 → Int32 → Int32 → Int32 → Int32 → Int32 → Option Mm) : Prop := ∀ (μ : Mm) (H : Heap) (locs : List Loc) (ls : Array Slot) (a0 : Nat) (a1 : Nat) (x2 : Int32) (x4 : Int32) (x5 : Int32) (x6 : Int32) (x7 : Int32) (x8 : Int32), kd a0 = 2 → kd a1 = 4 → Wd D cA z μ H → va_S (Az z) s.heap H locs → lv_has ls 9 [(0, .ref (z + a0)), (1, .ref (z + a1)), (2, .int x2), (4, .int x4), (5, .int x5), (6, .int x6), (7, .int x7), (8, .int x8)] → rc μ a0 a1 x2 x4 x5 x6 x7 x8 = some μ' → WG l D cA z wsX2_lay 1 24 av none μ' p e s m below meth c H locs (F0 m 43 ls [])
def f_X2_lay_j95 (rc43 : Mm → Nat → Nat → Int32 → Int32 → Int32 → Int32 → Int32 → Int32 → Option Mm) (μ : Mm) (a0 : Nat) (a1 : Nat) (x2 : Int32) (x4 : Int32) (x5 : Int32) (x6 : Int32) (x7 : Int32) (x8 : Int32) : Option Mm := rc43 μ a0 a1 x2 x4 x5 x6 x7 (x8 + (1 : Int32))
set_option maxRecDepth 100000 in
theorem k_f_X2_lay_j95 {l : Launch} {D : va_G} {cA : Nat → ClassId} {z : Nat} {av : List Value} {p : Program} {e : Env} {s : State} {m : MethodId} {below : List Frame} {meth : Method} {c : Code} {μ' : Mm} (X : Fx D cA RX2 wsX2_lay cX2_lay 9 none p s m av.toArray meth c) {rc43 : Mm → Nat → Nat → Int32 → Int32 → Int32 → Int32 → Int32 → Int32 → Option Mm} (hrc43 : HL_X2_lay_43 l D cA z av μ' p e s m below meth c rc43) {μ : Mm} {a0 : Nat} {a1 : Nat} {x2 : Int32} {x4 : Int32} {x5 : Int32} {x6 : Int32} {x7 : Int32} {x8 : Int32} (hk_a0 : kd a0 = 2) (hk_a1 : kd a1 = 4) {H : Heap} {locs : List Loc} {ls : Array Slot} (hd : Wd D cA z μ H) (hS : va_S (Az z) s.heap H locs) (hl : lv_has ls 9 [(0, .ref (z + a0)), (1, .ref (z + a1)), (2, .int x2), (4, .int x4), (5, .int x5), (6, .int x6), (7, .int x7), (8, .int x8)]) (h : f_X2_lay_j95 rc43 μ a0 a1 x2 x4 x5 x6 x7 x8 = some μ') : WG l D cA z wsX2_lay 1 24 av none μ' p e s m below meth c H locs (F0 m 95 ls []) := by
  obtain ⟨hx, hb, hr, hlk, hml, hown, hts, hK⟩ := id X
  unfold f_X2_lay_j95 at h
  refine lv_iinc (v := x8 + (1 : Int32)) (lv' := [(8, .int (x8 + (1 : Int32))), (0, .ref (z + a0)), (1, .ref (z + a1)), (2, .int x2), (4, .int x4), (5, .int x5), (6, .int x6), (7, .int x7)]) hx hb dX2_lay_95 hl (k := 7) rfl rfl (by decide) rfl (fun ls hl => ?_)
  refine lv_goto (tgt := 43) hx hb dX2_lay_98 (by decide) ?_
  exact hrc43 _ _ _ _ _ _ _ _ _ _ _ _ hk_a0 hk_a1 hd hS (lv_sub hl [1, 2, 3, 4, 5, 6, 7, 0] rfl) h
def f_X2_lay_j86 (rc43 : Mm → Nat → Nat → Int32 → Int32 → Int32 → Int32 → Int32 → Int32 → Option Mm) (μ : Mm) (a0 : Nat) (a1 : Nat) (x2 : Int32) (x4 : Int32) (x5 : Int32) (x6 : Int32) (x7 : Int32) (x8 : Int32) (ys0 : Int32) (ys1 : Int32) (bs2 : Nat) : Option Mm := gd (ckb ys1 (ln bs2)) (bM (up2 μ.1 bs2 (ys1).toNatClampNeg ys0, μ.2) (fun μ2 => bR (μ2.2 a0 1) (fun b3 => gd (ckb x8 (ln b3)) (bM (up2 μ2.1 b3 (x8).toNatClampNeg x2, μ2.2) (fun μ5 => f_X2_lay_j95 rc43 μ5 a0 a1 x2 x4 x5 x6 x7 x8)))))
set_option maxRecDepth 100000 in
theorem k_f_X2_lay_j86 {l : Launch} {D : va_G} {cA : Nat → ClassId} {z : Nat} {av : List Value} {p : Program} {e : Env} {s : State} {m : MethodId} {below : List Frame} {meth : Method} {c : Code} {μ' : Mm} (X : Fx D cA RX2 wsX2_lay cX2_lay 9 none p s m av.toArray meth c) {rc43 : Mm → Nat → Nat → Int32 → Int32 → Int32 → Int32 → Int32 → Int32 → Option Mm} (hrc43 : HL_X2_lay_43 l D cA z av μ' p e s m below meth c rc43) {μ : Mm} {a0 : Nat} {a1 : Nat} {x2 : Int32} {x4 : Int32} {x5 : Int32} {x6 : Int32} {x7 : Int32} {x8 : Int32} {ys0 : Int32} {ys1 : Int32} {bs2 : Nat} (hk_a0 : kd a0 = 2) (hk_a1 : kd a1 = 4) (hk_bs2 : kd bs2 = 11) {H : Heap} {locs : List Loc} {ls : Array Slot} (hd : Wd D cA z μ H) (hS : va_S (Az z) s.heap H locs) (hl : lv_has ls 9 [(0, .ref (z + a0)), (1, .ref (z + a1)), (2, .int x2), (4, .int x4), (5, .int x5), (6, .int x6), (7, .int x7), (8, .int x8)]) (h : f_X2_lay_j86 rc43 μ a0 a1 x2 x4 x5 x6 x7 x8 ys0 ys1 bs2 = some μ') : WG l D cA z wsX2_lay 1 24 av none μ' p e s m below meth c H locs (F0 m 86 ls [.int ys0, .int ys1, .ref (z + bs2)]) := by
  obtain ⟨hx, hb, hr, hlk, hml, hown, hts, hK⟩ := id X
  unfold f_X2_lay_j86 at h
  obtain ⟨g1, h⟩ := gd_e h
  refine r_iast hx hb hK hd hS hk_bs2 (ckb_in g1) dX2_lay_86 (fun μ2 eμ2 H locs hd hS => ?_)
  have h := bM_e eμ2 h
  refine lv_aload_n hx hb dX2_lay_87 rfl (lv_at hl 0 rfl) ?_
  obtain ⟨b3, hb3, h⟩ := bR_e h
  refine r_getr hx hb hts (fun w h => List.mem_cons_of_mem _ (List.mem_append_left _ (List.mem_append_right _ (h)))) hown hK hd hk_a0 hb3 rfl fs_2_1 (hts (.fieldLink RX2 15 "LevelVotes$Hill" "shapers" "[I") (List.mem_of_getElem? (i := 7) rfl)) dX2_lay_88 (fun hq => ?_)
  have hk_b3 : kd b3 = 11 := hq
  refine lv_iload hx hb dX2_lay_91 (lv_at hl 7 rfl) ?_
  refine lv_iload_n hx hb dX2_lay_93 rfl (lv_at hl 2 rfl) ?_
  obtain ⟨g4, h⟩ := gd_e h
  refine r_iast hx hb hK hd hS hk_b3 (ckb_in g4) dX2_lay_94 (fun μ5 eμ5 H locs hd hS => ?_)
  have h := bM_e eμ5 h
  exact k_f_X2_lay_j95 X hrc43 hk_a0 hk_a1 hd hS (lv_sub hl [0, 1, 2, 3, 4, 5, 6, 7] rfl) h
def f_X2_lay_L43b (rc43 : Mm → Nat → Nat → Int32 → Int32 → Int32 → Int32 → Int32 → Int32 → Option Mm) (μ : Mm) (a0 : Nat) (a1 : Nat) (x2 : Int32) (x4 : Int32) (x5 : Int32) (x6 : Int32) (x7 : Int32) (x8 : Int32) : Option Mm := if (μ.1 a0 3) ≤ x8 then (some μ) else (if ((x4 >>> (x8 &&& 31)) &&& (1 : Int32)) = 0 then (f_X2_lay_j95 rc43 μ a0 a1 x2 x4 x5 x6 x7 x8) else (bR (μ.2 a0 0) (fun b3 => bC (f_X4_columnOf μ a1 x8) (fun r5 μ4 => if r5 = x7 then (f_X2_lay_j86 rc43 μ4 a0 a1 x2 x4 x5 x6 x7 x8 x5 x8 b3) else (f_X2_lay_j86 rc43 μ4 a0 a1 x2 x4 x5 x6 x7 x8 x6 x8 b3)))))
set_option maxRecDepth 100000 in
theorem k_f_X2_lay_L43b {l : Launch} {D : va_G} {cA : Nat → ClassId} {z : Nat} {av : List Value} {p : Program} {e : Env} {s : State} {m : MethodId} {below : List Frame} {meth : Method} {c : Code} {μ' : Mm} (X : Fx D cA RX2 wsX2_lay cX2_lay 9 none p s m av.toArray meth c) {rc43 : Mm → Nat → Nat → Int32 → Int32 → Int32 → Int32 → Int32 → Int32 → Option Mm} (hrc43 : HL_X2_lay_43 l D cA z av μ' p e s m below meth c rc43) {μ : Mm} {a0 : Nat} {a1 : Nat} {x2 : Int32} {x4 : Int32} {x5 : Int32} {x6 : Int32} {x7 : Int32} {x8 : Int32} (hk_a0 : kd a0 = 2) (hk_a1 : kd a1 = 4) {H : Heap} {locs : List Loc} {ls : Array Slot} (hd : Wd D cA z μ H) (hS : va_S (Az z) s.heap H locs) (hl : lv_has ls 9 [(0, .ref (z + a0)), (1, .ref (z + a1)), (2, .int x2), (4, .int x4), (5, .int x5), (6, .int x6), (7, .int x7), (8, .int x8)]) (h : f_X2_lay_L43b rc43 μ a0 a1 x2 x4 x5 x6 x7 x8 = some μ') : WG l D cA z wsX2_lay 1 24 av none μ' p e s m below meth c H locs (F0 m 43 ls []) := by
  obtain ⟨hx, hb, hr, hlk, hml, hown, hts, hK⟩ := id X
  unfold f_X2_lay_L43b at h
  refine lv_iload hx hb dX2_lay_43 (lv_at hl 7 rfl) ?_
  refine lv_aload_n hx hb dX2_lay_45 rfl (lv_at hl 0 rfl) ?_
  refine r_geti hx hb hts (fun w h => List.mem_cons_of_mem _ (List.mem_append_left _ (List.mem_append_right _ (h)))) hown hK hd hk_a0 rfl 3 fs_2_3 (hts (.fieldLink RX2 33 "LevelVotes$Hill" "cells" "I") (List.mem_of_getElem? (i := 5) rfl)) dX2_lay_46 ?_
  refine lv_icmp_ge (tgt := 101) hx hb dX2_lay_49 (by decide) (fun q1 => ?_) (fun q1 => ?_)
  · have h := if_y q1 h
    obtain rfl := sv_e h
    exact rt_v hx hb hr hlk hd hS dX2_lay_101
  · have h := if_n q1 h
    refine lv_iload hx hb dX2_lay_52 (lv_at hl 3 rfl) ?_
    refine lv_iload hx hb dX2_lay_54 (lv_at hl 7 rfl) ?_
    refine lv_ishr hx hb dX2_lay_56 ?_
    refine lv_iconst (v := 1) hx hb dX2_lay_57 (by decide) ?_
    refine lv_iand hx hb dX2_lay_58 ?_
    refine lv_if_eq (tgt := 95) hx hb dX2_lay_59 (by decide) (fun q2 => ?_) (fun q2 => ?_)
    · have h := if_y q2 h
      exact k_f_X2_lay_j95 X hrc43 hk_a0 hk_a1 hd hS (lv_sub hl [0, 1, 2, 3, 4, 5, 6, 7] rfl) h
    · have h := if_n q2 h
      refine lv_aload_n hx hb dX2_lay_62 rfl (lv_at hl 0 rfl) ?_
      obtain ⟨b3, hb3, h⟩ := bR_e h
      refine r_getr hx hb hts (fun w h => List.mem_cons_of_mem _ (List.mem_append_left _ (List.mem_append_right _ (h)))) hown hK hd hk_a0 hb3 rfl fs_2_0 (hts (.fieldLink RX2 9 "LevelVotes$Hill" "heights" "[I") (List.mem_of_getElem? (i := 6) rfl)) dX2_lay_63 (fun hq => ?_)
      have hk_b3 : kd b3 = 11 := hq
      refine lv_iload hx hb dX2_lay_66 (lv_at hl 7 rfl) ?_
      refine lv_aload_n hx hb dX2_lay_68 rfl (lv_at hl 1 rfl) ?_
      refine lv_iload hx hb dX2_lay_69 (lv_at hl 7 rfl) ?_
      obtain ⟨r5, μ4, hc6, h⟩ := bC_e h
      refine rc_Vi (rest := [.int x8, .ref (z + b3)]) [.int x8] ⟨hx, hb, hml, hown, hts⟩ hK hd hS (c_X4_columnOf hk_a1 hc6) (cwV 1 hts gX2_lay_X4_columnOf rfl rfl rfl hv_X4_columnOf ⟨Nat.le_of_ble_eq_true rfl, Nat.le_of_ble_eq_true rfl⟩) hk_a1 rfl rfl rfl rfl hl.1 rfl (Nat.le_of_ble_eq_true rfl) dX2_lay_71 ⟨Nat.zero_le _, Nat.zero_le _⟩ (fun H locs hd hS => ?_)
      refine lv_iload hx hb dX2_lay_74 (lv_at hl 6 rfl) ?_
      refine lv_icmp_ne (tgt := 84) hx hb dX2_lay_76 (by decide) (fun q7 => ?_) (fun q7 => ?_)
      · have h := if_n q7 h
        refine lv_iload hx hb dX2_lay_84 (lv_at hl 5 rfl) ?_
        exact k_f_X2_lay_j86 X hrc43 hk_a0 hk_a1 hk_b3 hd hS (lv_sub hl [0, 1, 2, 3, 4, 5, 6, 7] rfl) h
      · have h := if_y q7 h
        refine lv_iload hx hb dX2_lay_79 (lv_at hl 4 rfl) ?_
        refine lv_goto (tgt := 86) hx hb dX2_lay_81 (by decide) ?_
        exact k_f_X2_lay_j86 X hrc43 hk_a0 hk_a1 hk_b3 hd hS (lv_sub hl [0, 1, 2, 3, 4, 5, 6, 7] rfl) h
def f_X2_lay_L43 : Nat → Mm → Nat → Nat → Int32 → Int32 → Int32 → Int32 → Int32 → Int32 → Option Mm
  | 0 => fun _ _ _ _ _ _ _ _ _ => none
  | n + 1 => fun μ a0 a1 x2 x4 x5 x6 x7 x8 => f_X2_lay_L43b (f_X2_lay_L43 n) μ a0 a1 x2 x4 x5 x6 x7 x8
theorem k_f_X2_lay_L43 {l : Launch} {D : va_G} {cA : Nat → ClassId} {z : Nat} {av : List Value} {p : Program} {e : Env} {s : State} {m : MethodId} {below : List Frame} {meth : Method} {c : Code} {μ' : Mm} (X : Fx D cA RX2 wsX2_lay cX2_lay 9 none p s m av.toArray meth c) (n : Nat) : HL_X2_lay_43 l D cA z av μ' p e s m below meth c (f_X2_lay_L43 n) := by
  induction n with
  | zero => intro _ _ _ _ _ _ _ _ _ _ _ _ _ _ _ _ _ h; have h2 : (none : Option _) = some _ := h; cases h2
  | succ n ih => intro μ H locs ls a0 a1 x2 x4 x5 x6 x7 x8 hk_a0 hk_a1 hd hS hl h; exact k_f_X2_lay_L43b X ih hk_a0 hk_a1 hd hS hl h
def f_X2_lay_j31 (μ : Mm) (a0 : Nat) (a1 : Nat) (x2 : Int32) (x4 : Int32) (x5 : Int32) (ys0 : Int32) : Option Mm := bC (f_X4_firstColumnOf μ a1 x2) (fun r2 μ1 => f_X2_lay_L43 FU μ1 a0 a1 x2 x4 x5 ys0 r2 (0 : Int32))
set_option maxRecDepth 100000 in
theorem k_f_X2_lay_j31 {l : Launch} {D : va_G} {cA : Nat → ClassId} {z : Nat} {av : List Value} {p : Program} {e : Env} {s : State} {m : MethodId} {below : List Frame} {meth : Method} {c : Code} {μ' : Mm} (X : Fx D cA RX2 wsX2_lay cX2_lay 9 none p s m av.toArray meth c) {μ : Mm} {a0 : Nat} {a1 : Nat} {x2 : Int32} {x4 : Int32} {x5 : Int32} {ys0 : Int32} (hk_a0 : kd a0 = 2) (hk_a1 : kd a1 = 4) {H : Heap} {locs : List Loc} {ls : Array Slot} (hd : Wd D cA z μ H) (hS : va_S (Az z) s.heap H locs) (hl : lv_has ls 9 [(0, .ref (z + a0)), (1, .ref (z + a1)), (2, .int x2), (4, .int x4), (5, .int x5)]) (h : f_X2_lay_j31 μ a0 a1 x2 x4 x5 ys0 = some μ') : WG l D cA z wsX2_lay 1 24 av none μ' p e s m below meth c H locs (F0 m 31 ls [.int ys0]) := by
  obtain ⟨hx, hb, hr, hlk, hml, hown, hts, hK⟩ := id X
  unfold f_X2_lay_j31 at h
  refine lv_istore (lv' := [(6, .int ys0), (0, .ref (z + a0)), (1, .ref (z + a1)), (2, .int x2), (4, .int x4), (5, .int x5)]) hx hb dX2_lay_31 hl (by decide) rfl (fun ls hl => ?_)
  refine lv_aload_n hx hb dX2_lay_33 rfl (lv_at hl 2 rfl) ?_
  refine lv_iload_n hx hb dX2_lay_34 rfl (lv_at hl 3 rfl) ?_
  obtain ⟨r2, μ1, hc3, h⟩ := bC_e h
  refine rc_Vi (rest := []) [.int x2] ⟨hx, hb, hml, hown, hts⟩ hK hd hS (c_X4_firstColumnOf hk_a1 hc3) (cwV 1 hts gX2_lay_X4_firstColumnOf rfl rfl rfl hv_X4_firstColumnOf ⟨Nat.le_of_ble_eq_true rfl, Nat.le_of_ble_eq_true rfl⟩) hk_a1 rfl rfl rfl rfl hl.1 rfl (Nat.le_of_ble_eq_true rfl) dX2_lay_35 ⟨Nat.zero_le _, Nat.zero_le _⟩ (fun H locs hd hS => ?_)
  refine lv_istore (lv' := [(7, .int r2), (6, .int ys0), (0, .ref (z + a0)), (1, .ref (z + a1)), (2, .int x2), (4, .int x4), (5, .int x5)]) hx hb dX2_lay_38 hl (by decide) rfl (fun ls hl => ?_)
  refine lv_iconst (v := 0) hx hb dX2_lay_40 (by decide) ?_
  refine lv_istore (lv' := [(8, .int (0 : Int32)), (7, .int r2), (6, .int ys0), (0, .ref (z + a0)), (1, .ref (z + a1)), (2, .int x2), (4, .int x4), (5, .int x5)]) hx hb dX2_lay_41 hl (by decide) rfl (fun ls hl => ?_)
  exact k_f_X2_lay_L43 X FU _ _ _ _ _ _ _ _ _ _ _ _ hk_a0 hk_a1 hd hS (lv_sub hl [3, 4, 5, 6, 7, 2, 1, 0] rfl) h
def f_X2_lay (μ : Mm) (a0 : Nat) (a1 : Nat) (x2 : Int32) (x3 : Int32) : Option Mm := bC (f_X4_cellsOf μ a1 x2) (fun r2 μ1 => bC (f_X4_levelOf μ1 a1 x2) (fun r5 μ4 => if x3 = 0 then (f_X2_lay_j31 μ4 a0 a1 x2 r2 r5 r5) else (f_X2_lay_j31 μ4 a0 a1 x2 r2 r5 (if (0 : Int32) < (r5 - (1 : Int32)) then (r5 - (1 : Int32)) else (0 : Int32)))))
set_option maxRecDepth 100000 in
theorem c_X2_lay {l : Launch} {D : va_G} {cA : Nat → ClassId} {z : Nat} {μ : Mm} {a0 : Nat} {a1 : Nat} {x2 : Int32} {x3 : Int32} {μ' : Mm} (hk_a0 : kd a0 = 2) (hk_a1 : kd a1 = 4) (h : f_X2_lay μ a0 a1 x2 x3 = some μ') : Ct l D cA z yX2_lay wsX2_lay 1 24 [.ref (z + a0), .ref (z + a1), .int x2, .int x3] μ none μ' := by
  refine m_in (cc := cX2_lay) (maxL := 9) (ret := none) (own := RX2) (by decide) rfl rfl (Nat.le_of_ble_eq_true rfl) ?_
  intro p e s m below meth c ls X hd hS hl
  obtain ⟨hx, hb, hr, hlk, hml, hown, hts, hK⟩ := id X
  have hl : lv_has ls 9 [(0, .ref (z + a0)), (1, .ref (z + a1)), (2, .int x2), (3, .int x3)] := hl
  unfold f_X2_lay at h
  refine lv_aload_n hx hb dX2_lay_0 rfl (lv_at hl 1 rfl) ?_
  refine lv_iload_n hx hb dX2_lay_1 rfl (lv_at hl 2 rfl) ?_
  obtain ⟨r2, μ1, hc3, h⟩ := bC_e h
  refine rc_Vi (rest := []) [.int x2] ⟨hx, hb, hml, hown, hts⟩ hK hd hS (c_X4_cellsOf hk_a1 hc3) (cwV 1 hts gX2_lay_X4_cellsOf rfl rfl rfl hv_X4_cellsOf ⟨Nat.le_of_ble_eq_true rfl, Nat.le_of_ble_eq_true rfl⟩) hk_a1 rfl rfl rfl rfl hl.1 rfl (Nat.le_of_ble_eq_true rfl) dX2_lay_2 ⟨Nat.zero_le _, Nat.zero_le _⟩ (fun H locs hd hS => ?_)
  refine lv_istore (lv' := [(4, .int r2), (0, .ref (z + a0)), (1, .ref (z + a1)), (2, .int x2), (3, .int x3)]) hx hb dX2_lay_5 hl (by decide) rfl (fun ls hl => ?_)
  refine lv_aload_n hx hb dX2_lay_7 rfl (lv_at hl 2 rfl) ?_
  refine lv_iload_n hx hb dX2_lay_8 rfl (lv_at hl 3 rfl) ?_
  obtain ⟨r5, μ4, hc6, h⟩ := bC_e h
  refine rc_Vi (rest := []) [.int x2] ⟨hx, hb, hml, hown, hts⟩ hK hd hS (c_X4_levelOf hk_a1 hc6) (cwV 1 hts gX2_lay_X4_levelOf rfl rfl rfl hv_X4_levelOf ⟨Nat.le_of_ble_eq_true rfl, Nat.le_of_ble_eq_true rfl⟩) hk_a1 rfl rfl rfl rfl hl.1 rfl (Nat.le_of_ble_eq_true rfl) dX2_lay_9 ⟨Nat.zero_le _, Nat.zero_le _⟩ (fun H locs hd hS => ?_)
  refine lv_istore (lv' := [(5, .int r5), (4, .int r2), (0, .ref (z + a0)), (1, .ref (z + a1)), (2, .int x2), (3, .int x3)]) hx hb dX2_lay_12 hl (by decide) rfl (fun ls hl => ?_)
  refine lv_iload_n hx hb dX2_lay_14 rfl (lv_at hl 5 rfl) ?_
  refine lv_if_eq (tgt := 29) hx hb dX2_lay_15 (by decide) (fun q7 => ?_) (fun q7 => ?_)
  · have h := if_y q7 h
    refine lv_iload hx hb dX2_lay_29 (lv_at hl 0 rfl) ?_
    exact k_f_X2_lay_j31 X hk_a0 hk_a1 hd hS (lv_sub hl [2, 3, 4, 1, 0] rfl) h
  · have h := if_n q7 h
    refine lv_iconst (v := 0) hx hb dX2_lay_18 (by decide) ?_
    refine lv_iload hx hb dX2_lay_19 (lv_at hl 0 rfl) ?_
    refine lv_iconst (v := 1) hx hb dX2_lay_21 (by decide) ?_
    refine lv_isub hx hb dX2_lay_22 ?_
    refine va_mmax hx hb (hml.trans hl.1.symm) hown (hts (.methodLink RX2 60 Lib.Math.max.name) (List.mem_of_getElem? (i := 1) rfl)) (hts (.static Lib.Math.max.name) (List.mem_of_getElem? (i := 2) rfl)) (hts (.initialized "java/lang/Math") (List.mem_of_getElem? (i := 3) rfl)) (hts (.code Lib.Math.max.name Lib.Math.max.code 2 (some .int)) (List.mem_of_getElem? (i := 4) rfl)) (Nat.le_of_ble_eq_true rfl) (Nat.le_of_ble_eq_true rfl) (Nat.zero_le _) (Nat.zero_le _) dX2_lay_23 ?_
    refine lv_goto (tgt := 31) hx hb dX2_lay_26 (by decide) ?_
    exact k_f_X2_lay_j31 X hk_a0 hk_a1 hd hS (lv_sub hl [2, 3, 4, 1, 0] rfl) h
theorem hv_X2_shape : yX2_shape.cls = RX2 ∧ yX2_shape.cls ≠ "java/lang/invoke/MethodHandle" ∧ yX2_shape.cls ≠ "java/lang/invoke/VarHandle" ∧ (parseMethodDescriptor yX2_shape.desc).map (fun d => d.parameters.length) = some 2 := by decide +kernel
abbrev HL_X2_shape_23 (l : Launch) (D : va_G) (cA : Nat → ClassId) (z : Nat) (av : List Value) (μ' : Mm) (p : Program) (e : Env) (s : State) (m : MethodId) (below : List Frame) (meth : Method) (c : Code) (rc : Mm → Nat → Nat → Nat → Int32 → Option Mm) : Prop := ∀ (μ : Mm) (H : Heap) (locs : List Loc) (ls : Array Slot) (a0 : Nat) (a1 : Nat) (a2 : Nat) (x3 : Int32), kd a0 = 2 → kd a1 = 4 → kd a2 = 8 → Wd D cA z μ H → va_S (Az z) s.heap H locs → lv_has ls 4 [(0, .ref (z + a0)), (1, .ref (z + a1)), (2, .ref (z + a2)), (3, .int x3)] → rc μ a0 a1 a2 x3 = some μ' → WG l D cA z wsX2_shape 2 52 av none μ' p e s m below meth c H locs (F0 m 23 ls [])
abbrev HL_X2_shape_64 (l : Launch) (D : va_G) (cA : Nat → ClassId) (z : Nat) (av : List Value) (μ' : Mm) (p : Program) (e : Env) (s : State) (m : MethodId) (below : List Frame) (meth : Method) (c : Code) (rc : Mm → Nat → Nat → Nat → Int32 → Option Mm) : Prop := ∀ (μ : Mm) (H : Heap) (locs : List Loc) (ls : Array Slot) (a0 : Nat) (a1 : Nat) (a2 : Nat) (x3 : Int32), kd a0 = 2 → kd a1 = 4 → kd a2 = 8 → Wd D cA z μ H → va_S (Az z) s.heap H locs → lv_has ls 4 [(0, .ref (z + a0)), (1, .ref (z + a1)), (2, .ref (z + a2)), (3, .int x3)] → rc μ a0 a1 a2 x3 = some μ' → WG l D cA z wsX2_shape 2 52 av none μ' p e s m below meth c H locs (F0 m 64 ls [])
def f_X2_shape_j100 (rc64 : Mm → Nat → Nat → Nat → Int32 → Option Mm) (μ : Mm) (a0 : Nat) (a1 : Nat) (a2 : Nat) (x3 : Int32) : Option Mm := rc64 μ a0 a1 a2 (x3 + (1 : Int32))
set_option maxRecDepth 100000 in
theorem k_f_X2_shape_j100 {l : Launch} {D : va_G} {cA : Nat → ClassId} {z : Nat} {av : List Value} {p : Program} {e : Env} {s : State} {m : MethodId} {below : List Frame} {meth : Method} {c : Code} {μ' : Mm} (X : Fx D cA RX2 wsX2_shape cX2_shape 4 none p s m av.toArray meth c) {rc64 : Mm → Nat → Nat → Nat → Int32 → Option Mm} (hrc64 : HL_X2_shape_64 l D cA z av μ' p e s m below meth c rc64) {μ : Mm} {a0 : Nat} {a1 : Nat} {a2 : Nat} {x3 : Int32} (hk_a0 : kd a0 = 2) (hk_a1 : kd a1 = 4) (hk_a2 : kd a2 = 8) {H : Heap} {locs : List Loc} {ls : Array Slot} (hd : Wd D cA z μ H) (hS : va_S (Az z) s.heap H locs) (hl : lv_has ls 4 [(0, .ref (z + a0)), (1, .ref (z + a1)), (2, .ref (z + a2)), (3, .int x3)]) (h : f_X2_shape_j100 rc64 μ a0 a1 a2 x3 = some μ') : WG l D cA z wsX2_shape 2 52 av none μ' p e s m below meth c H locs (F0 m 100 ls []) := by
  obtain ⟨hx, hb, hr, hlk, hml, hown, hts, hK⟩ := id X
  unfold f_X2_shape_j100 at h
  refine lv_iinc (v := x3 + (1 : Int32)) (lv' := [(3, .int (x3 + (1 : Int32))), (0, .ref (z + a0)), (1, .ref (z + a1)), (2, .ref (z + a2))]) hx hb dX2_shape_100 hl (k := 3) rfl rfl (by decide) rfl (fun ls hl => ?_)
  refine lv_goto (tgt := 64) hx hb dX2_shape_103 (by decide) ?_
  exact hrc64 _ _ _ _ _ _ _ _ hk_a0 hk_a1 hk_a2 hd hS (lv_sub hl [1, 2, 3, 0] rfl) h
def f_X2_shape_j97 (rc64 : Mm → Nat → Nat → Nat → Int32 → Option Mm) (μ : Mm) (a0 : Nat) (a1 : Nat) (a2 : Nat) (x3 : Int32) (ys0 : Int32) (ys1 : Int32) (bs2 : Nat) (bs3 : Nat) : Option Mm := bV (f_X2_lay μ bs3 bs2 ys1 ys0) (fun μ1 => f_X2_shape_j100 rc64 μ1 a0 a1 a2 x3)
set_option maxRecDepth 100000 in
theorem k_f_X2_shape_j97 {l : Launch} {D : va_G} {cA : Nat → ClassId} {z : Nat} {av : List Value} {p : Program} {e : Env} {s : State} {m : MethodId} {below : List Frame} {meth : Method} {c : Code} {μ' : Mm} (X : Fx D cA RX2 wsX2_shape cX2_shape 4 none p s m av.toArray meth c) {rc64 : Mm → Nat → Nat → Nat → Int32 → Option Mm} (hrc64 : HL_X2_shape_64 l D cA z av μ' p e s m below meth c rc64) {μ : Mm} {a0 : Nat} {a1 : Nat} {a2 : Nat} {x3 : Int32} {ys0 : Int32} {ys1 : Int32} {bs2 : Nat} {bs3 : Nat} (hk_a0 : kd a0 = 2) (hk_a1 : kd a1 = 4) (hk_a2 : kd a2 = 8) (hk_bs2 : kd bs2 = 4) (hk_bs3 : kd bs3 = 2) {H : Heap} {locs : List Loc} {ls : Array Slot} (hd : Wd D cA z μ H) (hS : va_S (Az z) s.heap H locs) (hl : lv_has ls 4 [(0, .ref (z + a0)), (1, .ref (z + a1)), (2, .ref (z + a2)), (3, .int x3)]) (h : f_X2_shape_j97 rc64 μ a0 a1 a2 x3 ys0 ys1 bs2 bs3 = some μ') : WG l D cA z wsX2_shape 2 52 av none μ' p e s m below meth c H locs (F0 m 97 ls [.int ys0, .int ys1, .ref (z + bs2), .ref (z + bs3)]) := by
  obtain ⟨hx, hb, hr, hlk, hml, hown, hts, hK⟩ := id X
  unfold f_X2_shape_j97 at h
  obtain ⟨μ1, hc3, h⟩ := bV_e h
  refine rc_Vv (rest := []) [.ref (z + bs2), .int ys1, .int ys0] ⟨hx, hb, hml, hown, hts⟩ hK hd hS (c_X2_lay hk_bs3 hk_bs2 hc3) (cwV 3 hts gX2_shape_X2_lay rfl rfl rfl hv_X2_lay ⟨Nat.le_of_ble_eq_true rfl, Nat.le_of_ble_eq_true rfl⟩) hk_bs3 rfl rfl rfl rfl hl.1 rfl (Nat.le_of_ble_eq_true rfl) dX2_shape_97 ⟨Nat.zero_le _, Nat.zero_le _⟩ (fun H locs hd hS => ?_)
  exact k_f_X2_shape_j100 X hrc64 hk_a0 hk_a1 hk_a2 hd hS (lv_sub hl [0, 1, 2, 3] rfl) h
def f_X2_shape_L64b (rc64 : Mm → Nat → Nat → Nat → Int32 → Option Mm) (μ : Mm) (a0 : Nat) (a1 : Nat) (a2 : Nat) (x3 : Int32) : Option Mm := if (μ.1 a1 3) ≤ x3 then (some μ) else (bC (f_X8_standOf μ a2 x3) (fun r3 μ2 => if r3 = 0 then (f_X2_shape_j100 rc64 μ2 a0 a1 a2 x3) else (bC (f_X8_standOf μ2 a2 x3) (fun r7 μ6 => if r7 = (1 : Int32) then (f_X2_shape_j97 rc64 μ6 a0 a1 a2 x3 (1 : Int32) x3 a1 a0) else (f_X2_shape_j97 rc64 μ6 a0 a1 a2 x3 (0 : Int32) x3 a1 a0)))))
set_option maxRecDepth 100000 in
theorem k_f_X2_shape_L64b {l : Launch} {D : va_G} {cA : Nat → ClassId} {z : Nat} {av : List Value} {p : Program} {e : Env} {s : State} {m : MethodId} {below : List Frame} {meth : Method} {c : Code} {μ' : Mm} (X : Fx D cA RX2 wsX2_shape cX2_shape 4 none p s m av.toArray meth c) {rc64 : Mm → Nat → Nat → Nat → Int32 → Option Mm} (hrc64 : HL_X2_shape_64 l D cA z av μ' p e s m below meth c rc64) {μ : Mm} {a0 : Nat} {a1 : Nat} {a2 : Nat} {x3 : Int32} (hk_a0 : kd a0 = 2) (hk_a1 : kd a1 = 4) (hk_a2 : kd a2 = 8) {H : Heap} {locs : List Loc} {ls : Array Slot} (hd : Wd D cA z μ H) (hS : va_S (Az z) s.heap H locs) (hl : lv_has ls 4 [(0, .ref (z + a0)), (1, .ref (z + a1)), (2, .ref (z + a2)), (3, .int x3)]) (h : f_X2_shape_L64b rc64 μ a0 a1 a2 x3 = some μ') : WG l D cA z wsX2_shape 2 52 av none μ' p e s m below meth c H locs (F0 m 64 ls []) := by
  obtain ⟨hx, hb, hr, hlk, hml, hown, hts, hK⟩ := id X
  unfold f_X2_shape_L64b at h
  refine lv_iload_n hx hb dX2_shape_64 rfl (lv_at hl 3 rfl) ?_
  refine lv_aload_n hx hb dX2_shape_65 rfl (lv_at hl 1 rfl) ?_
  refine r_geti hx hb hts (fun w h => List.mem_cons_of_mem _ (List.mem_append_left _ (List.mem_append_left _ (List.mem_append_right _ (h))))) hown hK hd hk_a1 rfl 3 fs_4_3 (hts (.fieldLink RX2 42 "LevelVotes$House" "items" "I") (List.mem_of_getElem? (i := 12) rfl)) dX2_shape_66 ?_
  refine lv_icmp_ge (tgt := 106) hx hb dX2_shape_69 (by decide) (fun q1 => ?_) (fun q1 => ?_)
  · have h := if_y q1 h
    obtain rfl := sv_e h
    exact rt_v hx hb hr hlk hd hS dX2_shape_106
  · have h := if_n q1 h
    refine lv_aload_n hx hb dX2_shape_72 rfl (lv_at hl 2 rfl) ?_
    refine lv_iload_n hx hb dX2_shape_73 rfl (lv_at hl 3 rfl) ?_
    obtain ⟨r3, μ2, hc4, h⟩ := bC_e h
    refine rc_Vi (rest := []) [.int x3] ⟨hx, hb, hml, hown, hts⟩ hK hd hS (c_X8_standOf hk_a2 hc4) (cwV 1 hts gX2_shape_X8_standOf rfl rfl rfl hv_X8_standOf ⟨Nat.le_of_ble_eq_true rfl, Nat.le_of_ble_eq_true rfl⟩) hk_a2 rfl rfl rfl rfl hl.1 rfl (Nat.le_of_ble_eq_true rfl) dX2_shape_74 ⟨Nat.zero_le _, Nat.zero_le _⟩ (fun H locs hd hS => ?_)
    refine lv_if_eq (tgt := 100) hx hb dX2_shape_77 (by decide) (fun q5 => ?_) (fun q5 => ?_)
    · have h := if_y q5 h
      exact k_f_X2_shape_j100 X hrc64 hk_a0 hk_a1 hk_a2 hd hS (lv_sub hl [0, 1, 2, 3] rfl) h
    · have h := if_n q5 h
      refine lv_aload_n hx hb dX2_shape_80 rfl (lv_at hl 0 rfl) ?_
      refine lv_aload_n hx hb dX2_shape_81 rfl (lv_at hl 1 rfl) ?_
      refine lv_iload_n hx hb dX2_shape_82 rfl (lv_at hl 3 rfl) ?_
      refine lv_aload_n hx hb dX2_shape_83 rfl (lv_at hl 2 rfl) ?_
      refine lv_iload_n hx hb dX2_shape_84 rfl (lv_at hl 3 rfl) ?_
      obtain ⟨r7, μ6, hc8, h⟩ := bC_e h
      refine rc_Vi (rest := [.int x3, .ref (z + a1), .ref (z + a0)]) [.int x3] ⟨hx, hb, hml, hown, hts⟩ hK hd hS (c_X8_standOf hk_a2 hc8) (cwV 1 hts gX2_shape_X8_standOf rfl rfl rfl hv_X8_standOf ⟨Nat.le_of_ble_eq_true rfl, Nat.le_of_ble_eq_true rfl⟩) hk_a2 rfl rfl rfl rfl hl.1 rfl (Nat.le_of_ble_eq_true rfl) dX2_shape_85 ⟨Nat.zero_le _, Nat.zero_le _⟩ (fun H locs hd hS => ?_)
      refine lv_iconst (v := 1) hx hb dX2_shape_88 (by decide) ?_
      refine lv_icmp_ne (tgt := 96) hx hb dX2_shape_89 (by decide) (fun q9 => ?_) (fun q9 => ?_)
      · have h := if_n q9 h
        refine lv_iconst (v := 0) hx hb dX2_shape_96 (by decide) ?_
        exact k_f_X2_shape_j97 X hrc64 hk_a0 hk_a1 hk_a2 hk_a1 hk_a0 hd hS (lv_sub hl [0, 1, 2, 3] rfl) h
      · have h := if_y q9 h
        refine lv_iconst (v := 1) hx hb dX2_shape_92 (by decide) ?_
        refine lv_goto (tgt := 97) hx hb dX2_shape_93 (by decide) ?_
        exact k_f_X2_shape_j97 X hrc64 hk_a0 hk_a1 hk_a2 hk_a1 hk_a0 hd hS (lv_sub hl [0, 1, 2, 3] rfl) h
def f_X2_shape_L64 : Nat → Mm → Nat → Nat → Nat → Int32 → Option Mm
  | 0 => fun _ _ _ _ _ => none
  | n + 1 => fun μ a0 a1 a2 x3 => f_X2_shape_L64b (f_X2_shape_L64 n) μ a0 a1 a2 x3
theorem k_f_X2_shape_L64 {l : Launch} {D : va_G} {cA : Nat → ClassId} {z : Nat} {av : List Value} {p : Program} {e : Env} {s : State} {m : MethodId} {below : List Frame} {meth : Method} {c : Code} {μ' : Mm} (X : Fx D cA RX2 wsX2_shape cX2_shape 4 none p s m av.toArray meth c) (n : Nat) : HL_X2_shape_64 l D cA z av μ' p e s m below meth c (f_X2_shape_L64 n) := by
  induction n with
  | zero => intro _ _ _ _ _ _ _ _ _ _ _ _ _ _ h; have h2 : (none : Option _) = some _ := h; cases h2
  | succ n ih => intro μ H locs ls a0 a1 a2 x3 hk_a0 hk_a1 hk_a2 hd hS hl h; exact k_f_X2_shape_L64b X ih hk_a0 hk_a1 hk_a2 hd hS hl h
def f_X2_shape_L23b (rc23 : Mm → Nat → Nat → Nat → Int32 → Option Mm) (μ : Mm) (a0 : Nat) (a1 : Nat) (a2 : Nat) (x3 : Int32) : Option Mm := if (μ.1 a0 3) ≤ x3 then (f_X2_shape_L64 FU μ a0 a1 a2 (0 : Int32)) else (bR (μ.2 a0 0) (fun b2 => bC (f_X4_ownHeight μ a1 x3) (fun r4 μ3 => gd (ckb x3 (ln b2)) (bM (up2 μ3.1 b2 (x3).toNatClampNeg r4, μ3.2) (fun μ7 => bR (μ7.2 a0 1) (fun b8 => gd (ckb x3 (ln b8)) (bM (up2 μ7.1 b8 (x3).toNatClampNeg (-1 : Int32), μ7.2) (fun μ10 => bR (μ10.2 a0 2) (fun b11 => gd (ckb x3 (ln b11)) (bM (up2 μ10.1 b11 (x3).toNatClampNeg (-1 : Int32), μ10.2) (fun μ13 => rc23 μ13 a0 a1 a2 (x3 + (1 : Int32)))))))))))))
set_option maxRecDepth 100000 in
theorem k_f_X2_shape_L23b {l : Launch} {D : va_G} {cA : Nat → ClassId} {z : Nat} {av : List Value} {p : Program} {e : Env} {s : State} {m : MethodId} {below : List Frame} {meth : Method} {c : Code} {μ' : Mm} (X : Fx D cA RX2 wsX2_shape cX2_shape 4 none p s m av.toArray meth c) {rc23 : Mm → Nat → Nat → Nat → Int32 → Option Mm} (hrc23 : HL_X2_shape_23 l D cA z av μ' p e s m below meth c rc23) {μ : Mm} {a0 : Nat} {a1 : Nat} {a2 : Nat} {x3 : Int32} (hk_a0 : kd a0 = 2) (hk_a1 : kd a1 = 4) (hk_a2 : kd a2 = 8) {H : Heap} {locs : List Loc} {ls : Array Slot} (hd : Wd D cA z μ H) (hS : va_S (Az z) s.heap H locs) (hl : lv_has ls 4 [(0, .ref (z + a0)), (1, .ref (z + a1)), (2, .ref (z + a2)), (3, .int x3)]) (h : f_X2_shape_L23b rc23 μ a0 a1 a2 x3 = some μ') : WG l D cA z wsX2_shape 2 52 av none μ' p e s m below meth c H locs (F0 m 23 ls []) := by
  obtain ⟨hx, hb, hr, hlk, hml, hown, hts, hK⟩ := id X
  unfold f_X2_shape_L23b at h
  refine lv_iload_n hx hb dX2_shape_23 rfl (lv_at hl 3 rfl) ?_
  refine lv_aload_n hx hb dX2_shape_24 rfl (lv_at hl 0 rfl) ?_
  refine r_geti hx hb hts (fun w h => List.mem_cons_of_mem _ (List.mem_append_left _ (List.mem_append_right _ (h)))) hown hK hd hk_a0 rfl 3 fs_2_3 (hts (.fieldLink RX2 33 "LevelVotes$Hill" "cells" "I") (List.mem_of_getElem? (i := 6) rfl)) dX2_shape_25 ?_
  refine lv_icmp_ge (tgt := 62) hx hb dX2_shape_28 (by decide) (fun q1 => ?_) (fun q1 => ?_)
  · have h := if_y q1 h
    refine lv_iconst (v := 0) hx hb dX2_shape_62 (by decide) ?_
    refine lv_istore_n (lv' := [(3, .int (0 : Int32)), (0, .ref (z + a0)), (1, .ref (z + a1)), (2, .ref (z + a2))]) hx hb dX2_shape_63 rfl hl (by decide) rfl (fun ls hl => ?_)
    exact k_f_X2_shape_L64 X FU _ _ _ _ _ _ _ _ hk_a0 hk_a1 hk_a2 hd hS (lv_sub hl [1, 2, 3, 0] rfl) h
  · have h := if_n q1 h
    refine lv_aload_n hx hb dX2_shape_31 rfl (lv_at hl 0 rfl) ?_
    obtain ⟨b2, hb2, h⟩ := bR_e h
    refine r_getr hx hb hts (fun w h => List.mem_cons_of_mem _ (List.mem_append_left _ (List.mem_append_right _ (h)))) hown hK hd hk_a0 hb2 rfl fs_2_0 (hts (.fieldLink RX2 9 "LevelVotes$Hill" "heights" "[I") (List.mem_of_getElem? (i := 9) rfl)) dX2_shape_32 (fun hq => ?_)
    have hk_b2 : kd b2 = 11 := hq
    refine lv_iload_n hx hb dX2_shape_35 rfl (lv_at hl 3 rfl) ?_
    refine lv_aload_n hx hb dX2_shape_36 rfl (lv_at hl 1 rfl) ?_
    refine lv_iload_n hx hb dX2_shape_37 rfl (lv_at hl 3 rfl) ?_
    obtain ⟨r4, μ3, hc5, h⟩ := bC_e h
    refine rc_Vi (rest := [.int x3, .ref (z + b2)]) [.int x3] ⟨hx, hb, hml, hown, hts⟩ hK hd hS (c_X4_ownHeight hk_a1 hc5) (cwV 1 hts gX2_shape_X4_ownHeight rfl rfl rfl hv_X4_ownHeight ⟨Nat.le_of_ble_eq_true rfl, Nat.le_of_ble_eq_true rfl⟩) hk_a1 rfl rfl rfl rfl hl.1 rfl (Nat.le_of_ble_eq_true rfl) dX2_shape_38 ⟨Nat.zero_le _, Nat.zero_le _⟩ (fun H locs hd hS => ?_)
    obtain ⟨g6, h⟩ := gd_e h
    refine r_iast hx hb hK hd hS hk_b2 (ckb_in g6) dX2_shape_41 (fun μ7 eμ7 H locs hd hS => ?_)
    have h := bM_e eμ7 h
    refine lv_aload_n hx hb dX2_shape_42 rfl (lv_at hl 0 rfl) ?_
    obtain ⟨b8, hb8, h⟩ := bR_e h
    refine r_getr hx hb hts (fun w h => List.mem_cons_of_mem _ (List.mem_append_left _ (List.mem_append_right _ (h)))) hown hK hd hk_a0 hb8 rfl fs_2_1 (hts (.fieldLink RX2 15 "LevelVotes$Hill" "shapers" "[I") (List.mem_of_getElem? (i := 10) rfl)) dX2_shape_43 (fun hq => ?_)
    have hk_b8 : kd b8 = 11 := hq
    refine lv_iload_n hx hb dX2_shape_46 rfl (lv_at hl 3 rfl) ?_
    refine lv_iconst (v := -1) hx hb dX2_shape_47 (by decide) ?_
    obtain ⟨g9, h⟩ := gd_e h
    refine r_iast hx hb hK hd hS hk_b8 (ckb_in g9) dX2_shape_48 (fun μ10 eμ10 H locs hd hS => ?_)
    have h := bM_e eμ10 h
    refine lv_aload_n hx hb dX2_shape_49 rfl (lv_at hl 0 rfl) ?_
    obtain ⟨b11, hb11, h⟩ := bR_e h
    refine r_getr hx hb hts (fun w h => List.mem_cons_of_mem _ (List.mem_append_left _ (List.mem_append_right _ (h)))) hown hK hd hk_a0 hb11 rfl fs_2_2 (hts (.fieldLink RX2 18 "LevelVotes$Hill" "nexts" "[I") (List.mem_of_getElem? (i := 11) rfl)) dX2_shape_50 (fun hq => ?_)
    have hk_b11 : kd b11 = 11 := hq
    refine lv_iload_n hx hb dX2_shape_53 rfl (lv_at hl 3 rfl) ?_
    refine lv_iconst (v := -1) hx hb dX2_shape_54 (by decide) ?_
    obtain ⟨g12, h⟩ := gd_e h
    refine r_iast hx hb hK hd hS hk_b11 (ckb_in g12) dX2_shape_55 (fun μ13 eμ13 H locs hd hS => ?_)
    have h := bM_e eμ13 h
    refine lv_iinc (v := x3 + (1 : Int32)) (lv' := [(3, .int (x3 + (1 : Int32))), (0, .ref (z + a0)), (1, .ref (z + a1)), (2, .ref (z + a2))]) hx hb dX2_shape_56 hl (k := 3) rfl rfl (by decide) rfl (fun ls hl => ?_)
    refine lv_goto (tgt := 23) hx hb dX2_shape_59 (by decide) ?_
    exact hrc23 _ _ _ _ _ _ _ _ hk_a0 hk_a1 hk_a2 hd hS (lv_sub hl [1, 2, 3, 0] rfl) h
def f_X2_shape_L23 : Nat → Mm → Nat → Nat → Nat → Int32 → Option Mm
  | 0 => fun _ _ _ _ _ => none
  | n + 1 => fun μ a0 a1 a2 x3 => f_X2_shape_L23b (f_X2_shape_L23 n) μ a0 a1 a2 x3
theorem k_f_X2_shape_L23 {l : Launch} {D : va_G} {cA : Nat → ClassId} {z : Nat} {av : List Value} {p : Program} {e : Env} {s : State} {m : MethodId} {below : List Frame} {meth : Method} {c : Code} {μ' : Mm} (X : Fx D cA RX2 wsX2_shape cX2_shape 4 none p s m av.toArray meth c) (n : Nat) : HL_X2_shape_23 l D cA z av μ' p e s m below meth c (f_X2_shape_L23 n) := by
  induction n with
  | zero => intro _ _ _ _ _ _ _ _ _ _ _ _ _ _ h; have h2 : (none : Option _) = some _ := h; cases h2
  | succ n ih => intro μ H locs ls a0 a1 a2 x3 hk_a0 hk_a1 hk_a2 hd hS hl h; exact k_f_X2_shape_L23b X ih hk_a0 hk_a1 hk_a2 hd hS hl h
def f_X2_shape (μ : Mm) (a0 : Nat) (a1 : Nat) (a2 : Nat) : Option Mm := bM (up2 μ.1 a0 3 (if (20 : Int32) < (μ.1 a1 2) then (20 : Int32) else (μ.1 a1 2)), μ.2) (fun μ1 => bM (up2 μ1.1 a0 4 (μ1.1 a1 0), μ1.2) (fun μ2 => f_X2_shape_L23 FU μ2 a0 a1 a2 (0 : Int32)))
set_option maxRecDepth 100000 in
theorem c_X2_shape {l : Launch} {D : va_G} {cA : Nat → ClassId} {z : Nat} {μ : Mm} {a0 : Nat} {a1 : Nat} {a2 : Nat} {μ' : Mm} (hk_a0 : kd a0 = 2) (hk_a1 : kd a1 = 4) (hk_a2 : kd a2 = 8) (h : f_X2_shape μ a0 a1 a2 = some μ') : Ct l D cA z yX2_shape wsX2_shape 2 52 [.ref (z + a0), .ref (z + a1), .ref (z + a2)] μ none μ' := by
  refine m_in (cc := cX2_shape) (maxL := 4) (ret := none) (own := RX2) (by decide) rfl rfl (Nat.le_of_ble_eq_true rfl) ?_
  intro p e s m below meth c ls X hd hS hl
  obtain ⟨hx, hb, hr, hlk, hml, hown, hts, hK⟩ := id X
  have hl : lv_has ls 4 [(0, .ref (z + a0)), (1, .ref (z + a1)), (2, .ref (z + a2))] := hl
  unfold f_X2_shape at h
  refine lv_aload_n hx hb dX2_shape_0 rfl (lv_at hl 0 rfl) ?_
  refine lv_aload_n hx hb dX2_shape_1 rfl (lv_at hl 1 rfl) ?_
  refine r_geti hx hb hts (fun w h => List.mem_cons_of_mem _ (List.mem_append_left _ (List.mem_append_left _ (List.mem_append_right _ (h))))) hown hK hd hk_a1 rfl 2 fs_4_2 (hts (.fieldLink RX2 21 "LevelVotes$House" "cells" "I") (List.mem_of_getElem? (i := 1) rfl)) dX2_shape_2 ?_
  refine lv_bipush (v := 20) hx hb dX2_shape_5 (by decide) ?_
  refine va_mmin hx hb (hml.trans hl.1.symm) hown (hts (.methodLink RX2 27 Lib.Math.min.name) (List.mem_of_getElem? (i := 2) rfl)) (hts (.static Lib.Math.min.name) (List.mem_of_getElem? (i := 3) rfl)) (hts (.initialized "java/lang/Math") (List.mem_of_getElem? (i := 4) rfl)) (hts (.code Lib.Math.min.name Lib.Math.min.code 2 (some .int)) (List.mem_of_getElem? (i := 5) rfl)) (Nat.le_of_ble_eq_true rfl) (Nat.le_of_ble_eq_true rfl) (Nat.zero_le _) (Nat.zero_le _) dX2_shape_7 ?_
  refine r_puti hx hb hts (fun w h => List.mem_cons_of_mem _ (List.mem_append_left _ (List.mem_append_right _ (h)))) tyX2 tyX2_ok nmX2 hown hK hd hS hk_a0 rfl 3 fs_2_3 rfl (hts (.fieldLink RX2 33 "LevelVotes$Hill" "cells" "I") (List.mem_of_getElem? (i := 6) rfl)) (vp_nar_int _) rfl dX2_shape_10 (fun μ1 eμ1 H locs hd hS => ?_)
  have h := bM_e eμ1 h
  refine lv_aload_n hx hb dX2_shape_13 rfl (lv_at hl 0 rfl) ?_
  refine lv_aload_n hx hb dX2_shape_14 rfl (lv_at hl 1 rfl) ?_
  refine r_geti hx hb hts (fun w h => List.mem_cons_of_mem _ (List.mem_append_left _ (List.mem_append_left _ (List.mem_append_right _ (h))))) hown hK hd hk_a1 rfl 0 fs_4_0 (hts (.fieldLink RX2 34 "LevelVotes$House" "columns" "I") (List.mem_of_getElem? (i := 7) rfl)) dX2_shape_15 ?_
  refine r_puti hx hb hts (fun w h => List.mem_cons_of_mem _ (List.mem_append_left _ (List.mem_append_right _ (h)))) tyX2 tyX2_ok nmX2 hown hK hd hS hk_a0 rfl 4 fs_2_4 rfl (hts (.fieldLink RX2 37 "LevelVotes$Hill" "columns" "I") (List.mem_of_getElem? (i := 8) rfl)) (vp_nar_int _) rfl dX2_shape_18 (fun μ2 eμ2 H locs hd hS => ?_)
  have h := bM_e eμ2 h
  refine lv_iconst (v := 0) hx hb dX2_shape_21 (by decide) ?_
  refine lv_istore_n (lv' := [(3, .int (0 : Int32)), (0, .ref (z + a0)), (1, .ref (z + a1)), (2, .ref (z + a2))]) hx hb dX2_shape_22 rfl hl (by decide) rfl (fun ls hl => ?_)
  exact k_f_X2_shape_L23 X FU _ _ _ _ _ _ _ _ hk_a0 hk_a1 hk_a2 hd hS (lv_sub hl [1, 2, 3, 0] rfl) h
theorem hv_X2_heightOf : yX2_heightOf.cls = RX2 ∧ yX2_heightOf.cls ≠ "java/lang/invoke/MethodHandle" ∧ yX2_heightOf.cls ≠ "java/lang/invoke/VarHandle" ∧ (parseMethodDescriptor yX2_heightOf.desc).map (fun d => d.parameters.length) = some 1 := by decide +kernel
def f_X2_heightOf (μ : Mm) (a0 : Nat) (x1 : Int32) : Option (Int32 × Mm) := if x1 < 0 then (some ((0 : Int32), μ)) else (bR (μ.2 a0 0) (fun b2 => if (Int32.ofNat (ln b2)) ≤ x1 then (some ((0 : Int32), μ)) else (bR (μ.2 a0 0) (fun b4 => gd (ckb x1 (ln b4)) (some (μ.1 b4 (x1).toNatClampNeg, μ))))))
set_option maxRecDepth 100000 in
theorem c_X2_heightOf {l : Launch} {D : va_G} {cA : Nat → ClassId} {z : Nat} {μ : Mm} {a0 : Nat} {x1 : Int32} {r : Int32} {μ' : Mm} (hk_a0 : kd a0 = 2) (h : f_X2_heightOf μ a0 x1 = some (r, μ')) : Ct l D cA z yX2_heightOf wsX2_heightOf 0 0 [.ref (z + a0), .int x1] μ (some (.int r)) μ' := by
  refine m_in (cc := cX2_heightOf) (maxL := 2) (ret := (some .int)) (own := RX2) (by decide) rfl rfl (Nat.le_of_ble_eq_true rfl) ?_
  intro p e s m below meth c ls X hd hS hl
  obtain ⟨hx, hb, hr, hlk, hml, hown, hts, hK⟩ := id X
  have hl : lv_has ls 2 [(0, .ref (z + a0)), (1, .int x1)] := hl
  unfold f_X2_heightOf at h
  refine lv_iload_n hx hb dX2_heightOf_0 rfl (lv_at hl 1 rfl) ?_
  refine lv_if_lt (tgt := 22) hx hb dX2_heightOf_1 (by decide) (fun q1 => ?_) (fun q1 => ?_)
  · have h := if_y q1 h
    refine lv_iconst (v := 0) hx hb dX2_heightOf_22 (by decide) ?_
    obtain ⟨rfl, rfl⟩ := so_e h
    exact rt_i hx hb hr hlk hd hS dX2_heightOf_23
  · have h := if_n q1 h
    refine lv_iload_n hx hb dX2_heightOf_4 rfl (lv_at hl 1 rfl) ?_
    refine lv_aload_n hx hb dX2_heightOf_5 rfl (lv_at hl 0 rfl) ?_
    obtain ⟨b2, hb2, h⟩ := bR_e h
    refine r_getr hx hb hts (fun w h => List.mem_cons_of_mem _ (List.mem_append_right _ (h))) hown hK hd hk_a0 hb2 rfl fs_2_0 (hts (.fieldLink RX2 9 "LevelVotes$Hill" "heights" "[I") (List.mem_of_getElem? (i := 1) rfl)) dX2_heightOf_6 (fun hq => ?_)
    have hk_b2 : kd b2 = 11 := hq
    refine r_alen hx hb hK hd hk_b2 rfl dX2_heightOf_9 ?_
    refine lv_icmp_ge (tgt := 22) hx hb dX2_heightOf_10 (by decide) (fun q3 => ?_) (fun q3 => ?_)
    · have h := if_y q3 h
      refine lv_iconst (v := 0) hx hb dX2_heightOf_22 (by decide) ?_
      obtain ⟨rfl, rfl⟩ := so_e h
      exact rt_i hx hb hr hlk hd hS dX2_heightOf_23
    · have h := if_n q3 h
      refine lv_aload_n hx hb dX2_heightOf_13 rfl (lv_at hl 0 rfl) ?_
      obtain ⟨b4, hb4, h⟩ := bR_e h
      refine r_getr hx hb hts (fun w h => List.mem_cons_of_mem _ (List.mem_append_right _ (h))) hown hK hd hk_a0 hb4 rfl fs_2_0 (hts (.fieldLink RX2 9 "LevelVotes$Hill" "heights" "[I") (List.mem_of_getElem? (i := 1) rfl)) dX2_heightOf_14 (fun hq => ?_)
      have hk_b4 : kd b4 = 11 := hq
      refine lv_iload_n hx hb dX2_heightOf_17 rfl (lv_at hl 1 rfl) ?_
      obtain ⟨g5, h⟩ := gd_e h
      refine r_iald hx hb hK hd hk_b4 (ckb_in g5) dX2_heightOf_18 ?_
      refine lv_goto (tgt := 23) hx hb dX2_heightOf_19 (by decide) ?_
      obtain ⟨rfl, rfl⟩ := so_e h
      exact rt_i hx hb hr hlk hd hS dX2_heightOf_23
theorem hv_X2_itemOf : yX2_itemOf.cls = RX2 ∧ yX2_itemOf.cls ≠ "java/lang/invoke/MethodHandle" ∧ yX2_itemOf.cls ≠ "java/lang/invoke/VarHandle" ∧ (parseMethodDescriptor yX2_itemOf.desc).map (fun d => d.parameters.length) = some 1 := by decide +kernel
def f_X2_itemOf (μ : Mm) (a0 : Nat) (x1 : Int32) : Option (Int32 × Mm) := if x1 < 0 then (some ((-1 : Int32), μ)) else (bR (μ.2 a0 1) (fun b2 => if (Int32.ofNat (ln b2)) ≤ x1 then (some ((-1 : Int32), μ)) else (bR (μ.2 a0 1) (fun b4 => gd (ckb x1 (ln b4)) (some (μ.1 b4 (x1).toNatClampNeg, μ))))))
set_option maxRecDepth 100000 in
theorem c_X2_itemOf {l : Launch} {D : va_G} {cA : Nat → ClassId} {z : Nat} {μ : Mm} {a0 : Nat} {x1 : Int32} {r : Int32} {μ' : Mm} (hk_a0 : kd a0 = 2) (h : f_X2_itemOf μ a0 x1 = some (r, μ')) : Ct l D cA z yX2_itemOf wsX2_itemOf 0 0 [.ref (z + a0), .int x1] μ (some (.int r)) μ' := by
  refine m_in (cc := cX2_itemOf) (maxL := 2) (ret := (some .int)) (own := RX2) (by decide) rfl rfl (Nat.le_of_ble_eq_true rfl) ?_
  intro p e s m below meth c ls X hd hS hl
  obtain ⟨hx, hb, hr, hlk, hml, hown, hts, hK⟩ := id X
  have hl : lv_has ls 2 [(0, .ref (z + a0)), (1, .int x1)] := hl
  unfold f_X2_itemOf at h
  refine lv_iload_n hx hb dX2_itemOf_0 rfl (lv_at hl 1 rfl) ?_
  refine lv_if_lt (tgt := 22) hx hb dX2_itemOf_1 (by decide) (fun q1 => ?_) (fun q1 => ?_)
  · have h := if_y q1 h
    refine lv_iconst (v := -1) hx hb dX2_itemOf_22 (by decide) ?_
    obtain ⟨rfl, rfl⟩ := so_e h
    exact rt_i hx hb hr hlk hd hS dX2_itemOf_23
  · have h := if_n q1 h
    refine lv_iload_n hx hb dX2_itemOf_4 rfl (lv_at hl 1 rfl) ?_
    refine lv_aload_n hx hb dX2_itemOf_5 rfl (lv_at hl 0 rfl) ?_
    obtain ⟨b2, hb2, h⟩ := bR_e h
    refine r_getr hx hb hts (fun w h => List.mem_cons_of_mem _ (List.mem_append_right _ (h))) hown hK hd hk_a0 hb2 rfl fs_2_1 (hts (.fieldLink RX2 15 "LevelVotes$Hill" "shapers" "[I") (List.mem_of_getElem? (i := 1) rfl)) dX2_itemOf_6 (fun hq => ?_)
    have hk_b2 : kd b2 = 11 := hq
    refine r_alen hx hb hK hd hk_b2 rfl dX2_itemOf_9 ?_
    refine lv_icmp_ge (tgt := 22) hx hb dX2_itemOf_10 (by decide) (fun q3 => ?_) (fun q3 => ?_)
    · have h := if_y q3 h
      refine lv_iconst (v := -1) hx hb dX2_itemOf_22 (by decide) ?_
      obtain ⟨rfl, rfl⟩ := so_e h
      exact rt_i hx hb hr hlk hd hS dX2_itemOf_23
    · have h := if_n q3 h
      refine lv_aload_n hx hb dX2_itemOf_13 rfl (lv_at hl 0 rfl) ?_
      obtain ⟨b4, hb4, h⟩ := bR_e h
      refine r_getr hx hb hts (fun w h => List.mem_cons_of_mem _ (List.mem_append_right _ (h))) hown hK hd hk_a0 hb4 rfl fs_2_1 (hts (.fieldLink RX2 15 "LevelVotes$Hill" "shapers" "[I") (List.mem_of_getElem? (i := 1) rfl)) dX2_itemOf_14 (fun hq => ?_)
      have hk_b4 : kd b4 = 11 := hq
      refine lv_iload_n hx hb dX2_itemOf_17 rfl (lv_at hl 1 rfl) ?_
      obtain ⟨g5, h⟩ := gd_e h
      refine r_iald hx hb hK hd hk_b4 (ckb_in g5) dX2_itemOf_18 ?_
      refine lv_goto (tgt := 23) hx hb dX2_itemOf_19 (by decide) ?_
      obtain ⟨rfl, rfl⟩ := so_e h
      exact rt_i hx hb hr hlk hd hS dX2_itemOf_23
theorem hv_X2_lowerOf : yX2_lowerOf.cls = RX2 ∧ yX2_lowerOf.cls ≠ "java/lang/invoke/MethodHandle" ∧ yX2_lowerOf.cls ≠ "java/lang/invoke/VarHandle" ∧ (parseMethodDescriptor yX2_lowerOf.desc).map (fun d => d.parameters.length) = some 2 := by decide +kernel
def f_X2_lowerOf_j31 (μ : Mm) (a0 : Nat) (x1 : Int32) (x2 : Int32) (ys0 : Int32) : Option (Int32 × Mm) := if ys0 = 0 then (some (x1, μ)) else (bR (μ.2 a0 0) (fun b2 => gd (ckb x2 (ln b2)) (bR (μ.2 a0 0) (fun b4 => gd (ckb x1 (ln b4)) (if (μ.1 b4 (x1).toNatClampNeg) ≤ (μ.1 b2 (x2).toNatClampNeg) then (some (x1, μ)) else (some (x2, μ)))))))
set_option maxRecDepth 100000 in
theorem k_f_X2_lowerOf_j31 {l : Launch} {D : va_G} {cA : Nat → ClassId} {z : Nat} {av : List Value} {p : Program} {e : Env} {s : State} {m : MethodId} {below : List Frame} {meth : Method} {c : Code} {r : Int32} {μ' : Mm} (X : Fx D cA RX2 wsX2_lowerOf cX2_lowerOf 4 (some .int) p s m av.toArray meth c) {μ : Mm} {a0 : Nat} {x1 : Int32} {x2 : Int32} {ys0 : Int32} (hk_a0 : kd a0 = 2) {H : Heap} {locs : List Loc} {ls : Array Slot} (hd : Wd D cA z μ H) (hS : va_S (Az z) s.heap H locs) (hl : lv_has ls 4 [(0, .ref (z + a0)), (1, .int x1), (2, .int x2)]) (h : f_X2_lowerOf_j31 μ a0 x1 x2 ys0 = some (r, μ')) : WG l D cA z wsX2_lowerOf 0 0 av (some (.int r)) μ' p e s m below meth c H locs (F0 m 31 ls [.int ys0]) := by
  obtain ⟨hx, hb, hr, hlk, hml, hown, hts, hK⟩ := id X
  unfold f_X2_lowerOf_j31 at h
  refine lv_istore_n (lv' := [(3, .int ys0), (0, .ref (z + a0)), (1, .int x1), (2, .int x2)]) hx hb dX2_lowerOf_31 rfl hl (by decide) rfl (fun ls hl => ?_)
  refine lv_iload_n hx hb dX2_lowerOf_32 rfl (lv_at hl 0 rfl) ?_
  refine lv_if_eq (tgt := 55) hx hb dX2_lowerOf_33 (by decide) (fun q1 => ?_) (fun q1 => ?_)
  · have h := if_y q1 h
    refine lv_iload_n hx hb dX2_lowerOf_55 rfl (lv_at hl 2 rfl) ?_
    obtain ⟨rfl, rfl⟩ := so_e h
    exact rt_i hx hb hr hlk hd hS dX2_lowerOf_56
  · have h := if_n q1 h
    refine lv_aload_n hx hb dX2_lowerOf_36 rfl (lv_at hl 1 rfl) ?_
    obtain ⟨b2, hb2, h⟩ := bR_e h
    refine r_getr hx hb hts (fun w h => List.mem_cons_of_mem _ (List.mem_append_right _ (h))) hown hK hd hk_a0 hb2 rfl fs_2_0 (hts (.fieldLink RX2 9 "LevelVotes$Hill" "heights" "[I") (List.mem_of_getElem? (i := 1) rfl)) dX2_lowerOf_37 (fun hq => ?_)
    have hk_b2 : kd b2 = 11 := hq
    refine lv_iload_n hx hb dX2_lowerOf_40 rfl (lv_at hl 3 rfl) ?_
    obtain ⟨g3, h⟩ := gd_e h
    refine r_iald hx hb hK hd hk_b2 (ckb_in g3) dX2_lowerOf_41 ?_
    refine lv_aload_n hx hb dX2_lowerOf_42 rfl (lv_at hl 1 rfl) ?_
    obtain ⟨b4, hb4, h⟩ := bR_e h
    refine r_getr hx hb hts (fun w h => List.mem_cons_of_mem _ (List.mem_append_right _ (h))) hown hK hd hk_a0 hb4 rfl fs_2_0 (hts (.fieldLink RX2 9 "LevelVotes$Hill" "heights" "[I") (List.mem_of_getElem? (i := 1) rfl)) dX2_lowerOf_43 (fun hq => ?_)
    have hk_b4 : kd b4 = 11 := hq
    refine lv_iload_n hx hb dX2_lowerOf_46 rfl (lv_at hl 2 rfl) ?_
    obtain ⟨g5, h⟩ := gd_e h
    refine r_iald hx hb hK hd hk_b4 (ckb_in g5) dX2_lowerOf_47 ?_
    refine lv_icmp_ge (tgt := 55) hx hb dX2_lowerOf_48 (by decide) (fun q6 => ?_) (fun q6 => ?_)
    · have h := if_y q6 h
      refine lv_iload_n hx hb dX2_lowerOf_55 rfl (lv_at hl 2 rfl) ?_
      obtain ⟨rfl, rfl⟩ := so_e h
      exact rt_i hx hb hr hlk hd hS dX2_lowerOf_56
    · have h := if_n q6 h
      refine lv_iload_n hx hb dX2_lowerOf_51 rfl (lv_at hl 3 rfl) ?_
      refine lv_goto (tgt := 56) hx hb dX2_lowerOf_52 (by decide) ?_
      obtain ⟨rfl, rfl⟩ := so_e h
      exact rt_i hx hb hr hlk hd hS dX2_lowerOf_56
def f_X2_lowerOf_j30 (μ : Mm) (a0 : Nat) (x1 : Int32) (x2 : Int32) : Option (Int32 × Mm) := f_X2_lowerOf_j31 μ a0 x1 x2 (0 : Int32)
set_option maxRecDepth 100000 in
theorem k_f_X2_lowerOf_j30 {l : Launch} {D : va_G} {cA : Nat → ClassId} {z : Nat} {av : List Value} {p : Program} {e : Env} {s : State} {m : MethodId} {below : List Frame} {meth : Method} {c : Code} {r : Int32} {μ' : Mm} (X : Fx D cA RX2 wsX2_lowerOf cX2_lowerOf 4 (some .int) p s m av.toArray meth c) {μ : Mm} {a0 : Nat} {x1 : Int32} {x2 : Int32} (hk_a0 : kd a0 = 2) {H : Heap} {locs : List Loc} {ls : Array Slot} (hd : Wd D cA z μ H) (hS : va_S (Az z) s.heap H locs) (hl : lv_has ls 4 [(0, .ref (z + a0)), (1, .int x1), (2, .int x2)]) (h : f_X2_lowerOf_j30 μ a0 x1 x2 = some (r, μ')) : WG l D cA z wsX2_lowerOf 0 0 av (some (.int r)) μ' p e s m below meth c H locs (F0 m 30 ls []) := by
  obtain ⟨hx, hb, hr, hlk, hml, hown, hts, hK⟩ := id X
  unfold f_X2_lowerOf_j30 at h
  refine lv_iconst (v := 0) hx hb dX2_lowerOf_30 (by decide) ?_
  exact k_f_X2_lowerOf_j31 X hk_a0 hd hS (lv_sub hl [0, 1, 2] rfl) h
def f_X2_lowerOf (μ : Mm) (a0 : Nat) (x1 : Int32) (x2 : Int32) : Option (Int32 × Mm) := if x1 < 0 then (f_X2_lowerOf_j30 μ a0 x1 x2) else (bR (μ.2 a0 0) (fun b2 => if (Int32.ofNat (ln b2)) ≤ x1 then (f_X2_lowerOf_j30 μ a0 x1 x2) else (if x2 < 0 then (f_X2_lowerOf_j30 μ a0 x1 x2) else (bR (μ.2 a0 0) (fun b5 => if (Int32.ofNat (ln b5)) ≤ x2 then (f_X2_lowerOf_j30 μ a0 x1 x2) else (f_X2_lowerOf_j31 μ a0 x1 x2 (1 : Int32)))))))
set_option maxRecDepth 100000 in
theorem c_X2_lowerOf {l : Launch} {D : va_G} {cA : Nat → ClassId} {z : Nat} {μ : Mm} {a0 : Nat} {x1 : Int32} {x2 : Int32} {r : Int32} {μ' : Mm} (hk_a0 : kd a0 = 2) (h : f_X2_lowerOf μ a0 x1 x2 = some (r, μ')) : Ct l D cA z yX2_lowerOf wsX2_lowerOf 0 0 [.ref (z + a0), .int x1, .int x2] μ (some (.int r)) μ' := by
  refine m_in (cc := cX2_lowerOf) (maxL := 4) (ret := (some .int)) (own := RX2) (by decide) rfl rfl (Nat.le_of_ble_eq_true rfl) ?_
  intro p e s m below meth c ls X hd hS hl
  obtain ⟨hx, hb, hr, hlk, hml, hown, hts, hK⟩ := id X
  have hl : lv_has ls 4 [(0, .ref (z + a0)), (1, .int x1), (2, .int x2)] := hl
  unfold f_X2_lowerOf at h
  refine lv_iload_n hx hb dX2_lowerOf_0 rfl (lv_at hl 1 rfl) ?_
  refine lv_if_lt (tgt := 30) hx hb dX2_lowerOf_1 (by decide) (fun q1 => ?_) (fun q1 => ?_)
  · have h := if_y q1 h
    exact k_f_X2_lowerOf_j30 X hk_a0 hd hS (lv_sub hl [0, 1, 2] rfl) h
  · have h := if_n q1 h
    refine lv_iload_n hx hb dX2_lowerOf_4 rfl (lv_at hl 1 rfl) ?_
    refine lv_aload_n hx hb dX2_lowerOf_5 rfl (lv_at hl 0 rfl) ?_
    obtain ⟨b2, hb2, h⟩ := bR_e h
    refine r_getr hx hb hts (fun w h => List.mem_cons_of_mem _ (List.mem_append_right _ (h))) hown hK hd hk_a0 hb2 rfl fs_2_0 (hts (.fieldLink RX2 9 "LevelVotes$Hill" "heights" "[I") (List.mem_of_getElem? (i := 1) rfl)) dX2_lowerOf_6 (fun hq => ?_)
    have hk_b2 : kd b2 = 11 := hq
    refine r_alen hx hb hK hd hk_b2 rfl dX2_lowerOf_9 ?_
    refine lv_icmp_ge (tgt := 30) hx hb dX2_lowerOf_10 (by decide) (fun q3 => ?_) (fun q3 => ?_)
    · have h := if_y q3 h
      exact k_f_X2_lowerOf_j30 X hk_a0 hd hS (lv_sub hl [0, 1, 2] rfl) h
    · have h := if_n q3 h
      refine lv_iload_n hx hb dX2_lowerOf_13 rfl (lv_at hl 2 rfl) ?_
      refine lv_if_lt (tgt := 30) hx hb dX2_lowerOf_14 (by decide) (fun q4 => ?_) (fun q4 => ?_)
      · have h := if_y q4 h
        exact k_f_X2_lowerOf_j30 X hk_a0 hd hS (lv_sub hl [0, 1, 2] rfl) h
      · have h := if_n q4 h
        refine lv_iload_n hx hb dX2_lowerOf_17 rfl (lv_at hl 2 rfl) ?_
        refine lv_aload_n hx hb dX2_lowerOf_18 rfl (lv_at hl 0 rfl) ?_
        obtain ⟨b5, hb5, h⟩ := bR_e h
        refine r_getr hx hb hts (fun w h => List.mem_cons_of_mem _ (List.mem_append_right _ (h))) hown hK hd hk_a0 hb5 rfl fs_2_0 (hts (.fieldLink RX2 9 "LevelVotes$Hill" "heights" "[I") (List.mem_of_getElem? (i := 1) rfl)) dX2_lowerOf_19 (fun hq => ?_)
        have hk_b5 : kd b5 = 11 := hq
        refine r_alen hx hb hK hd hk_b5 rfl dX2_lowerOf_22 ?_
        refine lv_icmp_ge (tgt := 30) hx hb dX2_lowerOf_23 (by decide) (fun q6 => ?_) (fun q6 => ?_)
        · have h := if_y q6 h
          exact k_f_X2_lowerOf_j30 X hk_a0 hd hS (lv_sub hl [0, 1, 2] rfl) h
        · have h := if_n q6 h
          refine lv_iconst (v := 1) hx hb dX2_lowerOf_26 (by decide) ?_
          refine lv_goto (tgt := 31) hx hb dX2_lowerOf_27 (by decide) ?_
          exact k_f_X2_lowerOf_j31 X hk_a0 hd hS (lv_sub hl [0, 1, 2] rfl) h
theorem hv_X2_findNext : yX2_findNext.cls = RX2 ∧ yX2_findNext.cls ≠ "java/lang/invoke/MethodHandle" ∧ yX2_findNext.cls ≠ "java/lang/invoke/VarHandle" ∧ (parseMethodDescriptor yX2_findNext.desc).map (fun d => d.parameters.length) = some 1 := by decide +kernel
def f_X2_findNext_j72 (μ : Mm) (a0 : Nat) (x1 : Int32) (x3 : Int32) : Option (Int32 × Mm) := if ((μ.1 a0 3) - (μ.1 a0 4)) ≤ x1 then (some (x3, μ)) else (bC (f_X2_lowerOf μ a0 x3 (x1 + (μ.1 a0 4))) (fun r3 μ2 => some (r3, μ2)))
set_option maxRecDepth 100000 in
theorem k_f_X2_findNext_j72 {l : Launch} {D : va_G} {cA : Nat → ClassId} {z : Nat} {av : List Value} {p : Program} {e : Env} {s : State} {m : MethodId} {below : List Frame} {meth : Method} {c : Code} {r : Int32} {μ' : Mm} (X : Fx D cA RX2 wsX2_findNext cX2_findNext 4 (some .int) p s m av.toArray meth c) {μ : Mm} {a0 : Nat} {x1 : Int32} {x3 : Int32} (hk_a0 : kd a0 = 2) {H : Heap} {locs : List Loc} {ls : Array Slot} (hd : Wd D cA z μ H) (hS : va_S (Az z) s.heap H locs) (hl : lv_has ls 4 [(0, .ref (z + a0)), (1, .int x1), (3, .int x3)]) (h : f_X2_findNext_j72 μ a0 x1 x3 = some (r, μ')) : WG l D cA z wsX2_findNext 1 23 av (some (.int r)) μ' p e s m below meth c H locs (F0 m 72 ls []) := by
  obtain ⟨hx, hb, hr, hlk, hml, hown, hts, hK⟩ := id X
  unfold f_X2_findNext_j72 at h
  refine lv_iload_n hx hb dX2_findNext_72 rfl (lv_at hl 1 rfl) ?_
  refine lv_aload_n hx hb dX2_findNext_73 rfl (lv_at hl 0 rfl) ?_
  refine r_geti hx hb hts (fun w h => List.mem_cons_of_mem _ (List.mem_append_right _ (h))) hown hK hd hk_a0 rfl 3 fs_2_3 (hts (.fieldLink RX2 33 "LevelVotes$Hill" "cells" "I") (List.mem_of_getElem? (i := 2) rfl)) dX2_findNext_74 ?_
  refine lv_aload_n hx hb dX2_findNext_77 rfl (lv_at hl 0 rfl) ?_
  refine r_geti hx hb hts (fun w h => List.mem_cons_of_mem _ (List.mem_append_right _ (h))) hown hK hd hk_a0 rfl 4 fs_2_4 (hts (.fieldLink RX2 37 "LevelVotes$Hill" "columns" "I") (List.mem_of_getElem? (i := 1) rfl)) dX2_findNext_78 ?_
  refine lv_isub hx hb dX2_findNext_81 ?_
  refine lv_icmp_ge (tgt := 97) hx hb dX2_findNext_82 (by decide) (fun q1 => ?_) (fun q1 => ?_)
  · have h := if_y q1 h
    refine lv_iload_n hx hb dX2_findNext_97 rfl (lv_at hl 2 rfl) ?_
    obtain ⟨rfl, rfl⟩ := so_e h
    exact rt_i hx hb hr hlk hd hS dX2_findNext_98
  · have h := if_n q1 h
    refine lv_aload_n hx hb dX2_findNext_85 rfl (lv_at hl 0 rfl) ?_
    refine lv_iload_n hx hb dX2_findNext_86 rfl (lv_at hl 2 rfl) ?_
    refine lv_iload_n hx hb dX2_findNext_87 rfl (lv_at hl 1 rfl) ?_
    refine lv_aload_n hx hb dX2_findNext_88 rfl (lv_at hl 0 rfl) ?_
    refine r_geti hx hb hts (fun w h => List.mem_cons_of_mem _ (List.mem_append_right _ (h))) hown hK hd hk_a0 rfl 4 fs_2_4 (hts (.fieldLink RX2 37 "LevelVotes$Hill" "columns" "I") (List.mem_of_getElem? (i := 1) rfl)) dX2_findNext_89 ?_
    refine lv_iadd hx hb dX2_findNext_92 ?_
    obtain ⟨r3, μ2, hc4, h⟩ := bC_e h
    refine rc_Vi (rest := []) [.int x3, .int (x1 + (μ.1 a0 4))] ⟨hx, hb, hml, hown, hts⟩ hK hd hS (c_X2_lowerOf hk_a0 hc4) (cwV 2 hts gX2_findNext_X2_lowerOf rfl rfl rfl hv_X2_lowerOf ⟨Nat.le_of_ble_eq_true rfl, Nat.le_of_ble_eq_true rfl⟩) hk_a0 rfl rfl rfl rfl hl.1 rfl (Nat.le_of_ble_eq_true rfl) dX2_findNext_93 ⟨Nat.zero_le _, Nat.zero_le _⟩ (fun H locs hd hS => ?_)
    refine lv_istore_n (lv' := [(3, .int r3), (0, .ref (z + a0)), (1, .int x1)]) hx hb dX2_findNext_96 rfl hl (by decide) rfl (fun ls hl => ?_)
    refine lv_iload_n hx hb dX2_findNext_97 rfl (lv_at hl 0 rfl) ?_
    obtain ⟨rfl, rfl⟩ := so_e h
    exact rt_i hx hb hr hlk hd hS dX2_findNext_98
def f_X2_findNext_j53 (μ : Mm) (a0 : Nat) (x1 : Int32) (x2 : Int32) (x3 : Int32) : Option (Int32 × Mm) := if ((μ.1 a0 4) - (1 : Int32)) ≤ x2 then (f_X2_findNext_j72 μ a0 x1 x3) else (bC (f_X2_lowerOf μ a0 x3 (x1 + (1 : Int32))) (fun r3 μ2 => f_X2_findNext_j72 μ2 a0 x1 r3))
set_option maxRecDepth 100000 in
theorem k_f_X2_findNext_j53 {l : Launch} {D : va_G} {cA : Nat → ClassId} {z : Nat} {av : List Value} {p : Program} {e : Env} {s : State} {m : MethodId} {below : List Frame} {meth : Method} {c : Code} {r : Int32} {μ' : Mm} (X : Fx D cA RX2 wsX2_findNext cX2_findNext 4 (some .int) p s m av.toArray meth c) {μ : Mm} {a0 : Nat} {x1 : Int32} {x2 : Int32} {x3 : Int32} (hk_a0 : kd a0 = 2) {H : Heap} {locs : List Loc} {ls : Array Slot} (hd : Wd D cA z μ H) (hS : va_S (Az z) s.heap H locs) (hl : lv_has ls 4 [(0, .ref (z + a0)), (1, .int x1), (2, .int x2), (3, .int x3)]) (h : f_X2_findNext_j53 μ a0 x1 x2 x3 = some (r, μ')) : WG l D cA z wsX2_findNext 1 23 av (some (.int r)) μ' p e s m below meth c H locs (F0 m 53 ls []) := by
  obtain ⟨hx, hb, hr, hlk, hml, hown, hts, hK⟩ := id X
  unfold f_X2_findNext_j53 at h
  refine lv_iload_n hx hb dX2_findNext_53 rfl (lv_at hl 2 rfl) ?_
  refine lv_aload_n hx hb dX2_findNext_54 rfl (lv_at hl 0 rfl) ?_
  refine r_geti hx hb hts (fun w h => List.mem_cons_of_mem _ (List.mem_append_right _ (h))) hown hK hd hk_a0 rfl 4 fs_2_4 (hts (.fieldLink RX2 37 "LevelVotes$Hill" "columns" "I") (List.mem_of_getElem? (i := 1) rfl)) dX2_findNext_55 ?_
  refine lv_iconst (v := 1) hx hb dX2_findNext_58 (by decide) ?_
  refine lv_isub hx hb dX2_findNext_59 ?_
  refine lv_icmp_ge (tgt := 72) hx hb dX2_findNext_60 (by decide) (fun q1 => ?_) (fun q1 => ?_)
  · have h := if_y q1 h
    exact k_f_X2_findNext_j72 X hk_a0 hd hS (lv_sub hl [0, 1, 3] rfl) h
  · have h := if_n q1 h
    refine lv_aload_n hx hb dX2_findNext_63 rfl (lv_at hl 0 rfl) ?_
    refine lv_iload_n hx hb dX2_findNext_64 rfl (lv_at hl 3 rfl) ?_
    refine lv_iload_n hx hb dX2_findNext_65 rfl (lv_at hl 1 rfl) ?_
    refine lv_iconst (v := 1) hx hb dX2_findNext_66 (by decide) ?_
    refine lv_iadd hx hb dX2_findNext_67 ?_
    obtain ⟨r3, μ2, hc4, h⟩ := bC_e h
    refine rc_Vi (rest := []) [.int x3, .int (x1 + (1 : Int32))] ⟨hx, hb, hml, hown, hts⟩ hK hd hS (c_X2_lowerOf hk_a0 hc4) (cwV 2 hts gX2_findNext_X2_lowerOf rfl rfl rfl hv_X2_lowerOf ⟨Nat.le_of_ble_eq_true rfl, Nat.le_of_ble_eq_true rfl⟩) hk_a0 rfl rfl rfl rfl hl.1 rfl (Nat.le_of_ble_eq_true rfl) dX2_findNext_68 ⟨Nat.zero_le _, Nat.zero_le _⟩ (fun H locs hd hS => ?_)
    refine lv_istore_n (lv' := [(3, .int r3), (0, .ref (z + a0)), (1, .int x1), (2, .int x2)]) hx hb dX2_findNext_71 rfl hl (by decide) rfl (fun ls hl => ?_)
    exact k_f_X2_findNext_j72 X hk_a0 hd hS (lv_sub hl [1, 2, 0] rfl) h
def f_X2_findNext_j40 (μ : Mm) (a0 : Nat) (x1 : Int32) (x2 : Int32) (x3 : Int32) : Option (Int32 × Mm) := if x2 ≤ 0 then (f_X2_findNext_j53 μ a0 x1 x2 x3) else (bC (f_X2_lowerOf μ a0 x3 (x1 - (1 : Int32))) (fun r3 μ2 => f_X2_findNext_j53 μ2 a0 x1 x2 r3))
set_option maxRecDepth 100000 in
theorem k_f_X2_findNext_j40 {l : Launch} {D : va_G} {cA : Nat → ClassId} {z : Nat} {av : List Value} {p : Program} {e : Env} {s : State} {m : MethodId} {below : List Frame} {meth : Method} {c : Code} {r : Int32} {μ' : Mm} (X : Fx D cA RX2 wsX2_findNext cX2_findNext 4 (some .int) p s m av.toArray meth c) {μ : Mm} {a0 : Nat} {x1 : Int32} {x2 : Int32} {x3 : Int32} (hk_a0 : kd a0 = 2) {H : Heap} {locs : List Loc} {ls : Array Slot} (hd : Wd D cA z μ H) (hS : va_S (Az z) s.heap H locs) (hl : lv_has ls 4 [(0, .ref (z + a0)), (1, .int x1), (2, .int x2), (3, .int x3)]) (h : f_X2_findNext_j40 μ a0 x1 x2 x3 = some (r, μ')) : WG l D cA z wsX2_findNext 1 23 av (some (.int r)) μ' p e s m below meth c H locs (F0 m 40 ls []) := by
  obtain ⟨hx, hb, hr, hlk, hml, hown, hts, hK⟩ := id X
  unfold f_X2_findNext_j40 at h
  refine lv_iload_n hx hb dX2_findNext_40 rfl (lv_at hl 2 rfl) ?_
  refine lv_if_le (tgt := 53) hx hb dX2_findNext_41 (by decide) (fun q1 => ?_) (fun q1 => ?_)
  · have h := if_y q1 h
    exact k_f_X2_findNext_j53 X hk_a0 hd hS (lv_sub hl [0, 1, 2, 3] rfl) h
  · have h := if_n q1 h
    refine lv_aload_n hx hb dX2_findNext_44 rfl (lv_at hl 0 rfl) ?_
    refine lv_iload_n hx hb dX2_findNext_45 rfl (lv_at hl 3 rfl) ?_
    refine lv_iload_n hx hb dX2_findNext_46 rfl (lv_at hl 1 rfl) ?_
    refine lv_iconst (v := 1) hx hb dX2_findNext_47 (by decide) ?_
    refine lv_isub hx hb dX2_findNext_48 ?_
    obtain ⟨r3, μ2, hc4, h⟩ := bC_e h
    refine rc_Vi (rest := []) [.int x3, .int (x1 - (1 : Int32))] ⟨hx, hb, hml, hown, hts⟩ hK hd hS (c_X2_lowerOf hk_a0 hc4) (cwV 2 hts gX2_findNext_X2_lowerOf rfl rfl rfl hv_X2_lowerOf ⟨Nat.le_of_ble_eq_true rfl, Nat.le_of_ble_eq_true rfl⟩) hk_a0 rfl rfl rfl rfl hl.1 rfl (Nat.le_of_ble_eq_true rfl) dX2_findNext_49 ⟨Nat.zero_le _, Nat.zero_le _⟩ (fun H locs hd hS => ?_)
    refine lv_istore_n (lv' := [(3, .int r3), (0, .ref (z + a0)), (1, .int x1), (2, .int x2)]) hx hb dX2_findNext_52 rfl hl (by decide) rfl (fun ls hl => ?_)
    exact k_f_X2_findNext_j53 X hk_a0 hd hS (lv_sub hl [1, 2, 3, 0] rfl) h
def f_X2_findNext_j17 (μ : Mm) (a0 : Nat) (x1 : Int32) (ys0 : Int32) : Option (Int32 × Mm) := if x1 < (μ.1 a0 4) then (f_X2_findNext_j40 μ a0 x1 ys0 x1) else (bC (f_X2_lowerOf μ a0 x1 (x1 - (μ.1 a0 4))) (fun r3 μ2 => f_X2_findNext_j40 μ2 a0 x1 ys0 r3))
set_option maxRecDepth 100000 in
theorem k_f_X2_findNext_j17 {l : Launch} {D : va_G} {cA : Nat → ClassId} {z : Nat} {av : List Value} {p : Program} {e : Env} {s : State} {m : MethodId} {below : List Frame} {meth : Method} {c : Code} {r : Int32} {μ' : Mm} (X : Fx D cA RX2 wsX2_findNext cX2_findNext 4 (some .int) p s m av.toArray meth c) {μ : Mm} {a0 : Nat} {x1 : Int32} {ys0 : Int32} (hk_a0 : kd a0 = 2) {H : Heap} {locs : List Loc} {ls : Array Slot} (hd : Wd D cA z μ H) (hS : va_S (Az z) s.heap H locs) (hl : lv_has ls 4 [(0, .ref (z + a0)), (1, .int x1)]) (h : f_X2_findNext_j17 μ a0 x1 ys0 = some (r, μ')) : WG l D cA z wsX2_findNext 1 23 av (some (.int r)) μ' p e s m below meth c H locs (F0 m 17 ls [.int ys0]) := by
  obtain ⟨hx, hb, hr, hlk, hml, hown, hts, hK⟩ := id X
  unfold f_X2_findNext_j17 at h
  refine lv_istore_n (lv' := [(2, .int ys0), (0, .ref (z + a0)), (1, .int x1)]) hx hb dX2_findNext_17 rfl hl (by decide) rfl (fun ls hl => ?_)
  refine lv_iload_n hx hb dX2_findNext_18 rfl (lv_at hl 2 rfl) ?_
  refine lv_istore_n (lv' := [(3, .int x1), (2, .int ys0), (0, .ref (z + a0)), (1, .int x1)]) hx hb dX2_findNext_19 rfl hl (by decide) rfl (fun ls hl => ?_)
  refine lv_iload_n hx hb dX2_findNext_20 rfl (lv_at hl 3 rfl) ?_
  refine lv_aload_n hx hb dX2_findNext_21 rfl (lv_at hl 2 rfl) ?_
  refine r_geti hx hb hts (fun w h => List.mem_cons_of_mem _ (List.mem_append_right _ (h))) hown hK hd hk_a0 rfl 4 fs_2_4 (hts (.fieldLink RX2 37 "LevelVotes$Hill" "columns" "I") (List.mem_of_getElem? (i := 1) rfl)) dX2_findNext_22 ?_
  refine lv_icmp_lt (tgt := 40) hx hb dX2_findNext_25 (by decide) (fun q1 => ?_) (fun q1 => ?_)
  · have h := if_y q1 h
    exact k_f_X2_findNext_j40 X hk_a0 hd hS (lv_sub hl [2, 3, 1, 0] rfl) h
  · have h := if_n q1 h
    refine lv_aload_n hx hb dX2_findNext_28 rfl (lv_at hl 2 rfl) ?_
    refine lv_iload_n hx hb dX2_findNext_29 rfl (lv_at hl 0 rfl) ?_
    refine lv_iload_n hx hb dX2_findNext_30 rfl (lv_at hl 3 rfl) ?_
    refine lv_aload_n hx hb dX2_findNext_31 rfl (lv_at hl 2 rfl) ?_
    refine r_geti hx hb hts (fun w h => List.mem_cons_of_mem _ (List.mem_append_right _ (h))) hown hK hd hk_a0 rfl 4 fs_2_4 (hts (.fieldLink RX2 37 "LevelVotes$Hill" "columns" "I") (List.mem_of_getElem? (i := 1) rfl)) dX2_findNext_32 ?_
    refine lv_isub hx hb dX2_findNext_35 ?_
    obtain ⟨r3, μ2, hc4, h⟩ := bC_e h
    refine rc_Vi (rest := []) [.int x1, .int (x1 - (μ.1 a0 4))] ⟨hx, hb, hml, hown, hts⟩ hK hd hS (c_X2_lowerOf hk_a0 hc4) (cwV 2 hts gX2_findNext_X2_lowerOf rfl rfl rfl hv_X2_lowerOf ⟨Nat.le_of_ble_eq_true rfl, Nat.le_of_ble_eq_true rfl⟩) hk_a0 rfl rfl rfl rfl hl.1 rfl (Nat.le_of_ble_eq_true rfl) dX2_findNext_36 ⟨Nat.zero_le _, Nat.zero_le _⟩ (fun H locs hd hS => ?_)
    refine lv_istore_n (lv' := [(3, .int r3), (2, .int ys0), (0, .ref (z + a0)), (1, .int x1)]) hx hb dX2_findNext_39 rfl hl (by decide) rfl (fun ls hl => ?_)
    exact k_f_X2_findNext_j40 X hk_a0 hd hS (lv_sub hl [2, 3, 1, 0] rfl) h
def f_X2_findNext (μ : Mm) (a0 : Nat) (x1 : Int32) : Option (Int32 × Mm) := if (μ.1 a0 4) ≤ 0 then (f_X2_findNext_j17 μ a0 x1 (0 : Int32)) else (gd (ck0 (μ.1 a0 4)) (f_X2_findNext_j17 μ a0 x1 (x1 - x1 / (μ.1 a0 4) * (μ.1 a0 4))))
set_option maxRecDepth 100000 in
theorem c_X2_findNext {l : Launch} {D : va_G} {cA : Nat → ClassId} {z : Nat} {μ : Mm} {a0 : Nat} {x1 : Int32} {r : Int32} {μ' : Mm} (hk_a0 : kd a0 = 2) (h : f_X2_findNext μ a0 x1 = some (r, μ')) : Ct l D cA z yX2_findNext wsX2_findNext 1 23 [.ref (z + a0), .int x1] μ (some (.int r)) μ' := by
  refine m_in (cc := cX2_findNext) (maxL := 4) (ret := (some .int)) (own := RX2) (by decide) rfl rfl (Nat.le_of_ble_eq_true rfl) ?_
  intro p e s m below meth c ls X hd hS hl
  obtain ⟨hx, hb, hr, hlk, hml, hown, hts, hK⟩ := id X
  have hl : lv_has ls 4 [(0, .ref (z + a0)), (1, .int x1)] := hl
  unfold f_X2_findNext at h
  refine lv_aload_n hx hb dX2_findNext_0 rfl (lv_at hl 0 rfl) ?_
  refine r_geti hx hb hts (fun w h => List.mem_cons_of_mem _ (List.mem_append_right _ (h))) hown hK hd hk_a0 rfl 4 fs_2_4 (hts (.fieldLink RX2 37 "LevelVotes$Hill" "columns" "I") (List.mem_of_getElem? (i := 1) rfl)) dX2_findNext_1 ?_
  refine lv_if_le (tgt := 16) hx hb dX2_findNext_4 (by decide) (fun q1 => ?_) (fun q1 => ?_)
  · have h := if_y q1 h
    refine lv_iconst (v := 0) hx hb dX2_findNext_16 (by decide) ?_
    exact k_f_X2_findNext_j17 X hk_a0 hd hS (lv_sub hl [0, 1] rfl) h
  · have h := if_n q1 h
    refine lv_iload_n hx hb dX2_findNext_7 rfl (lv_at hl 1 rfl) ?_
    refine lv_aload_n hx hb dX2_findNext_8 rfl (lv_at hl 0 rfl) ?_
    refine r_geti hx hb hts (fun w h => List.mem_cons_of_mem _ (List.mem_append_right _ (h))) hown hK hd hk_a0 rfl 4 fs_2_4 (hts (.fieldLink RX2 37 "LevelVotes$Hill" "columns" "I") (List.mem_of_getElem? (i := 1) rfl)) dX2_findNext_9 ?_
    obtain ⟨g2, h⟩ := gd_e h
    refine lv_irem hx hb dX2_findNext_12 (ck0_ne g2) ?_
    refine lv_goto (tgt := 17) hx hb dX2_findNext_13 (by decide) ?_
    exact k_f_X2_findNext_j17 X hk_a0 hd hS (lv_sub hl [0, 1] rfl) h
theorem hv_X2_nextFrom : yX2_nextFrom.cls = RX2 ∧ yX2_nextFrom.cls ≠ "java/lang/invoke/MethodHandle" ∧ yX2_nextFrom.cls ≠ "java/lang/invoke/VarHandle" ∧ (parseMethodDescriptor yX2_nextFrom.desc).map (fun d => d.parameters.length) = some 1 := by decide +kernel
def f_X2_nextFrom_j36 (μ : Mm) (a0 : Nat) (x1 : Int32) : Option (Int32 × Mm) := bR (μ.2 a0 2) (fun b1 => gd (ckb x1 (ln b1)) (some (μ.1 b1 (x1).toNatClampNeg, μ)))
set_option maxRecDepth 100000 in
theorem k_f_X2_nextFrom_j36 {l : Launch} {D : va_G} {cA : Nat → ClassId} {z : Nat} {av : List Value} {p : Program} {e : Env} {s : State} {m : MethodId} {below : List Frame} {meth : Method} {c : Code} {r : Int32} {μ' : Mm} (X : Fx D cA RX2 wsX2_nextFrom cX2_nextFrom 2 (some .int) p s m av.toArray meth c) {μ : Mm} {a0 : Nat} {x1 : Int32} (hk_a0 : kd a0 = 2) {H : Heap} {locs : List Loc} {ls : Array Slot} (hd : Wd D cA z μ H) (hS : va_S (Az z) s.heap H locs) (hl : lv_has ls 2 [(0, .ref (z + a0)), (1, .int x1)]) (h : f_X2_nextFrom_j36 μ a0 x1 = some (r, μ')) : WG l D cA z wsX2_nextFrom 2 46 av (some (.int r)) μ' p e s m below meth c H locs (F0 m 36 ls []) := by
  obtain ⟨hx, hb, hr, hlk, hml, hown, hts, hK⟩ := id X
  unfold f_X2_nextFrom_j36 at h
  refine lv_aload_n hx hb dX2_nextFrom_36 rfl (lv_at hl 0 rfl) ?_
  obtain ⟨b1, hb1, h⟩ := bR_e h
  refine r_getr hx hb hts (fun w h => List.mem_cons_of_mem _ (List.mem_append_right _ (h))) hown hK hd hk_a0 hb1 rfl fs_2_2 (hts (.fieldLink RX2 18 "LevelVotes$Hill" "nexts" "[I") (List.mem_of_getElem? (i := 1) rfl)) dX2_nextFrom_37 (fun hq => ?_)
  have hk_b1 : kd b1 = 11 := hq
  refine lv_iload_n hx hb dX2_nextFrom_40 rfl (lv_at hl 1 rfl) ?_
  obtain ⟨g2, h⟩ := gd_e h
  refine r_iald hx hb hK hd hk_b1 (ckb_in g2) dX2_nextFrom_41 ?_
  obtain ⟨rfl, rfl⟩ := so_e h
  exact rt_i hx hb hr hlk hd hS dX2_nextFrom_42
def f_X2_nextFrom (μ : Mm) (a0 : Nat) (x1 : Int32) : Option (Int32 × Mm) := if x1 < 0 then (some (x1, μ)) else (bR (μ.2 a0 2) (fun b2 => if x1 < (Int32.ofNat (ln b2)) then (bR (μ.2 a0 2) (fun b4 => gd (ckb x1 (ln b4)) (if (μ.1 b4 (x1).toNatClampNeg) = (-1 : Int32) then (bR (μ.2 a0 2) (fun b7 => bC (f_X2_findNext μ a0 x1) (fun r9 μ8 => gd (ckb x1 (ln b7)) (bM (up2 μ8.1 b7 (x1).toNatClampNeg r9, μ8.2) (fun μ12 => f_X2_nextFrom_j36 μ12 a0 x1))))) else (f_X2_nextFrom_j36 μ a0 x1)))) else (some (x1, μ))))
set_option maxRecDepth 100000 in
theorem c_X2_nextFrom {l : Launch} {D : va_G} {cA : Nat → ClassId} {z : Nat} {μ : Mm} {a0 : Nat} {x1 : Int32} {r : Int32} {μ' : Mm} (hk_a0 : kd a0 = 2) (h : f_X2_nextFrom μ a0 x1 = some (r, μ')) : Ct l D cA z yX2_nextFrom wsX2_nextFrom 2 46 [.ref (z + a0), .int x1] μ (some (.int r)) μ' := by
  refine m_in (cc := cX2_nextFrom) (maxL := 2) (ret := (some .int)) (own := RX2) (by decide) rfl rfl (Nat.le_of_ble_eq_true rfl) ?_
  intro p e s m below meth c ls X hd hS hl
  obtain ⟨hx, hb, hr, hlk, hml, hown, hts, hK⟩ := id X
  have hl : lv_has ls 2 [(0, .ref (z + a0)), (1, .int x1)] := hl
  unfold f_X2_nextFrom at h
  refine lv_iload_n hx hb dX2_nextFrom_0 rfl (lv_at hl 1 rfl) ?_
  refine lv_if_lt (tgt := 13) hx hb dX2_nextFrom_1 (by decide) (fun q1 => ?_) (fun q1 => ?_)
  · have h := if_y q1 h
    refine lv_iload_n hx hb dX2_nextFrom_13 rfl (lv_at hl 1 rfl) ?_
    obtain ⟨rfl, rfl⟩ := so_e h
    exact rt_i hx hb hr hlk hd hS dX2_nextFrom_14
  · have h := if_n q1 h
    refine lv_iload_n hx hb dX2_nextFrom_4 rfl (lv_at hl 1 rfl) ?_
    refine lv_aload_n hx hb dX2_nextFrom_5 rfl (lv_at hl 0 rfl) ?_
    obtain ⟨b2, hb2, h⟩ := bR_e h
    refine r_getr hx hb hts (fun w h => List.mem_cons_of_mem _ (List.mem_append_right _ (h))) hown hK hd hk_a0 hb2 rfl fs_2_2 (hts (.fieldLink RX2 18 "LevelVotes$Hill" "nexts" "[I") (List.mem_of_getElem? (i := 1) rfl)) dX2_nextFrom_6 (fun hq => ?_)
    have hk_b2 : kd b2 = 11 := hq
    refine r_alen hx hb hK hd hk_b2 rfl dX2_nextFrom_9 ?_
    refine lv_icmp_lt (tgt := 15) hx hb dX2_nextFrom_10 (by decide) (fun q3 => ?_) (fun q3 => ?_)
    · have h := if_y q3 h
      refine lv_aload_n hx hb dX2_nextFrom_15 rfl (lv_at hl 0 rfl) ?_
      obtain ⟨b4, hb4, h⟩ := bR_e h
      refine r_getr hx hb hts (fun w h => List.mem_cons_of_mem _ (List.mem_append_right _ (h))) hown hK hd hk_a0 hb4 rfl fs_2_2 (hts (.fieldLink RX2 18 "LevelVotes$Hill" "nexts" "[I") (List.mem_of_getElem? (i := 1) rfl)) dX2_nextFrom_16 (fun hq => ?_)
      have hk_b4 : kd b4 = 11 := hq
      refine lv_iload_n hx hb dX2_nextFrom_19 rfl (lv_at hl 1 rfl) ?_
      obtain ⟨g5, h⟩ := gd_e h
      refine r_iald hx hb hK hd hk_b4 (ckb_in g5) dX2_nextFrom_20 ?_
      refine lv_iconst (v := -1) hx hb dX2_nextFrom_21 (by decide) ?_
      refine lv_icmp_ne (tgt := 36) hx hb dX2_nextFrom_22 (by decide) (fun q6 => ?_) (fun q6 => ?_)
      · have h := if_n q6 h
        exact k_f_X2_nextFrom_j36 X hk_a0 hd hS (lv_sub hl [0, 1] rfl) h
      · have h := if_y q6 h
        refine lv_aload_n hx hb dX2_nextFrom_25 rfl (lv_at hl 0 rfl) ?_
        obtain ⟨b7, hb7, h⟩ := bR_e h
        refine r_getr hx hb hts (fun w h => List.mem_cons_of_mem _ (List.mem_append_right _ (h))) hown hK hd hk_a0 hb7 rfl fs_2_2 (hts (.fieldLink RX2 18 "LevelVotes$Hill" "nexts" "[I") (List.mem_of_getElem? (i := 1) rfl)) dX2_nextFrom_26 (fun hq => ?_)
        have hk_b7 : kd b7 = 11 := hq
        refine lv_iload_n hx hb dX2_nextFrom_29 rfl (lv_at hl 1 rfl) ?_
        refine lv_aload_n hx hb dX2_nextFrom_30 rfl (lv_at hl 0 rfl) ?_
        refine lv_iload_n hx hb dX2_nextFrom_31 rfl (lv_at hl 1 rfl) ?_
        obtain ⟨r9, μ8, hc10, h⟩ := bC_e h
        refine rc_Vi (rest := [.int x1, .ref (z + b7)]) [.int x1] ⟨hx, hb, hml, hown, hts⟩ hK hd hS (c_X2_findNext hk_a0 hc10) (cwV 1 hts gX2_nextFrom_X2_findNext rfl rfl rfl hv_X2_findNext ⟨Nat.le_of_ble_eq_true rfl, Nat.le_of_ble_eq_true rfl⟩) hk_a0 rfl rfl rfl rfl hl.1 rfl (Nat.le_of_ble_eq_true rfl) dX2_nextFrom_32 ⟨Nat.zero_le _, Nat.zero_le _⟩ (fun H locs hd hS => ?_)
        obtain ⟨g11, h⟩ := gd_e h
        refine r_iast hx hb hK hd hS hk_b7 (ckb_in g11) dX2_nextFrom_35 (fun μ12 eμ12 H locs hd hS => ?_)
        have h := bM_e eμ12 h
        exact k_f_X2_nextFrom_j36 X hk_a0 hd hS (lv_sub hl [0, 1] rfl) h
    · have h := if_n q3 h
      refine lv_iload_n hx hb dX2_nextFrom_13 rfl (lv_at hl 1 rfl) ?_
      obtain ⟨rfl, rfl⟩ := so_e h
      exact rt_i hx hb hr hlk hd hS dX2_nextFrom_14
theorem hv_X2_restFrom : yX2_restFrom.cls = RX2 ∧ yX2_restFrom.cls ≠ "java/lang/invoke/MethodHandle" ∧ yX2_restFrom.cls ≠ "java/lang/invoke/VarHandle" ∧ (parseMethodDescriptor yX2_restFrom.desc).map (fun d => d.parameters.length) = some 1 := by decide +kernel
abbrev HL_X2_restFrom_4 (l : Launch) (D : va_G) (cA : Nat → ClassId) (z : Nat) (av : List Value) (r : Int32) (μ' : Mm) (p : Program) (e : Env) (s : State) (m : MethodId) (below : List Frame) (meth : Method) (c : Code) (rc : Mm → Nat → Int32 → Int32 → Option (Int32 × Mm)) : Prop := ∀ (μ : Mm) (H : Heap) (locs : List Loc) (ls : Array Slot) (a0 : Nat) (x2 : Int32) (x3 : Int32), kd a0 = 2 → Wd D cA z μ H → va_S (Az z) s.heap H locs → lv_has ls 5 [(0, .ref (z + a0)), (2, .int x2), (3, .int x3)] → rc μ a0 x2 x3 = some (r, μ') → WG l D cA z wsX2_restFrom 3 67 av (some (.int r)) μ' p e s m below meth c H locs (F0 m 4 ls [])
def f_X2_restFrom_L4b (rc4 : Mm → Nat → Int32 → Int32 → Option (Int32 × Mm)) (μ : Mm) (a0 : Nat) (x2 : Int32) (x3 : Int32) : Option (Int32 × Mm) := if (20 : Int32) ≤ x3 then (some (x2, μ)) else (bC (f_X2_nextFrom μ a0 x2) (fun r3 μ2 => if r3 = x2 then (some (x2, μ2)) else (rc4 μ2 a0 r3 (x3 + (1 : Int32)))))
set_option maxRecDepth 100000 in
theorem k_f_X2_restFrom_L4b {l : Launch} {D : va_G} {cA : Nat → ClassId} {z : Nat} {av : List Value} {p : Program} {e : Env} {s : State} {m : MethodId} {below : List Frame} {meth : Method} {c : Code} {r : Int32} {μ' : Mm} (X : Fx D cA RX2 wsX2_restFrom cX2_restFrom 5 (some .int) p s m av.toArray meth c) {rc4 : Mm → Nat → Int32 → Int32 → Option (Int32 × Mm)} (hrc4 : HL_X2_restFrom_4 l D cA z av r μ' p e s m below meth c rc4) {μ : Mm} {a0 : Nat} {x2 : Int32} {x3 : Int32} (hk_a0 : kd a0 = 2) {H : Heap} {locs : List Loc} {ls : Array Slot} (hd : Wd D cA z μ H) (hS : va_S (Az z) s.heap H locs) (hl : lv_has ls 5 [(0, .ref (z + a0)), (2, .int x2), (3, .int x3)]) (h : f_X2_restFrom_L4b rc4 μ a0 x2 x3 = some (r, μ')) : WG l D cA z wsX2_restFrom 3 67 av (some (.int r)) μ' p e s m below meth c H locs (F0 m 4 ls []) := by
  obtain ⟨hx, hb, hr, hlk, hml, hown, hts, hK⟩ := id X
  unfold f_X2_restFrom_L4b at h
  refine lv_iload_n hx hb dX2_restFrom_4 rfl (lv_at hl 2 rfl) ?_
  refine lv_bipush (v := 20) hx hb dX2_restFrom_5 (by decide) ?_
  refine lv_icmp_ge (tgt := 34) hx hb dX2_restFrom_7 (by decide) (fun q1 => ?_) (fun q1 => ?_)
  · have h := if_y q1 h
    refine lv_iload_n hx hb dX2_restFrom_34 rfl (lv_at hl 1 rfl) ?_
    obtain ⟨rfl, rfl⟩ := so_e h
    exact rt_i hx hb hr hlk hd hS dX2_restFrom_35
  · have h := if_n q1 h
    refine lv_aload_n hx hb dX2_restFrom_10 rfl (lv_at hl 0 rfl) ?_
    refine lv_iload_n hx hb dX2_restFrom_11 rfl (lv_at hl 1 rfl) ?_
    obtain ⟨r3, μ2, hc4, h⟩ := bC_e h
    refine rc_Vi (rest := []) [.int x2] ⟨hx, hb, hml, hown, hts⟩ hK hd hS (c_X2_nextFrom hk_a0 hc4) (cwV 1 hts gX2_restFrom_X2_nextFrom rfl rfl rfl hv_X2_nextFrom ⟨Nat.le_of_ble_eq_true rfl, Nat.le_of_ble_eq_true rfl⟩) hk_a0 rfl rfl rfl rfl hl.1 rfl (Nat.le_of_ble_eq_true rfl) dX2_restFrom_12 ⟨Nat.zero_le _, Nat.zero_le _⟩ (fun H locs hd hS => ?_)
    refine lv_istore (lv' := [(4, .int r3), (0, .ref (z + a0)), (2, .int x2), (3, .int x3)]) hx hb dX2_restFrom_15 hl (by decide) rfl (fun ls hl => ?_)
    refine lv_iload hx hb dX2_restFrom_17 (lv_at hl 0 rfl) ?_
    refine lv_iload_n hx hb dX2_restFrom_19 rfl (lv_at hl 2 rfl) ?_
    refine lv_icmp_ne (tgt := 25) hx hb dX2_restFrom_20 (by decide) (fun q5 => ?_) (fun q5 => ?_)
    · have h := if_n q5 h
      refine lv_iload hx hb dX2_restFrom_25 (lv_at hl 0 rfl) ?_
      refine lv_istore_n (lv' := [(2, .int r3), (4, .int r3), (0, .ref (z + a0)), (3, .int x3)]) hx hb dX2_restFrom_27 rfl hl (by decide) rfl (fun ls hl => ?_)
      refine lv_iinc (v := x3 + (1 : Int32)) (lv' := [(3, .int (x3 + (1 : Int32))), (2, .int r3), (4, .int r3), (0, .ref (z + a0))]) hx hb dX2_restFrom_28 hl (k := 3) rfl rfl (by decide) rfl (fun ls hl => ?_)
      refine lv_goto (tgt := 4) hx hb dX2_restFrom_31 (by decide) ?_
      exact hrc4 _ _ _ _ _ _ _ hk_a0 hd hS (lv_sub hl [3, 1, 0] rfl) h
    · have h := if_y q5 h
      refine lv_iload_n hx hb dX2_restFrom_23 rfl (lv_at hl 2 rfl) ?_
      obtain ⟨rfl, rfl⟩ := so_e h
      exact rt_i hx hb hr hlk hd hS dX2_restFrom_24
def f_X2_restFrom_L4 : Nat → Mm → Nat → Int32 → Int32 → Option (Int32 × Mm)
  | 0 => fun _ _ _ _ => none
  | n + 1 => fun μ a0 x2 x3 => f_X2_restFrom_L4b (f_X2_restFrom_L4 n) μ a0 x2 x3
theorem k_f_X2_restFrom_L4 {l : Launch} {D : va_G} {cA : Nat → ClassId} {z : Nat} {av : List Value} {p : Program} {e : Env} {s : State} {m : MethodId} {below : List Frame} {meth : Method} {c : Code} {r : Int32} {μ' : Mm} (X : Fx D cA RX2 wsX2_restFrom cX2_restFrom 5 (some .int) p s m av.toArray meth c) (n : Nat) : HL_X2_restFrom_4 l D cA z av r μ' p e s m below meth c (f_X2_restFrom_L4 n) := by
  induction n with
  | zero => intro _ _ _ _ _ _ _ _ _ _ _ h; have h2 : (none : Option _) = some _ := h; cases h2
  | succ n ih => intro μ H locs ls a0 x2 x3 hk_a0 hd hS hl h; exact k_f_X2_restFrom_L4b X ih hk_a0 hd hS hl h
def f_X2_restFrom (μ : Mm) (a0 : Nat) (x1 : Int32) : Option (Int32 × Mm) := f_X2_restFrom_L4 FU μ a0 x1 (0 : Int32)
set_option maxRecDepth 100000 in
theorem c_X2_restFrom {l : Launch} {D : va_G} {cA : Nat → ClassId} {z : Nat} {μ : Mm} {a0 : Nat} {x1 : Int32} {r : Int32} {μ' : Mm} (hk_a0 : kd a0 = 2) (h : f_X2_restFrom μ a0 x1 = some (r, μ')) : Ct l D cA z yX2_restFrom wsX2_restFrom 3 67 [.ref (z + a0), .int x1] μ (some (.int r)) μ' := by
  refine m_in (cc := cX2_restFrom) (maxL := 5) (ret := (some .int)) (own := RX2) (by decide) rfl rfl (Nat.le_of_ble_eq_true rfl) ?_
  intro p e s m below meth c ls X hd hS hl
  obtain ⟨hx, hb, hr, hlk, hml, hown, hts, hK⟩ := id X
  have hl : lv_has ls 5 [(0, .ref (z + a0)), (1, .int x1)] := hl
  unfold f_X2_restFrom at h
  refine lv_iload_n hx hb dX2_restFrom_0 rfl (lv_at hl 1 rfl) ?_
  refine lv_istore_n (lv' := [(2, .int x1), (0, .ref (z + a0)), (1, .int x1)]) hx hb dX2_restFrom_1 rfl hl (by decide) rfl (fun ls hl => ?_)
  refine lv_iconst (v := 0) hx hb dX2_restFrom_2 (by decide) ?_
  refine lv_istore_n (lv' := [(3, .int (0 : Int32)), (2, .int x1), (0, .ref (z + a0)), (1, .int x1)]) hx hb dX2_restFrom_3 rfl hl (by decide) rfl (fun ls hl => ?_)
  exact k_f_X2_restFrom_L4 X FU _ _ _ _ _ _ _ hk_a0 hd hS (lv_sub hl [2, 1, 0] rfl) h
theorem hv_X2_rollsFrom : yX2_rollsFrom.cls = RX2 ∧ yX2_rollsFrom.cls ≠ "java/lang/invoke/MethodHandle" ∧ yX2_rollsFrom.cls ≠ "java/lang/invoke/VarHandle" ∧ (parseMethodDescriptor yX2_rollsFrom.desc).map (fun d => d.parameters.length) = some 1 := by decide +kernel
abbrev HL_X2_rollsFrom_4 (l : Launch) (D : va_G) (cA : Nat → ClassId) (z : Nat) (av : List Value) (r : Int32) (μ' : Mm) (p : Program) (e : Env) (s : State) (m : MethodId) (below : List Frame) (meth : Method) (c : Code) (rc : Mm → Nat → Int32 → Int32 → Option (Int32 × Mm)) : Prop := ∀ (μ : Mm) (H : Heap) (locs : List Loc) (ls : Array Slot) (a0 : Nat) (x2 : Int32) (x3 : Int32), kd a0 = 2 → Wd D cA z μ H → va_S (Az z) s.heap H locs → lv_has ls 5 [(0, .ref (z + a0)), (2, .int x2), (3, .int x3)] → rc μ a0 x2 x3 = some (r, μ') → WG l D cA z wsX2_rollsFrom 3 67 av (some (.int r)) μ' p e s m below meth c H locs (F0 m 4 ls [])
def f_X2_rollsFrom_L4b (rc4 : Mm → Nat → Int32 → Int32 → Option (Int32 × Mm)) (μ : Mm) (a0 : Nat) (x2 : Int32) (x3 : Int32) : Option (Int32 × Mm) := if (20 : Int32) ≤ x3 then (some ((20 : Int32), μ)) else (bC (f_X2_nextFrom μ a0 x2) (fun r3 μ2 => if r3 = x2 then (some (x3, μ2)) else (rc4 μ2 a0 r3 (x3 + (1 : Int32)))))
set_option maxRecDepth 100000 in
theorem k_f_X2_rollsFrom_L4b {l : Launch} {D : va_G} {cA : Nat → ClassId} {z : Nat} {av : List Value} {p : Program} {e : Env} {s : State} {m : MethodId} {below : List Frame} {meth : Method} {c : Code} {r : Int32} {μ' : Mm} (X : Fx D cA RX2 wsX2_rollsFrom cX2_rollsFrom 5 (some .int) p s m av.toArray meth c) {rc4 : Mm → Nat → Int32 → Int32 → Option (Int32 × Mm)} (hrc4 : HL_X2_rollsFrom_4 l D cA z av r μ' p e s m below meth c rc4) {μ : Mm} {a0 : Nat} {x2 : Int32} {x3 : Int32} (hk_a0 : kd a0 = 2) {H : Heap} {locs : List Loc} {ls : Array Slot} (hd : Wd D cA z μ H) (hS : va_S (Az z) s.heap H locs) (hl : lv_has ls 5 [(0, .ref (z + a0)), (2, .int x2), (3, .int x3)]) (h : f_X2_rollsFrom_L4b rc4 μ a0 x2 x3 = some (r, μ')) : WG l D cA z wsX2_rollsFrom 3 67 av (some (.int r)) μ' p e s m below meth c H locs (F0 m 4 ls []) := by
  obtain ⟨hx, hb, hr, hlk, hml, hown, hts, hK⟩ := id X
  unfold f_X2_rollsFrom_L4b at h
  refine lv_iload_n hx hb dX2_rollsFrom_4 rfl (lv_at hl 2 rfl) ?_
  refine lv_bipush (v := 20) hx hb dX2_rollsFrom_5 (by decide) ?_
  refine lv_icmp_ge (tgt := 34) hx hb dX2_rollsFrom_7 (by decide) (fun q1 => ?_) (fun q1 => ?_)
  · have h := if_y q1 h
    refine lv_bipush (v := 20) hx hb dX2_rollsFrom_34 (by decide) ?_
    obtain ⟨rfl, rfl⟩ := so_e h
    exact rt_i hx hb hr hlk hd hS dX2_rollsFrom_36
  · have h := if_n q1 h
    refine lv_aload_n hx hb dX2_rollsFrom_10 rfl (lv_at hl 0 rfl) ?_
    refine lv_iload_n hx hb dX2_rollsFrom_11 rfl (lv_at hl 1 rfl) ?_
    obtain ⟨r3, μ2, hc4, h⟩ := bC_e h
    refine rc_Vi (rest := []) [.int x2] ⟨hx, hb, hml, hown, hts⟩ hK hd hS (c_X2_nextFrom hk_a0 hc4) (cwV 1 hts gX2_rollsFrom_X2_nextFrom rfl rfl rfl hv_X2_nextFrom ⟨Nat.le_of_ble_eq_true rfl, Nat.le_of_ble_eq_true rfl⟩) hk_a0 rfl rfl rfl rfl hl.1 rfl (Nat.le_of_ble_eq_true rfl) dX2_rollsFrom_12 ⟨Nat.zero_le _, Nat.zero_le _⟩ (fun H locs hd hS => ?_)
    refine lv_istore (lv' := [(4, .int r3), (0, .ref (z + a0)), (2, .int x2), (3, .int x3)]) hx hb dX2_rollsFrom_15 hl (by decide) rfl (fun ls hl => ?_)
    refine lv_iload hx hb dX2_rollsFrom_17 (lv_at hl 0 rfl) ?_
    refine lv_iload_n hx hb dX2_rollsFrom_19 rfl (lv_at hl 2 rfl) ?_
    refine lv_icmp_ne (tgt := 25) hx hb dX2_rollsFrom_20 (by decide) (fun q5 => ?_) (fun q5 => ?_)
    · have h := if_n q5 h
      refine lv_iload hx hb dX2_rollsFrom_25 (lv_at hl 0 rfl) ?_
      refine lv_istore_n (lv' := [(2, .int r3), (4, .int r3), (0, .ref (z + a0)), (3, .int x3)]) hx hb dX2_rollsFrom_27 rfl hl (by decide) rfl (fun ls hl => ?_)
      refine lv_iinc (v := x3 + (1 : Int32)) (lv' := [(3, .int (x3 + (1 : Int32))), (2, .int r3), (4, .int r3), (0, .ref (z + a0))]) hx hb dX2_rollsFrom_28 hl (k := 3) rfl rfl (by decide) rfl (fun ls hl => ?_)
      refine lv_goto (tgt := 4) hx hb dX2_rollsFrom_31 (by decide) ?_
      exact hrc4 _ _ _ _ _ _ _ hk_a0 hd hS (lv_sub hl [3, 1, 0] rfl) h
    · have h := if_y q5 h
      refine lv_iload_n hx hb dX2_rollsFrom_23 rfl (lv_at hl 3 rfl) ?_
      obtain ⟨rfl, rfl⟩ := so_e h
      exact rt_i hx hb hr hlk hd hS dX2_rollsFrom_24
def f_X2_rollsFrom_L4 : Nat → Mm → Nat → Int32 → Int32 → Option (Int32 × Mm)
  | 0 => fun _ _ _ _ => none
  | n + 1 => fun μ a0 x2 x3 => f_X2_rollsFrom_L4b (f_X2_rollsFrom_L4 n) μ a0 x2 x3
theorem k_f_X2_rollsFrom_L4 {l : Launch} {D : va_G} {cA : Nat → ClassId} {z : Nat} {av : List Value} {p : Program} {e : Env} {s : State} {m : MethodId} {below : List Frame} {meth : Method} {c : Code} {r : Int32} {μ' : Mm} (X : Fx D cA RX2 wsX2_rollsFrom cX2_rollsFrom 5 (some .int) p s m av.toArray meth c) (n : Nat) : HL_X2_rollsFrom_4 l D cA z av r μ' p e s m below meth c (f_X2_rollsFrom_L4 n) := by
  induction n with
  | zero => intro _ _ _ _ _ _ _ _ _ _ _ h; have h2 : (none : Option _) = some _ := h; cases h2
  | succ n ih => intro μ H locs ls a0 x2 x3 hk_a0 hd hS hl h; exact k_f_X2_rollsFrom_L4b X ih hk_a0 hd hS hl h
def f_X2_rollsFrom (μ : Mm) (a0 : Nat) (x1 : Int32) : Option (Int32 × Mm) := f_X2_rollsFrom_L4 FU μ a0 x1 (0 : Int32)
set_option maxRecDepth 100000 in
theorem c_X2_rollsFrom {l : Launch} {D : va_G} {cA : Nat → ClassId} {z : Nat} {μ : Mm} {a0 : Nat} {x1 : Int32} {r : Int32} {μ' : Mm} (hk_a0 : kd a0 = 2) (h : f_X2_rollsFrom μ a0 x1 = some (r, μ')) : Ct l D cA z yX2_rollsFrom wsX2_rollsFrom 3 67 [.ref (z + a0), .int x1] μ (some (.int r)) μ' := by
  refine m_in (cc := cX2_rollsFrom) (maxL := 5) (ret := (some .int)) (own := RX2) (by decide) rfl rfl (Nat.le_of_ble_eq_true rfl) ?_
  intro p e s m below meth c ls X hd hS hl
  obtain ⟨hx, hb, hr, hlk, hml, hown, hts, hK⟩ := id X
  have hl : lv_has ls 5 [(0, .ref (z + a0)), (1, .int x1)] := hl
  unfold f_X2_rollsFrom at h
  refine lv_iload_n hx hb dX2_rollsFrom_0 rfl (lv_at hl 1 rfl) ?_
  refine lv_istore_n (lv' := [(2, .int x1), (0, .ref (z + a0)), (1, .int x1)]) hx hb dX2_rollsFrom_1 rfl hl (by decide) rfl (fun ls hl => ?_)
  refine lv_iconst (v := 0) hx hb dX2_rollsFrom_2 (by decide) ?_
  refine lv_istore_n (lv' := [(3, .int (0 : Int32)), (2, .int x1), (0, .ref (z + a0)), (1, .int x1)]) hx hb dX2_rollsFrom_3 rfl hl (by decide) rfl (fun ls hl => ?_)
  exact k_f_X2_rollsFrom_L4 X FU _ _ _ _ _ _ _ hk_a0 hd hS (lv_sub hl [2, 1, 0] rfl) h
theorem hv_X3_clear : yX3_clear.cls = RX3 ∧ yX3_clear.cls ≠ "java/lang/invoke/MethodHandle" ∧ yX3_clear.cls ≠ "java/lang/invoke/VarHandle" ∧ (parseMethodDescriptor yX3_clear.desc).map (fun d => d.parameters.length) = some 0 := by decide +kernel
def f_X3_clear (μ : Mm) (a0 : Nat) : Option Mm := bM (up2 μ.1 a0 1 (0 : Int32), μ.2) (fun μ1 => bM (up2 μ1.1 a0 2 (0 : Int32), μ1.2) (fun μ2 => some μ2))
set_option maxRecDepth 100000 in
theorem c_X3_clear {l : Launch} {D : va_G} {cA : Nat → ClassId} {z : Nat} {μ : Mm} {a0 : Nat} {μ' : Mm} (hk_a0 : kd a0 = 3) (h : f_X3_clear μ a0 = some μ') : Ct l D cA z yX3_clear wsX3_clear 0 0 [.ref (z + a0)] μ none μ' := by
  refine m_in (cc := cX3_clear) (maxL := 1) (ret := none) (own := RX3) (by decide) rfl rfl (Nat.le_of_ble_eq_true rfl) ?_
  intro p e s m below meth c ls X hd hS hl
  obtain ⟨hx, hb, hr, hlk, hml, hown, hts, hK⟩ := id X
  have hl : lv_has ls 1 [(0, .ref (z + a0))] := hl
  unfold f_X3_clear at h
  refine lv_aload_n hx hb dX3_clear_0 rfl (lv_at hl 0 rfl) ?_
  refine lv_iconst (v := 0) hx hb dX3_clear_1 (by decide) ?_
  refine r_puti hx hb hts (fun w h => List.mem_cons_of_mem _ (List.mem_append_right _ (h))) tyX3 tyX3_ok nmX3 hown hK hd hS hk_a0 rfl 1 fs_3_1 rfl (hts (.fieldLink RX3 18 "LevelVotes$History" "count" "I") (List.mem_of_getElem? (i := 1) rfl)) (vp_nar_int _) rfl dX3_clear_2 (fun μ1 eμ1 H locs hd hS => ?_)
  have h := bM_e eμ1 h
  refine lv_aload_n hx hb dX3_clear_5 rfl (lv_at hl 0 rfl) ?_
  refine lv_iconst (v := 0) hx hb dX3_clear_6 (by decide) ?_
  refine r_puti hx hb hts (fun w h => List.mem_cons_of_mem _ (List.mem_append_right _ (h))) tyX3 tyX3_ok nmX3 hown hK hd hS hk_a0 rfl 2 fs_3_2 rfl (hts (.fieldLink RX3 22 "LevelVotes$History" "next" "I") (List.mem_of_getElem? (i := 2) rfl)) (vp_nar_int _) rfl dX3_clear_7 (fun μ2 eμ2 H locs hd hS => ?_)
  have h := bM_e eμ2 h
  obtain rfl := sv_e h
  exact rt_v hx hb hr hlk hd hS dX3_clear_10
theorem hv_X3_rowAt : yX3_rowAt.cls = RX3 ∧ yX3_rowAt.cls ≠ "java/lang/invoke/MethodHandle" ∧ yX3_rowAt.cls ≠ "java/lang/invoke/VarHandle" ∧ (parseMethodDescriptor yX3_rowAt.desc).map (fun d => d.parameters.length) = some 1 := by decide +kernel
def f_X3_rowAt (μ : Mm) (a0 : Nat) (x1 : Int32) : Option (Option Nat × Mm) := if x1 < 0 then (some (none, μ)) else (bR (μ.2 a0 0) (fun b2 => if (Int32.ofNat (ln b2)) ≤ x1 then (some (none, μ)) else (bR (μ.2 a0 0) (fun b4 => gd (ckb x1 (ln b4)) (bR (μ.2 b4 (x1).toNatClampNeg) (fun b6 => some (some b6, μ)))))))
set_option maxRecDepth 100000 in
theorem c_X3_rowAt {l : Launch} {D : va_G} {cA : Nat → ClassId} {z : Nat} {μ : Mm} {a0 : Nat} {x1 : Int32} {r : Option Nat} {μ' : Mm} (hk_a0 : kd a0 = 3) (h : f_X3_rowAt μ a0 x1 = some (r, μ')) : Ct l D cA z yX3_rowAt wsX3_rowAt 0 0 [.ref (z + a0), .int x1] μ (some (rv z r)) μ' := by
  refine m_in (cc := cX3_rowAt) (maxL := 2) (ret := (some (.object "LevelVotes$Ballot"))) (own := RX3) (by decide) rfl rfl (Nat.le_of_ble_eq_true rfl) ?_
  intro p e s m below meth c ls X hd hS hl
  obtain ⟨hx, hb, hr, hlk, hml, hown, hts, hK⟩ := id X
  have hl : lv_has ls 2 [(0, .ref (z + a0)), (1, .int x1)] := hl
  unfold f_X3_rowAt at h
  refine lv_iload_n hx hb dX3_rowAt_0 rfl (lv_at hl 1 rfl) ?_
  refine lv_if_lt (tgt := 22) hx hb dX3_rowAt_1 (by decide) (fun q1 => ?_) (fun q1 => ?_)
  · have h := if_y q1 h
    refine lv_null hx hb dX3_rowAt_22 ?_
    obtain ⟨rfl, rfl⟩ := so_e h
    exact rt_a hx hb hr ⟨_, rfl⟩ (Or.inl rfl) hlk hd hS dX3_rowAt_23
  · have h := if_n q1 h
    refine lv_iload_n hx hb dX3_rowAt_4 rfl (lv_at hl 1 rfl) ?_
    refine lv_aload_n hx hb dX3_rowAt_5 rfl (lv_at hl 0 rfl) ?_
    obtain ⟨b2, hb2, h⟩ := bR_e h
    refine r_getr hx hb hts (fun w h => List.mem_cons_of_mem _ (List.mem_append_right _ (h))) hown hK hd hk_a0 hb2 rfl fs_3_0 (hts (.fieldLink RX3 11 "LevelVotes$History" "past" "[LLevelVotes$Ballot;") (List.mem_of_getElem? (i := 1) rfl)) dX3_rowAt_6 (fun hq => ?_)
    have hk_b2 : kd b2 = 13 := hq
    refine r_alen hx hb hK hd hk_b2 rfl dX3_rowAt_9 ?_
    refine lv_icmp_ge (tgt := 22) hx hb dX3_rowAt_10 (by decide) (fun q3 => ?_) (fun q3 => ?_)
    · have h := if_y q3 h
      refine lv_null hx hb dX3_rowAt_22 ?_
      obtain ⟨rfl, rfl⟩ := so_e h
      exact rt_a hx hb hr ⟨_, rfl⟩ (Or.inl rfl) hlk hd hS dX3_rowAt_23
    · have h := if_n q3 h
      refine lv_aload_n hx hb dX3_rowAt_13 rfl (lv_at hl 0 rfl) ?_
      obtain ⟨b4, hb4, h⟩ := bR_e h
      refine r_getr hx hb hts (fun w h => List.mem_cons_of_mem _ (List.mem_append_right _ (h))) hown hK hd hk_a0 hb4 rfl fs_3_0 (hts (.fieldLink RX3 11 "LevelVotes$History" "past" "[LLevelVotes$Ballot;") (List.mem_of_getElem? (i := 1) rfl)) dX3_rowAt_14 (fun hq => ?_)
      have hk_b4 : kd b4 = 13 := hq
      refine lv_iload_n hx hb dX3_rowAt_17 rfl (lv_at hl 1 rfl) ?_
      obtain ⟨g5, h⟩ := gd_e h
      obtain ⟨b6, hb6, h⟩ := bR_e h
      refine r_aald hx hb hK hd hk_b4 rfl (ckb_in g5) hb6 dX3_rowAt_18 (fun hq => ?_)
      have hk_b6 : kd b6 = 0 := hq
      refine lv_goto (tgt := 23) hx hb dX3_rowAt_19 (by decide) ?_
      obtain ⟨rfl, rfl⟩ := so_e h
      exact rt_a hx hb hr ⟨_, rfl⟩ (Or.inr ⟨_, rfl⟩) hlk hd hS dX3_rowAt_23
theorem ko_X3_rowAt {μ : Mm} {a0 : Nat} {x1 : Int32} {b : Nat} {μ' : Mm} (hT : WT μ.2) (hk_a0 : kd a0 = 3) (h : f_X3_rowAt μ a0 x1 = some (some b, μ')) : kd b = 0 := by
  unfold f_X3_rowAt at h
  by_cases q1 : x1 < 0
  · have h := if_y q1 h
    cases h
  · have h := if_n q1 h
    obtain ⟨b2, e2, h⟩ := bR_e h
    by_cases q3 : Int32.ofNat (ln b2) ≤ x1
    · have h := if_y q3 h
      cases h
    · have h := if_n q3 h
      obtain ⟨b4, e4, h⟩ := bR_e h
      obtain ⟨g, h⟩ := gd_e h
      obtain ⟨b6, e6, h⟩ := bR_e h
      cases h
      have h1 : kd b4 = tg (kd a0) 0 := hT _ _ _ e4
      have h2 := hT _ _ _ e6
      rw [h2, h1, hk_a0]
      rfl
