theorem hv_X0_yesOf : yX0_yesOf.cls = RX0 ∧ yX0_yesOf.cls ≠ "java/lang/invoke/MethodHandle" ∧ yX0_yesOf.cls ≠ "java/lang/invoke/VarHandle" ∧ (parseMethodDescriptor yX0_yesOf.desc).map (fun d => d.parameters.length) = some 1 := by decide +kernel
def f_X0_yesOf (μ : Mm) (a0 : Nat) (x1 : Int32) : Option (Int32 × Mm) := if x1 < 0 then (some ((0 : Int32), μ)) else (bR (μ.2 a0 0) (fun b2 => if (Int32.ofNat (ln b2)) ≤ x1 then (some ((0 : Int32), μ)) else (bR (μ.2 a0 0) (fun b4 => gd (ckb x1 (ln b4)) (some (μ.1 b4 (x1).toNatClampNeg, μ))))))
set_option maxRecDepth 100000 in
theorem c_X0_yesOf {l : Launch} {D : va_G} {cA : Nat → ClassId} {z : Nat} {μ : Mm} {a0 : Nat} {x1 : Int32} {r : Int32} {μ' : Mm} (hk_a0 : kd a0 = 0) (h : f_X0_yesOf μ a0 x1 = some (r, μ')) : Ct l D cA z yX0_yesOf wsX0_yesOf 0 0 [.ref (z + a0), .int x1] μ (some (.int r)) μ' := by
  refine m_in (cc := cX0_yesOf) (maxL := 2) (ret := (some .int)) (own := RX0) (by decide) rfl rfl (Nat.le_of_ble_eq_true rfl) ?_
  intro p e s m below meth c ls X hd hS hl
  obtain ⟨hx, hb, hr, hlk, hml, hown, hts, hK⟩ := id X
  have hl : lv_has ls 2 [(0, .ref (z + a0)), (1, .int x1)] := hl
  unfold f_X0_yesOf at h
  refine lv_iload_n hx hb dX0_yesOf_0 rfl (lv_at hl 1 rfl) ?_
  refine lv_if_lt (tgt := 22) hx hb dX0_yesOf_1 (by decide) (fun q1 => ?_) (fun q1 => ?_)
  · have h := if_y q1 h
    refine lv_iconst (v := 0) hx hb dX0_yesOf_22 (by decide) ?_
    obtain ⟨rfl, rfl⟩ := so_e h
    exact rt_i hx hb hr hlk hd hS dX0_yesOf_23
  · have h := if_n q1 h
    refine lv_iload_n hx hb dX0_yesOf_4 rfl (lv_at hl 1 rfl) ?_
    refine lv_aload_n hx hb dX0_yesOf_5 rfl (lv_at hl 0 rfl) ?_
    obtain ⟨b2, hb2, h⟩ := bR_e h
    refine r_getr hx hb hts (fun w h => List.mem_cons_of_mem _ (List.mem_append_right _ (h))) hown hK hd hk_a0 hb2 rfl fs_0_0 (hts (.fieldLink RX0 9 "LevelVotes$Ballot" "yes" "[I") (List.mem_of_getElem? (i := 1) rfl)) dX0_yesOf_6 (fun hq => ?_)
    have hk_b2 : kd b2 = 11 := hq
    refine r_alen hx hb hK hd hk_b2 rfl dX0_yesOf_9 ?_
    refine lv_icmp_ge (tgt := 22) hx hb dX0_yesOf_10 (by decide) (fun q3 => ?_) (fun q3 => ?_)
    · have h := if_y q3 h
      refine lv_iconst (v := 0) hx hb dX0_yesOf_22 (by decide) ?_
      obtain ⟨rfl, rfl⟩ := so_e h
      exact rt_i hx hb hr hlk hd hS dX0_yesOf_23
    · have h := if_n q3 h
      refine lv_aload_n hx hb dX0_yesOf_13 rfl (lv_at hl 0 rfl) ?_
      obtain ⟨b4, hb4, h⟩ := bR_e h
      refine r_getr hx hb hts (fun w h => List.mem_cons_of_mem _ (List.mem_append_right _ (h))) hown hK hd hk_a0 hb4 rfl fs_0_0 (hts (.fieldLink RX0 9 "LevelVotes$Ballot" "yes" "[I") (List.mem_of_getElem? (i := 1) rfl)) dX0_yesOf_14 (fun hq => ?_)
      have hk_b4 : kd b4 = 11 := hq
      refine lv_iload_n hx hb dX0_yesOf_17 rfl (lv_at hl 1 rfl) ?_
      obtain ⟨g5, h⟩ := gd_e h
      refine r_iald hx hb hK hd hk_b4 (ckb_in g5) dX0_yesOf_18 ?_
      refine lv_goto (tgt := 23) hx hb dX0_yesOf_19 (by decide) ?_
      obtain ⟨rfl, rfl⟩ := so_e h
      exact rt_i hx hb hr hlk hd hS dX0_yesOf_23
theorem hv_X0_noOf : yX0_noOf.cls = RX0 ∧ yX0_noOf.cls ≠ "java/lang/invoke/MethodHandle" ∧ yX0_noOf.cls ≠ "java/lang/invoke/VarHandle" ∧ (parseMethodDescriptor yX0_noOf.desc).map (fun d => d.parameters.length) = some 1 := by decide +kernel
def f_X0_noOf (μ : Mm) (a0 : Nat) (x1 : Int32) : Option (Int32 × Mm) := if x1 < 0 then (some ((0 : Int32), μ)) else (bR (μ.2 a0 1) (fun b2 => if (Int32.ofNat (ln b2)) ≤ x1 then (some ((0 : Int32), μ)) else (bR (μ.2 a0 1) (fun b4 => gd (ckb x1 (ln b4)) (some (μ.1 b4 (x1).toNatClampNeg, μ))))))
set_option maxRecDepth 100000 in
theorem c_X0_noOf {l : Launch} {D : va_G} {cA : Nat → ClassId} {z : Nat} {μ : Mm} {a0 : Nat} {x1 : Int32} {r : Int32} {μ' : Mm} (hk_a0 : kd a0 = 0) (h : f_X0_noOf μ a0 x1 = some (r, μ')) : Ct l D cA z yX0_noOf wsX0_noOf 0 0 [.ref (z + a0), .int x1] μ (some (.int r)) μ' := by
  refine m_in (cc := cX0_noOf) (maxL := 2) (ret := (some .int)) (own := RX0) (by decide) rfl rfl (Nat.le_of_ble_eq_true rfl) ?_
  intro p e s m below meth c ls X hd hS hl
  obtain ⟨hx, hb, hr, hlk, hml, hown, hts, hK⟩ := id X
  have hl : lv_has ls 2 [(0, .ref (z + a0)), (1, .int x1)] := hl
  unfold f_X0_noOf at h
  refine lv_iload_n hx hb dX0_noOf_0 rfl (lv_at hl 1 rfl) ?_
  refine lv_if_lt (tgt := 22) hx hb dX0_noOf_1 (by decide) (fun q1 => ?_) (fun q1 => ?_)
  · have h := if_y q1 h
    refine lv_iconst (v := 0) hx hb dX0_noOf_22 (by decide) ?_
    obtain ⟨rfl, rfl⟩ := so_e h
    exact rt_i hx hb hr hlk hd hS dX0_noOf_23
  · have h := if_n q1 h
    refine lv_iload_n hx hb dX0_noOf_4 rfl (lv_at hl 1 rfl) ?_
    refine lv_aload_n hx hb dX0_noOf_5 rfl (lv_at hl 0 rfl) ?_
    obtain ⟨b2, hb2, h⟩ := bR_e h
    refine r_getr hx hb hts (fun w h => List.mem_cons_of_mem _ (List.mem_append_right _ (h))) hown hK hd hk_a0 hb2 rfl fs_0_1 (hts (.fieldLink RX0 15 "LevelVotes$Ballot" "no" "[I") (List.mem_of_getElem? (i := 1) rfl)) dX0_noOf_6 (fun hq => ?_)
    have hk_b2 : kd b2 = 11 := hq
    refine r_alen hx hb hK hd hk_b2 rfl dX0_noOf_9 ?_
    refine lv_icmp_ge (tgt := 22) hx hb dX0_noOf_10 (by decide) (fun q3 => ?_) (fun q3 => ?_)
    · have h := if_y q3 h
      refine lv_iconst (v := 0) hx hb dX0_noOf_22 (by decide) ?_
      obtain ⟨rfl, rfl⟩ := so_e h
      exact rt_i hx hb hr hlk hd hS dX0_noOf_23
    · have h := if_n q3 h
      refine lv_aload_n hx hb dX0_noOf_13 rfl (lv_at hl 0 rfl) ?_
      obtain ⟨b4, hb4, h⟩ := bR_e h
      refine r_getr hx hb hts (fun w h => List.mem_cons_of_mem _ (List.mem_append_right _ (h))) hown hK hd hk_a0 hb4 rfl fs_0_1 (hts (.fieldLink RX0 15 "LevelVotes$Ballot" "no" "[I") (List.mem_of_getElem? (i := 1) rfl)) dX0_noOf_14 (fun hq => ?_)
      have hk_b4 : kd b4 = 11 := hq
      refine lv_iload_n hx hb dX0_noOf_17 rfl (lv_at hl 1 rfl) ?_
      obtain ⟨g5, h⟩ := gd_e h
      refine r_iald hx hb hK hd hk_b4 (ckb_in g5) dX0_noOf_18 ?_
      refine lv_goto (tgt := 23) hx hb dX0_noOf_19 (by decide) ?_
      obtain ⟨rfl, rfl⟩ := so_e h
      exact rt_i hx hb hr hlk hd hS dX0_noOf_23
theorem hv_X0_put : yX0_put.cls = RX0 ∧ yX0_put.cls ≠ "java/lang/invoke/MethodHandle" ∧ yX0_put.cls ≠ "java/lang/invoke/VarHandle" ∧ (parseMethodDescriptor yX0_put.desc).map (fun d => d.parameters.length) = some 3 := by decide +kernel
def f_X0_put_j91 (μ : Mm) (ys0 : Int32) (ys1 : Int32) (bs2 : Nat) : Option Mm := gd (ckb ys1 (ln bs2)) (bM (up2 μ.1 bs2 (ys1).toNatClampNeg ys0, μ.2) (fun μ2 => some μ2))
set_option maxRecDepth 100000 in
theorem k_f_X0_put_j91 {l : Launch} {D : va_G} {cA : Nat → ClassId} {z : Nat} {av : List Value} {p : Program} {e : Env} {s : State} {m : MethodId} {below : List Frame} {meth : Method} {c : Code} {μ' : Mm} (X : Fx D cA RX0 wsX0_put cX0_put 5 none p s m av.toArray meth c) {μ : Mm} {ys0 : Int32} {ys1 : Int32} {bs2 : Nat} (hk_bs2 : kd bs2 = 11) {H : Heap} {locs : List Loc} {ls : Array Slot} (hd : Wd D cA z μ H) (hS : va_S (Az z) s.heap H locs) (hl : lv_has ls 5 []) (h : f_X0_put_j91 μ ys0 ys1 bs2 = some μ') : WG l D cA z wsX0_put 0 0 av none μ' p e s m below meth c H locs (F0 m 91 ls [.int ys0, .int ys1, .ref (z + bs2)]) := by
  obtain ⟨hx, hb, hr, hlk, hml, hown, hts, hK⟩ := id X
  unfold f_X0_put_j91 at h
  obtain ⟨g1, h⟩ := gd_e h
  refine r_iast hx hb hK hd hS hk_bs2 (ckb_in g1) dX0_put_91 (fun μ2 eμ2 H locs hd hS => ?_)
  have h := bM_e eμ2 h
  obtain rfl := sv_e h
  exact rt_v hx hb hr hlk hd hS dX0_put_92
def f_X0_put_j58 (μ : Mm) (a0 : Nat) (x2 : Int32) (x3 : Int32) (x4 : Int32) (ys0 : Int32) (ys1 : Int32) (bs2 : Nat) : Option Mm := gd (ckb ys1 (ln bs2)) (bM (up2 μ.1 bs2 (ys1).toNatClampNeg ys0, μ.2) (fun μ2 => bR (μ2.2 a0 1) (fun b3 => if x3 = 0 then (bR (μ2.2 a0 1) (fun b7 => gd (ckb x2 (ln b7)) (f_X0_put_j91 μ2 ((μ2.1 b7 (x2).toNatClampNeg) ||| x4) x2 b3))) else (bR (μ2.2 a0 1) (fun b5 => gd (ckb x2 (ln b5)) (f_X0_put_j91 μ2 ((μ2.1 b5 (x2).toNatClampNeg) &&& (x4 ^^^ (-1 : Int32))) x2 b3))))))
set_option maxRecDepth 100000 in
theorem k_f_X0_put_j58 {l : Launch} {D : va_G} {cA : Nat → ClassId} {z : Nat} {av : List Value} {p : Program} {e : Env} {s : State} {m : MethodId} {below : List Frame} {meth : Method} {c : Code} {μ' : Mm} (X : Fx D cA RX0 wsX0_put cX0_put 5 none p s m av.toArray meth c) {μ : Mm} {a0 : Nat} {x2 : Int32} {x3 : Int32} {x4 : Int32} {ys0 : Int32} {ys1 : Int32} {bs2 : Nat} (hk_a0 : kd a0 = 0) (hk_bs2 : kd bs2 = 11) {H : Heap} {locs : List Loc} {ls : Array Slot} (hd : Wd D cA z μ H) (hS : va_S (Az z) s.heap H locs) (hl : lv_has ls 5 [(0, .ref (z + a0)), (2, .int x2), (3, .int x3), (4, .int x4)]) (h : f_X0_put_j58 μ a0 x2 x3 x4 ys0 ys1 bs2 = some μ') : WG l D cA z wsX0_put 0 0 av none μ' p e s m below meth c H locs (F0 m 58 ls [.int ys0, .int ys1, .ref (z + bs2)]) := by
  obtain ⟨hx, hb, hr, hlk, hml, hown, hts, hK⟩ := id X
  unfold f_X0_put_j58 at h
  obtain ⟨g1, h⟩ := gd_e h
  refine r_iast hx hb hK hd hS hk_bs2 (ckb_in g1) dX0_put_58 (fun μ2 eμ2 H locs hd hS => ?_)
  have h := bM_e eμ2 h
  refine lv_aload_n hx hb dX0_put_59 rfl (lv_at hl 0 rfl) ?_
  obtain ⟨b3, hb3, h⟩ := bR_e h
  refine r_getr hx hb hts (fun w h => List.mem_cons_of_mem _ (List.mem_append_right _ (h))) hown hK hd hk_a0 hb3 rfl fs_0_1 (hts (.fieldLink RX0 15 "LevelVotes$Ballot" "no" "[I") (List.mem_of_getElem? (i := 2) rfl)) dX0_put_60 (fun hq => ?_)
  have hk_b3 : kd b3 = 11 := hq
  refine lv_iload_n hx hb dX0_put_63 rfl (lv_at hl 1 rfl) ?_
  refine lv_iload_n hx hb dX0_put_64 rfl (lv_at hl 2 rfl) ?_
  refine lv_if_ne (tgt := 80) hx hb dX0_put_65 (by decide) (fun q4 => ?_) (fun q4 => ?_)
  · have h := if_n q4 h
    refine lv_aload_n hx hb dX0_put_80 rfl (lv_at hl 0 rfl) ?_
    obtain ⟨b5, hb5, h⟩ := bR_e h
    refine r_getr hx hb hts (fun w h => List.mem_cons_of_mem _ (List.mem_append_right _ (h))) hown hK hd hk_a0 hb5 rfl fs_0_1 (hts (.fieldLink RX0 15 "LevelVotes$Ballot" "no" "[I") (List.mem_of_getElem? (i := 2) rfl)) dX0_put_81 (fun hq => ?_)
    have hk_b5 : kd b5 = 11 := hq
    refine lv_iload_n hx hb dX0_put_84 rfl (lv_at hl 1 rfl) ?_
    obtain ⟨g6, h⟩ := gd_e h
    refine r_iald hx hb hK hd hk_b5 (ckb_in g6) dX0_put_85 ?_
    refine lv_iload hx hb dX0_put_86 (lv_at hl 3 rfl) ?_
    refine lv_iconst (v := -1) hx hb dX0_put_88 (by decide) ?_
    refine lv_ixor hx hb dX0_put_89 ?_
    refine lv_iand hx hb dX0_put_90 ?_
    exact k_f_X0_put_j91 X hk_b3 hd hS (lv_sub hl [] rfl) h
  · have h := if_y q4 h
    refine lv_aload_n hx hb dX0_put_68 rfl (lv_at hl 0 rfl) ?_
    obtain ⟨b7, hb7, h⟩ := bR_e h
    refine r_getr hx hb hts (fun w h => List.mem_cons_of_mem _ (List.mem_append_right _ (h))) hown hK hd hk_a0 hb7 rfl fs_0_1 (hts (.fieldLink RX0 15 "LevelVotes$Ballot" "no" "[I") (List.mem_of_getElem? (i := 2) rfl)) dX0_put_69 (fun hq => ?_)
    have hk_b7 : kd b7 = 11 := hq
    refine lv_iload_n hx hb dX0_put_72 rfl (lv_at hl 1 rfl) ?_
    obtain ⟨g8, h⟩ := gd_e h
    refine r_iald hx hb hK hd hk_b7 (ckb_in g8) dX0_put_73 ?_
    refine lv_iload hx hb dX0_put_74 (lv_at hl 3 rfl) ?_
    refine lv_ior hx hb dX0_put_76 ?_
    refine lv_goto (tgt := 91) hx hb dX0_put_77 (by decide) ?_
    exact k_f_X0_put_j91 X hk_b3 hd hS (lv_sub hl [] rfl) h
def f_X0_put (μ : Mm) (a0 : Nat) (x1 : Int32) (x2 : Int32) (x3 : Int32) : Option Mm := if x2 < 0 then (some μ) else (if (5 : Int32) ≤ x2 then (some μ) else (if x1 < 0 then (some μ) else (if x1 < (7 : Int32) then (bI ((1 : Int32) <<< (x1 &&& 31)) (fun x5 => bR (μ.2 a0 0) (fun b6 => if x3 = (1 : Int32) then (bR (μ.2 a0 0) (fun b10 => gd (ckb x2 (ln b10)) (f_X0_put_j58 μ a0 x2 x3 x5 ((μ.1 b10 (x2).toNatClampNeg) ||| x5) x2 b6))) else (bR (μ.2 a0 0) (fun b8 => gd (ckb x2 (ln b8)) (f_X0_put_j58 μ a0 x2 x3 x5 ((μ.1 b8 (x2).toNatClampNeg) &&& (x5 ^^^ (-1 : Int32))) x2 b6)))))) else (some μ))))
set_option maxRecDepth 100000 in
theorem c_X0_put {l : Launch} {D : va_G} {cA : Nat → ClassId} {z : Nat} {μ : Mm} {a0 : Nat} {x1 : Int32} {x2 : Int32} {x3 : Int32} {μ' : Mm} (hk_a0 : kd a0 = 0) (h : f_X0_put μ a0 x1 x2 x3 = some μ') : Ct l D cA z yX0_put wsX0_put 0 0 [.ref (z + a0), .int x1, .int x2, .int x3] μ none μ' := by
  refine m_in (cc := cX0_put) (maxL := 5) (ret := none) (own := RX0) (by decide) rfl rfl (Nat.le_of_ble_eq_true rfl) ?_
  intro p e s m below meth c ls X hd hS hl
  obtain ⟨hx, hb, hr, hlk, hml, hown, hts, hK⟩ := id X
  have hl : lv_has ls 5 [(0, .ref (z + a0)), (1, .int x1), (2, .int x2), (3, .int x3)] := hl
  unfold f_X0_put at h
  refine lv_iload_n hx hb dX0_put_0 rfl (lv_at hl 2 rfl) ?_
  refine lv_if_lt (tgt := 19) hx hb dX0_put_1 (by decide) (fun q1 => ?_) (fun q1 => ?_)
  · have h := if_y q1 h
    obtain rfl := sv_e h
    exact rt_v hx hb hr hlk hd hS dX0_put_19
  · have h := if_n q1 h
    refine lv_iload_n hx hb dX0_put_4 rfl (lv_at hl 2 rfl) ?_
    refine lv_iconst (v := 5) hx hb dX0_put_5 (by decide) ?_
    refine lv_icmp_ge (tgt := 19) hx hb dX0_put_6 (by decide) (fun q2 => ?_) (fun q2 => ?_)
    · have h := if_y q2 h
      obtain rfl := sv_e h
      exact rt_v hx hb hr hlk hd hS dX0_put_19
    · have h := if_n q2 h
      refine lv_iload_n hx hb dX0_put_9 rfl (lv_at hl 1 rfl) ?_
      refine lv_if_lt (tgt := 19) hx hb dX0_put_10 (by decide) (fun q3 => ?_) (fun q3 => ?_)
      · have h := if_y q3 h
        obtain rfl := sv_e h
        exact rt_v hx hb hr hlk hd hS dX0_put_19
      · have h := if_n q3 h
        refine lv_iload_n hx hb dX0_put_13 rfl (lv_at hl 1 rfl) ?_
        refine lv_bipush (v := 7) hx hb dX0_put_14 (by decide) ?_
        refine lv_icmp_lt (tgt := 20) hx hb dX0_put_16 (by decide) (fun q4 => ?_) (fun q4 => ?_)
        · have h := if_y q4 h
          refine lv_iconst (v := 1) hx hb dX0_put_20 (by decide) ?_
          refine lv_iload_n hx hb dX0_put_21 rfl (lv_at hl 1 rfl) ?_
          refine lv_ishl hx hb dX0_put_22 ?_
          refine lv_topi (fun x5 ex5 => ?_)
          have h := bI_e ex5 h
          refine lv_istore (lv' := [(4, .int x5), (0, .ref (z + a0)), (1, .int x1), (2, .int x2), (3, .int x3)]) hx hb dX0_put_23 hl (by decide) rfl (fun ls hl => ?_)
          refine lv_aload_n hx hb dX0_put_25 rfl (lv_at hl 1 rfl) ?_
          obtain ⟨b6, hb6, h⟩ := bR_e h
          refine r_getr hx hb hts (fun w h => List.mem_cons_of_mem _ (List.mem_append_right _ (h))) hown hK hd hk_a0 hb6 rfl fs_0_0 (hts (.fieldLink RX0 9 "LevelVotes$Ballot" "yes" "[I") (List.mem_of_getElem? (i := 1) rfl)) dX0_put_26 (fun hq => ?_)
          have hk_b6 : kd b6 = 11 := hq
          refine lv_iload_n hx hb dX0_put_29 rfl (lv_at hl 3 rfl) ?_
          refine lv_iload_n hx hb dX0_put_30 rfl (lv_at hl 4 rfl) ?_
          refine lv_iconst (v := 1) hx hb dX0_put_31 (by decide) ?_
          refine lv_icmp_ne (tgt := 47) hx hb dX0_put_32 (by decide) (fun q7 => ?_) (fun q7 => ?_)
          · have h := if_n q7 h
            refine lv_aload_n hx hb dX0_put_47 rfl (lv_at hl 1 rfl) ?_
            obtain ⟨b8, hb8, h⟩ := bR_e h
            refine r_getr hx hb hts (fun w h => List.mem_cons_of_mem _ (List.mem_append_right _ (h))) hown hK hd hk_a0 hb8 rfl fs_0_0 (hts (.fieldLink RX0 9 "LevelVotes$Ballot" "yes" "[I") (List.mem_of_getElem? (i := 1) rfl)) dX0_put_48 (fun hq => ?_)
            have hk_b8 : kd b8 = 11 := hq
            refine lv_iload_n hx hb dX0_put_51 rfl (lv_at hl 3 rfl) ?_
            obtain ⟨g9, h⟩ := gd_e h
            refine r_iald hx hb hK hd hk_b8 (ckb_in g9) dX0_put_52 ?_
            refine lv_iload hx hb dX0_put_53 (lv_at hl 0 rfl) ?_
            refine lv_iconst (v := -1) hx hb dX0_put_55 (by decide) ?_
            refine lv_ixor hx hb dX0_put_56 ?_
            refine lv_iand hx hb dX0_put_57 ?_
            exact k_f_X0_put_j58 X hk_a0 hk_b6 hd hS (lv_sub hl [1, 3, 4, 0] rfl) h
          · have h := if_y q7 h
            refine lv_aload_n hx hb dX0_put_35 rfl (lv_at hl 1 rfl) ?_
            obtain ⟨b10, hb10, h⟩ := bR_e h
            refine r_getr hx hb hts (fun w h => List.mem_cons_of_mem _ (List.mem_append_right _ (h))) hown hK hd hk_a0 hb10 rfl fs_0_0 (hts (.fieldLink RX0 9 "LevelVotes$Ballot" "yes" "[I") (List.mem_of_getElem? (i := 1) rfl)) dX0_put_36 (fun hq => ?_)
            have hk_b10 : kd b10 = 11 := hq
            refine lv_iload_n hx hb dX0_put_39 rfl (lv_at hl 3 rfl) ?_
            obtain ⟨g11, h⟩ := gd_e h
            refine r_iald hx hb hK hd hk_b10 (ckb_in g11) dX0_put_40 ?_
            refine lv_iload hx hb dX0_put_41 (lv_at hl 0 rfl) ?_
            refine lv_ior hx hb dX0_put_43 ?_
            refine lv_goto (tgt := 58) hx hb dX0_put_44 (by decide) ?_
            exact k_f_X0_put_j58 X hk_a0 hk_b6 hd hS (lv_sub hl [1, 3, 4, 0] rfl) h
        · have h := if_n q4 h
          obtain rfl := sv_e h
          exact rt_v hx hb hr hlk hd hS dX0_put_19
theorem hv_X0_copy : yX0_copy.cls = RX0 ∧ yX0_copy.cls ≠ "java/lang/invoke/MethodHandle" ∧ yX0_copy.cls ≠ "java/lang/invoke/VarHandle" ∧ (parseMethodDescriptor yX0_copy.desc).map (fun d => d.parameters.length) = some 1 := by decide +kernel
def f_X0_copy_L2b (rc2 : Mm → Nat → Nat → Int32 → Option Mm) (μ : Mm) (a0 : Nat) (a1 : Nat) (x2 : Int32) : Option Mm := if (5 : Int32) ≤ x2 then (bM (up2 μ.1 a0 2 (μ.1 a1 2), μ.2) (fun μ2 => bM (up2 μ2.1 a0 3 (μ2.1 a1 3), μ2.2) (fun μ3 => some μ3))) else (bR (μ.2 a0 0) (fun b4 => bC (f_X0_yesOf μ a1 x2) (fun r6 μ5 => gd (ckb x2 (ln b4)) (bM (up2 μ5.1 b4 (x2).toNatClampNeg r6, μ5.2) (fun μ9 => bR (μ9.2 a0 1) (fun b10 => bC (f_X0_noOf μ9 a1 x2) (fun r12 μ11 => gd (ckb x2 (ln b10)) (bM (up2 μ11.1 b10 (x2).toNatClampNeg r12, μ11.2) (fun μ15 => rc2 μ15 a0 a1 (x2 + (1 : Int32)))))))))))
abbrev HL_X0_copy_2 (l : Launch) (D : va_G) (cA : Nat → ClassId) (z : Nat) (av : List Value) (μ' : Mm) (p : Program) (e : Env) (s : State) (m : MethodId) (below : List Frame) (meth : Method) (c : Code) (rc : Mm → Nat → Nat → Int32 → Option Mm) : Prop := ∀ (μ : Mm) (H : Heap) (locs : List Loc) (ls : Array Slot) (a0 : Nat) (a1 : Nat) (x2 : Int32), kd a0 = 0 → kd a1 = 0 → Wd D cA z μ H → va_S (Az z) s.heap H locs → lv_has ls 3 [(0, .ref (z + a0)), (1, .ref (z + a1)), (2, .int x2)] → rc μ a0 a1 x2 = some μ' → WG l D cA z wsX0_copy 1 21 av none μ' p e s m below meth c H locs (F0 m 2 ls [])
set_option maxRecDepth 100000 in
theorem k_f_X0_copy_L2b {l : Launch} {D : va_G} {cA : Nat → ClassId} {z : Nat} {av : List Value} {p : Program} {e : Env} {s : State} {m : MethodId} {below : List Frame} {meth : Method} {c : Code} {μ' : Mm} (X : Fx D cA RX0 wsX0_copy cX0_copy 3 none p s m av.toArray meth c) {rc2 : Mm → Nat → Nat → Int32 → Option Mm} (hrc2 : HL_X0_copy_2 l D cA z av μ' p e s m below meth c rc2) {μ : Mm} {a0 : Nat} {a1 : Nat} {x2 : Int32} (hk_a0 : kd a0 = 0) (hk_a1 : kd a1 = 0) {H : Heap} {locs : List Loc} {ls : Array Slot} (hd : Wd D cA z μ H) (hS : va_S (Az z) s.heap H locs) (hl : lv_has ls 3 [(0, .ref (z + a0)), (1, .ref (z + a1)), (2, .int x2)]) (h : f_X0_copy_L2b rc2 μ a0 a1 x2 = some μ') : WG l D cA z wsX0_copy 1 21 av none μ' p e s m below meth c H locs (F0 m 2 ls []) := by
  obtain ⟨hx, hb, hr, hlk, hml, hown, hts, hK⟩ := id X
  unfold f_X0_copy_L2b at h
  refine lv_iload_n hx hb dX0_copy_2 rfl (lv_at hl 2 rfl) ?_
  refine lv_iconst (v := 5) hx hb dX0_copy_3 (by decide) ?_
  refine lv_icmp_ge (tgt := 35) hx hb dX0_copy_4 (by decide) (fun q1 => ?_) (fun q1 => ?_)
  · have h := if_y q1 h
    refine lv_aload_n hx hb dX0_copy_35 rfl (lv_at hl 0 rfl) ?_
    refine lv_aload_n hx hb dX0_copy_36 rfl (lv_at hl 1 rfl) ?_
    refine r_geti hx hb hts (fun w h => List.mem_cons_of_mem _ (List.mem_append_right _ (h))) hown hK hd hk_a1 rfl 2 fs_0_2 (hts (.fieldLink RX0 28 "LevelVotes$Ballot" "sessions" "I") (List.mem_of_getElem? (i := 3) rfl)) dX0_copy_37 ?_
    refine r_puti hx hb hts (fun w h => List.mem_cons_of_mem _ (List.mem_append_right _ (h))) tyX0 tyX0_ok nmX0 hown hK hd hS hk_a0 rfl 2 fs_0_2 rfl (hts (.fieldLink RX0 28 "LevelVotes$Ballot" "sessions" "I") (List.mem_of_getElem? (i := 3) rfl)) (vp_nar_int _) rfl dX0_copy_40 (fun μ2 eμ2 H locs hd hS => ?_)
    have h := bM_e eμ2 h
    refine lv_aload_n hx hb dX0_copy_43 rfl (lv_at hl 0 rfl) ?_
    refine lv_aload_n hx hb dX0_copy_44 rfl (lv_at hl 1 rfl) ?_
    refine r_geti hx hb hts (fun w h => List.mem_cons_of_mem _ (List.mem_append_right _ (h))) hown hK hd hk_a1 rfl 3 fs_0_3 (hts (.fieldLink RX0 18 "LevelVotes$Ballot" "last" "I") (List.mem_of_getElem? (i := 4) rfl)) dX0_copy_45 ?_
    refine r_puti hx hb hts (fun w h => List.mem_cons_of_mem _ (List.mem_append_right _ (h))) tyX0 tyX0_ok nmX0 hown hK hd hS hk_a0 rfl 3 fs_0_3 rfl (hts (.fieldLink RX0 18 "LevelVotes$Ballot" "last" "I") (List.mem_of_getElem? (i := 4) rfl)) (vp_nar_int _) rfl dX0_copy_48 (fun μ3 eμ3 H locs hd hS => ?_)
    have h := bM_e eμ3 h
    obtain rfl := sv_e h
    exact rt_v hx hb hr hlk hd hS dX0_copy_51
  · have h := if_n q1 h
    refine lv_aload_n hx hb dX0_copy_7 rfl (lv_at hl 0 rfl) ?_
    obtain ⟨b4, hb4, h⟩ := bR_e h
    refine r_getr hx hb hts (fun w h => List.mem_cons_of_mem _ (List.mem_append_right _ (h))) hown hK hd hk_a0 hb4 rfl fs_0_0 (hts (.fieldLink RX0 9 "LevelVotes$Ballot" "yes" "[I") (List.mem_of_getElem? (i := 1) rfl)) dX0_copy_8 (fun hq => ?_)
    have hk_b4 : kd b4 = 11 := hq
    refine lv_iload_n hx hb dX0_copy_11 rfl (lv_at hl 2 rfl) ?_
    refine lv_aload_n hx hb dX0_copy_12 rfl (lv_at hl 1 rfl) ?_
    refine lv_iload_n hx hb dX0_copy_13 rfl (lv_at hl 2 rfl) ?_
    obtain ⟨r6, μ5, hc7, h⟩ := bC_e h
    refine rc_Vi (rest := [.int x2, .ref (z + b4)]) [.int x2] ⟨hx, hb, hml, hown, hts⟩ hK hd hS (c_X0_yesOf hk_a1 hc7) (cwV 1 hts gX0_copy_X0_yesOf rfl rfl rfl hv_X0_yesOf ⟨Nat.le_of_ble_eq_true rfl, Nat.le_of_ble_eq_true rfl⟩) hk_a1 rfl rfl rfl rfl hl.1 rfl (Nat.le_of_ble_eq_true rfl) dX0_copy_14 ⟨Nat.zero_le _, Nat.zero_le _⟩ (fun H locs hd hS => ?_)
    obtain ⟨g8, h⟩ := gd_e h
    refine r_iast hx hb hK hd hS hk_b4 (ckb_in g8) dX0_copy_17 (fun μ9 eμ9 H locs hd hS => ?_)
    have h := bM_e eμ9 h
    refine lv_aload_n hx hb dX0_copy_18 rfl (lv_at hl 0 rfl) ?_
    obtain ⟨b10, hb10, h⟩ := bR_e h
    refine r_getr hx hb hts (fun w h => List.mem_cons_of_mem _ (List.mem_append_right _ (h))) hown hK hd hk_a0 hb10 rfl fs_0_1 (hts (.fieldLink RX0 15 "LevelVotes$Ballot" "no" "[I") (List.mem_of_getElem? (i := 2) rfl)) dX0_copy_19 (fun hq => ?_)
    have hk_b10 : kd b10 = 11 := hq
    refine lv_iload_n hx hb dX0_copy_22 rfl (lv_at hl 2 rfl) ?_
    refine lv_aload_n hx hb dX0_copy_23 rfl (lv_at hl 1 rfl) ?_
    refine lv_iload_n hx hb dX0_copy_24 rfl (lv_at hl 2 rfl) ?_
    obtain ⟨r12, μ11, hc13, h⟩ := bC_e h
    refine rc_Vi (rest := [.int x2, .ref (z + b10)]) [.int x2] ⟨hx, hb, hml, hown, hts⟩ hK hd hS (c_X0_noOf hk_a1 hc13) (cwV 1 hts gX0_copy_X0_noOf rfl rfl rfl hv_X0_noOf ⟨Nat.le_of_ble_eq_true rfl, Nat.le_of_ble_eq_true rfl⟩) hk_a1 rfl rfl rfl rfl hl.1 rfl (Nat.le_of_ble_eq_true rfl) dX0_copy_25 ⟨Nat.zero_le _, Nat.zero_le _⟩ (fun H locs hd hS => ?_)
    obtain ⟨g14, h⟩ := gd_e h
    refine r_iast hx hb hK hd hS hk_b10 (ckb_in g14) dX0_copy_28 (fun μ15 eμ15 H locs hd hS => ?_)
    have h := bM_e eμ15 h
    refine lv_iinc (v := x2 + (1 : Int32)) (lv' := [(2, .int (x2 + (1 : Int32))), (0, .ref (z + a0)), (1, .ref (z + a1))]) hx hb dX0_copy_29 hl (k := 2) rfl rfl (by decide) rfl (fun ls hl => ?_)
    refine lv_goto (tgt := 2) hx hb dX0_copy_32 (by decide) ?_
    exact hrc2 _ _ _ _ _ _ _ hk_a0 hk_a1 hd hS (lv_sub hl [1, 2, 0] rfl) h
def f_X0_copy_L2 : Nat → Mm → Nat → Nat → Int32 → Option Mm
  | 0 => fun _ _ _ _ => none
  | n + 1 => fun μ a0 a1 x2 => f_X0_copy_L2b (f_X0_copy_L2 n) μ a0 a1 x2
theorem k_f_X0_copy_L2 {l : Launch} {D : va_G} {cA : Nat → ClassId} {z : Nat} {av : List Value} {p : Program} {e : Env} {s : State} {m : MethodId} {below : List Frame} {meth : Method} {c : Code} {μ' : Mm} (X : Fx D cA RX0 wsX0_copy cX0_copy 3 none p s m av.toArray meth c) (n : Nat) : HL_X0_copy_2 l D cA z av μ' p e s m below meth c (f_X0_copy_L2 n) := by
  induction n with
  | zero => intro _ _ _ _ _ _ _ _ _ _ _ _ h; have h2 : (none : Option _) = some _ := h; cases h2
  | succ n ih => intro μ H locs ls a0 a1 x2 hk_a0 hk_a1 hd hS hl h; exact k_f_X0_copy_L2b X ih hk_a0 hk_a1 hd hS hl h
def f_X0_copy (μ : Mm) (a0 : Nat) (a1 : Nat) : Option Mm := f_X0_copy_L2 FU μ a0 a1 (0 : Int32)
set_option maxRecDepth 100000 in
theorem c_X0_copy {l : Launch} {D : va_G} {cA : Nat → ClassId} {z : Nat} {μ : Mm} {a0 : Nat} {a1 : Nat} {μ' : Mm} (hk_a0 : kd a0 = 0) (hk_a1 : kd a1 = 0) (h : f_X0_copy μ a0 a1 = some μ') : Ct l D cA z yX0_copy wsX0_copy 1 21 [.ref (z + a0), .ref (z + a1)] μ none μ' := by
  refine m_in (cc := cX0_copy) (maxL := 3) (ret := none) (own := RX0) (by decide) rfl rfl (Nat.le_of_ble_eq_true rfl) ?_
  intro p e s m below meth c ls X hd hS hl
  obtain ⟨hx, hb, hr, hlk, hml, hown, hts, hK⟩ := id X
  have hl : lv_has ls 3 [(0, .ref (z + a0)), (1, .ref (z + a1))] := hl
  unfold f_X0_copy at h
  refine lv_iconst (v := 0) hx hb dX0_copy_0 (by decide) ?_
  refine lv_istore_n (lv' := [(2, .int (0 : Int32)), (0, .ref (z + a0)), (1, .ref (z + a1))]) hx hb dX0_copy_1 rfl hl (by decide) rfl (fun ls hl => ?_)
  exact k_f_X0_copy_L2 X FU _ _ _ _ _ _ _ hk_a0 hk_a1 hd hS (lv_sub hl [1, 2, 0] rfl) h
