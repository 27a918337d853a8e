theorem hv_X9_item : yX9_item.cls = RX9 ∧ yX9_item.cls ≠ "java/lang/invoke/MethodHandle" ∧ yX9_item.cls ≠ "java/lang/invoke/VarHandle" ∧ (parseMethodDescriptor yX9_item.desc).map (fun d => d.parameters.length) = some 2 := by decide +kernel
def f_X9_item (μ : Mm) (a0 : Nat) (x1 : Int32) (x2 : Int32) : Option (Int32 × Mm) := bR (μ.2 a0 1) (fun b1 => bC (f_X4_hasItem μ b1 x1) (fun r3 μ2 => if r3 = 0 then (some ((-1000000001 : Int32), μ2)) else (if x2 = 0 then (bR (μ2.2 a0 1) (fun b7 => bC (f_X4_cellsOf μ2 b7 x1) (fun r9 μ8 => some (r9, μ8)))) else (if x2 = 1 then (bR (μ2.2 a0 1) (fun b12 => bC (f_X4_levelOf μ2 b12 x1) (fun r14 μ13 => some (r14, μ13)))) else (if x2 = 2 then (bR (μ2.2 a0 4) (fun b17 => bC (f_X0_standOf μ2 b17 x1) (fun r19 μ18 => some (r19, μ18)))) else (if x2 = 3 then (bR (μ2.2 a0 4) (fun b22 => bC (f_X0_yesOf μ2 b22 x1) (fun r24 μ23 => some (r24, μ23)))) else (if x2 = 4 then (bR (μ2.2 a0 4) (fun b27 => bC (f_X0_noOf μ2 b27 x1) (fun r29 μ28 => some (r29, μ28)))) else (if x2 = 5 then (bC (f_X9_isLevel μ2 a0 x1) (fun r33 μ32 => if r33 = 0 then (some ((0 : Int32), μ32)) else (some ((1 : Int32), μ32)))) else (some ((-1000000002 : Int32), μ2))))))))))
set_option maxRecDepth 100000 in
theorem c_X9_item {l : Launch} {D : va_G} {cA : Nat → ClassId} {z : Nat} {μ : Mm} {a0 : Nat} {x1 : Int32} {x2 : Int32} {r : Int32} {μ' : Mm} (hk_a0 : kd a0 = 9) (h : f_X9_item μ a0 x1 x2 = some (r, μ')) : Ct l D cA z yX9_item wsX9_item 6 127 [.ref (z + a0), .int x1, .int x2] μ (some (.int r)) μ' := by
  refine m_in (cc := cX9_item) (maxL := 3) (ret := (some .int)) (own := RX9) (by decide) rfl rfl (Nat.le_of_ble_eq_true rfl) ?_
  intro p e s m below meth c ls X hd hS hl
  obtain ⟨hx, hb, hr, hlk, hml, hown, hts, hK⟩ := id X
  have hl : lv_has ls 3 [(0, .ref (z + a0)), (1, .int x1), (2, .int x2)] := hl
  unfold f_X9_item at h
  refine lv_aload_n hx hb dX9_item_0 rfl (lv_at hl 0 rfl) ?_
  obtain ⟨b1, hb1, h⟩ := bR_e h
  refine r_getr hx hb hts (fun w h => List.mem_cons_of_mem _ (List.mem_append_left _ (List.mem_append_left _ (List.mem_append_left _ (List.mem_append_left _ (List.mem_append_right _ (h))))))) hown hK hd hk_a0 hb1 rfl fs_9_1 (hts (.fieldLink RX9 19 "LevelVotes" "plan" "LLevelVotes$House;") (List.mem_of_getElem? (i := 1) rfl)) dX9_item_1 (fun hq => ?_)
  have hk_b1 : kd b1 = 4 := hq
  refine lv_iload_n hx hb dX9_item_4 rfl (lv_at hl 1 rfl) ?_
  obtain ⟨r3, μ2, hc4, h⟩ := bC_e h
  refine rc_Vi (rest := []) [.int x1] ⟨hx, hb, hml, hown, hts⟩ hK hd hS (c_X4_hasItem hk_b1 hc4) (cwV 1 hts gX9_item_X4_hasItem rfl rfl rfl hv_X4_hasItem ⟨Nat.le_of_ble_eq_true rfl, Nat.le_of_ble_eq_true rfl⟩) hk_b1 rfl rfl rfl rfl hl.1 rfl (Nat.le_of_ble_eq_true rfl) dX9_item_5 ⟨Nat.zero_le _, Nat.zero_le _⟩ (fun H locs hd hS => ?_)
  refine lv_if_ne (tgt := 14) hx hb dX9_item_8 (by decide) (fun q5 => ?_) (fun q5 => ?_)
  · have h := if_n q5 h
    refine lv_iload_n hx hb dX9_item_14 rfl (lv_at hl 2 rfl) ?_
    by_cases q6 : x2 = 0
    · have h := if_y q6 h
      refine lv_tableIn (off := 37) (tgt := 52) hx hb dX9_item_15 (by rw [q6]; decide) (by rw [q6]; decide) (by rw [q6]; rfl) (by decide) ?_
      refine lv_aload_n hx hb dX9_item_52 rfl (lv_at hl 0 rfl) ?_
      obtain ⟨b7, hb7, h⟩ := bR_e h
      refine r_getr hx hb hts (fun w h => List.mem_cons_of_mem _ (List.mem_append_left _ (List.mem_append_left _ (List.mem_append_left _ (List.mem_append_left _ (List.mem_append_right _ (h))))))) hown hK hd hk_a0 hb7 rfl fs_9_1 (hts (.fieldLink RX9 19 "LevelVotes" "plan" "LLevelVotes$House;") (List.mem_of_getElem? (i := 1) rfl)) dX9_item_53 (fun hq => ?_)
      have hk_b7 : kd b7 = 4 := hq
      refine lv_iload_n hx hb dX9_item_56 rfl (lv_at hl 1 rfl) ?_
      obtain ⟨r9, μ8, hc10, h⟩ := bC_e h
      refine rc_Vi (rest := []) [.int x1] ⟨hx, hb, hml, hown, hts⟩ hK hd hS (c_X4_cellsOf hk_b7 hc10) (cwV 1 hts gX9_item_X4_cellsOf rfl rfl rfl hv_X4_cellsOf ⟨Nat.le_of_ble_eq_true rfl, Nat.le_of_ble_eq_true rfl⟩) hk_b7 rfl rfl rfl rfl hl.1 rfl (Nat.le_of_ble_eq_true rfl) dX9_item_57 ⟨Nat.zero_le _, Nat.zero_le _⟩ (fun H locs hd hS => ?_)
      obtain ⟨rfl, rfl⟩ := so_e h
      exact rt_i hx hb hr hlk hd hS dX9_item_60
    have h := if_n q6 h
    by_cases q11 : x2 = 1
    · have h := if_y q11 h
      refine lv_tableIn (off := 46) (tgt := 61) hx hb dX9_item_15 (by rw [q11]; decide) (by rw [q11]; decide) (by rw [q11]; rfl) (by decide) ?_
      refine lv_aload_n hx hb dX9_item_61 rfl (lv_at hl 0 rfl) ?_
      obtain ⟨b12, hb12, h⟩ := bR_e h
      refine r_getr hx hb hts (fun w h => List.mem_cons_of_mem _ (List.mem_append_left _ (List.mem_append_left _ (List.mem_append_left _ (List.mem_append_left _ (List.mem_append_right _ (h))))))) hown hK hd hk_a0 hb12 rfl fs_9_1 (hts (.fieldLink RX9 19 "LevelVotes" "plan" "LLevelVotes$House;") (List.mem_of_getElem? (i := 1) rfl)) dX9_item_62 (fun hq => ?_)
      have hk_b12 : kd b12 = 4 := hq
      refine lv_iload_n hx hb dX9_item_65 rfl (lv_at hl 1 rfl) ?_
      obtain ⟨r14, μ13, hc15, h⟩ := bC_e h
      refine rc_Vi (rest := []) [.int x1] ⟨hx, hb, hml, hown, hts⟩ hK hd hS (c_X4_levelOf hk_b12 hc15) (cwV 1 hts gX9_item_X4_levelOf rfl rfl rfl hv_X4_levelOf ⟨Nat.le_of_ble_eq_true rfl, Nat.le_of_ble_eq_true rfl⟩) hk_b12 rfl rfl rfl rfl hl.1 rfl (Nat.le_of_ble_eq_true rfl) dX9_item_66 ⟨Nat.zero_le _, Nat.zero_le _⟩ (fun H locs hd hS => ?_)
      obtain ⟨rfl, rfl⟩ := so_e h
      exact rt_i hx hb hr hlk hd hS dX9_item_69
    have h := if_n q11 h
    by_cases q16 : x2 = 2
    · have h := if_y q16 h
      refine lv_tableIn (off := 55) (tgt := 70) hx hb dX9_item_15 (by rw [q16]; decide) (by rw [q16]; decide) (by rw [q16]; rfl) (by decide) ?_
      refine lv_aload_n hx hb dX9_item_70 rfl (lv_at hl 0 rfl) ?_
      obtain ⟨b17, hb17, h⟩ := bR_e h
      refine r_getr hx hb hts (fun w h => List.mem_cons_of_mem _ (List.mem_append_left _ (List.mem_append_left _ (List.mem_append_left _ (List.mem_append_left _ (List.mem_append_right _ (h))))))) hown hK hd hk_a0 hb17 rfl fs_9_4 (hts (.fieldLink RX9 33 "LevelVotes" "now" "LLevelVotes$Ballot;") (List.mem_of_getElem? (i := 3) rfl)) dX9_item_71 (fun hq => ?_)
      have hk_b17 : kd b17 = 0 := hq
      refine lv_iload_n hx hb dX9_item_74 rfl (lv_at hl 1 rfl) ?_
      obtain ⟨r19, μ18, hc20, h⟩ := bC_e h
      refine rc_Vi (rest := []) [.int x1] ⟨hx, hb, hml, hown, hts⟩ hK hd hS (c_X0_standOf hk_b17 hc20) (cwV 1 hts gX9_item_X0_standOf rfl rfl rfl hv_X0_standOf ⟨Nat.le_of_ble_eq_true rfl, Nat.le_of_ble_eq_true rfl⟩) hk_b17 rfl rfl rfl rfl hl.1 rfl (Nat.le_of_ble_eq_true rfl) dX9_item_75 ⟨Nat.zero_le _, Nat.zero_le _⟩ (fun H locs hd hS => ?_)
      obtain ⟨rfl, rfl⟩ := so_e h
      exact rt_i hx hb hr hlk hd hS dX9_item_78
    have h := if_n q16 h
    by_cases q21 : x2 = 3
    · have h := if_y q21 h
      refine lv_tableIn (off := 64) (tgt := 79) hx hb dX9_item_15 (by rw [q21]; decide) (by rw [q21]; decide) (by rw [q21]; rfl) (by decide) ?_
      refine lv_aload_n hx hb dX9_item_79 rfl (lv_at hl 0 rfl) ?_
      obtain ⟨b22, hb22, h⟩ := bR_e h
      refine r_getr hx hb hts (fun w h => List.mem_cons_of_mem _ (List.mem_append_left _ (List.mem_append_left _ (List.mem_append_left _ (List.mem_append_left _ (List.mem_append_right _ (h))))))) hown hK hd hk_a0 hb22 rfl fs_9_4 (hts (.fieldLink RX9 33 "LevelVotes" "now" "LLevelVotes$Ballot;") (List.mem_of_getElem? (i := 3) rfl)) dX9_item_80 (fun hq => ?_)
      have hk_b22 : kd b22 = 0 := hq
      refine lv_iload_n hx hb dX9_item_83 rfl (lv_at hl 1 rfl) ?_
      obtain ⟨r24, μ23, hc25, h⟩ := bC_e h
      refine rc_Vi (rest := []) [.int x1] ⟨hx, hb, hml, hown, hts⟩ hK hd hS (c_X0_yesOf hk_b22 hc25) (cwV 1 hts gX9_item_X0_yesOf rfl rfl rfl hv_X0_yesOf ⟨Nat.le_of_ble_eq_true rfl, Nat.le_of_ble_eq_true rfl⟩) hk_b22 rfl rfl rfl rfl hl.1 rfl (Nat.le_of_ble_eq_true rfl) dX9_item_84 ⟨Nat.zero_le _, Nat.zero_le _⟩ (fun H locs hd hS => ?_)
      obtain ⟨rfl, rfl⟩ := so_e h
      exact rt_i hx hb hr hlk hd hS dX9_item_87
    have h := if_n q21 h
    by_cases q26 : x2 = 4
    · have h := if_y q26 h
      refine lv_tableIn (off := 73) (tgt := 88) hx hb dX9_item_15 (by rw [q26]; decide) (by rw [q26]; decide) (by rw [q26]; rfl) (by decide) ?_
      refine lv_aload_n hx hb dX9_item_88 rfl (lv_at hl 0 rfl) ?_
      obtain ⟨b27, hb27, h⟩ := bR_e h
      refine r_getr hx hb hts (fun w h => List.mem_cons_of_mem _ (List.mem_append_left _ (List.mem_append_left _ (List.mem_append_left _ (List.mem_append_left _ (List.mem_append_right _ (h))))))) hown hK hd hk_a0 hb27 rfl fs_9_4 (hts (.fieldLink RX9 33 "LevelVotes" "now" "LLevelVotes$Ballot;") (List.mem_of_getElem? (i := 3) rfl)) dX9_item_89 (fun hq => ?_)
      have hk_b27 : kd b27 = 0 := hq
      refine lv_iload_n hx hb dX9_item_92 rfl (lv_at hl 1 rfl) ?_
      obtain ⟨r29, μ28, hc30, h⟩ := bC_e h
      refine rc_Vi (rest := []) [.int x1] ⟨hx, hb, hml, hown, hts⟩ hK hd hS (c_X0_noOf hk_b27 hc30) (cwV 1 hts gX9_item_X0_noOf rfl rfl rfl hv_X0_noOf ⟨Nat.le_of_ble_eq_true rfl, Nat.le_of_ble_eq_true rfl⟩) hk_b27 rfl rfl rfl rfl hl.1 rfl (Nat.le_of_ble_eq_true rfl) dX9_item_93 ⟨Nat.zero_le _, Nat.zero_le _⟩ (fun H locs hd hS => ?_)
      obtain ⟨rfl, rfl⟩ := so_e h
      exact rt_i hx hb hr hlk hd hS dX9_item_96
    have h := if_n q26 h
    by_cases q31 : x2 = 5
    · have h := if_y q31 h
      refine lv_tableIn (off := 82) (tgt := 97) hx hb dX9_item_15 (by rw [q31]; decide) (by rw [q31]; decide) (by rw [q31]; rfl) (by decide) ?_
      refine lv_aload_n hx hb dX9_item_97 rfl (lv_at hl 0 rfl) ?_
      refine lv_iload_n hx hb dX9_item_98 rfl (lv_at hl 1 rfl) ?_
      obtain ⟨r33, μ32, hc34, h⟩ := bC_e h
      refine rc_Vi (rest := []) [.int x1] ⟨hx, hb, hml, hown, hts⟩ hK hd hS (c_X9_isLevel hk_a0 hc34) (cwV 1 hts gX9_item_X9_isLevel rfl rfl rfl hv_X9_isLevel ⟨Nat.le_of_ble_eq_true rfl, Nat.le_of_ble_eq_true rfl⟩) hk_a0 rfl rfl rfl rfl hl.1 rfl (Nat.le_of_ble_eq_true rfl) dX9_item_99 ⟨Nat.zero_le _, Nat.zero_le _⟩ (fun H locs hd hS => ?_)
      refine lv_if_eq (tgt := 109) hx hb dX9_item_102 (by decide) (fun q35 => ?_) (fun q35 => ?_)
      · have h := if_y q35 h
        refine lv_iconst (v := 0) hx hb dX9_item_109 (by decide) ?_
        obtain ⟨rfl, rfl⟩ := so_e h
        exact rt_i hx hb hr hlk hd hS dX9_item_110
      · have h := if_n q35 h
        refine lv_iconst (v := 1) hx hb dX9_item_105 (by decide) ?_
        refine lv_goto (tgt := 110) hx hb dX9_item_106 (by decide) ?_
        obtain ⟨rfl, rfl⟩ := so_e h
        exact rt_i hx hb hr hlk hd hS dX9_item_110
    have h := if_n q31 h
    refine lv_tableOut (tgt := 111) hx hb dX9_item_15 (sw_out 0 6 rfl rfl (by decide) (fun k hk => match k, hk with | 0, _ => q6 | 1, _ => q11 | 2, _ => q16 | 3, _ => q21 | 4, _ => q26 | 5, _ => q31 | k + 6, hk => absurd hk (by omega))) (by decide) ?_
    refine lv_ldc (v := -1000000002) hx hb hown (hts (.constant RX9 86 (-1000000002)) (List.mem_of_getElem? (i := 4) rfl)) dX9_item_111 ?_
    obtain ⟨rfl, rfl⟩ := so_e h
    exact rt_i hx hb hr hlk hd hS dX9_item_113
  · have h := if_y q5 h
    refine lv_ldc (v := -1000000001) hx hb hown (hts (.constant RX9 150 (-1000000001)) (List.mem_of_getElem? (i := 2) rfl)) dX9_item_11 ?_
    obtain ⟨rfl, rfl⟩ := so_e h
    exact rt_i hx hb hr hlk hd hS dX9_item_13
theorem hv_X9_votes : yX9_votes.cls = RX9 ∧ yX9_votes.cls ≠ "java/lang/invoke/MethodHandle" ∧ yX9_votes.cls ≠ "java/lang/invoke/VarHandle" ∧ (parseMethodDescriptor yX9_votes.desc).map (fun d => d.parameters.length) = some 2 := by decide +kernel
def f_X9_votes (μ : Mm) (a0 : Nat) (x1 : Int32) (x2 : Int32) : Option (Int32 × Mm) := bR (μ.2 a0 1) (fun b1 => bC (f_X4_hasPerson μ b1 x1) (fun r3 μ2 => if r3 = 0 then (some ((-1000000001 : Int32), μ2)) else (bR (μ2.2 a0 1) (fun b6 => bC (f_X4_hasItem μ2 b6 x2) (fun r8 μ7 => if r8 = 0 then (some ((-1000000001 : Int32), μ7)) else (bR (μ7.2 a0 4) (fun b11 => bC (f_X0_howOf μ7 b11 x1 x2) (fun r13 μ12 => some (r13, μ12)))))))))
set_option maxRecDepth 100000 in
theorem c_X9_votes {l : Launch} {D : va_G} {cA : Nat → ClassId} {z : Nat} {μ : Mm} {a0 : Nat} {x1 : Int32} {x2 : Int32} {r : Int32} {μ' : Mm} (hk_a0 : kd a0 = 9) (h : f_X9_votes μ a0 x1 x2 = some (r, μ')) : Ct l D cA z yX9_votes wsX9_votes 2 43 [.ref (z + a0), .int x1, .int x2] μ (some (.int r)) μ' := by
  refine m_in (cc := cX9_votes) (maxL := 3) (ret := (some .int)) (own := RX9) (by decide) rfl rfl (Nat.le_of_ble_eq_true rfl) ?_
  intro p e s m below meth c ls X hd hS hl
  obtain ⟨hx, hb, hr, hlk, hml, hown, hts, hK⟩ := id X
  have hl : lv_has ls 3 [(0, .ref (z + a0)), (1, .int x1), (2, .int x2)] := hl
  unfold f_X9_votes at h
  refine lv_aload_n hx hb dX9_votes_0 rfl (lv_at hl 0 rfl) ?_
  obtain ⟨b1, hb1, h⟩ := bR_e h
  refine r_getr hx hb hts (fun w h => List.mem_cons_of_mem _ (List.mem_append_left _ (List.mem_append_left _ (List.mem_append_right _ (h))))) hown hK hd hk_a0 hb1 rfl fs_9_1 (hts (.fieldLink RX9 19 "LevelVotes" "plan" "LLevelVotes$House;") (List.mem_of_getElem? (i := 1) rfl)) dX9_votes_1 (fun hq => ?_)
  have hk_b1 : kd b1 = 4 := hq
  refine lv_iload_n hx hb dX9_votes_4 rfl (lv_at hl 1 rfl) ?_
  obtain ⟨r3, μ2, hc4, h⟩ := bC_e h
  refine rc_Vi (rest := []) [.int x1] ⟨hx, hb, hml, hown, hts⟩ hK hd hS (c_X4_hasPerson hk_b1 hc4) (cwV 1 hts gX9_votes_X4_hasPerson rfl rfl rfl hv_X4_hasPerson ⟨Nat.le_of_ble_eq_true rfl, Nat.le_of_ble_eq_true rfl⟩) hk_b1 rfl rfl rfl rfl hl.1 rfl (Nat.le_of_ble_eq_true rfl) dX9_votes_5 ⟨Nat.zero_le _, Nat.zero_le _⟩ (fun H locs hd hS => ?_)
  refine lv_if_eq (tgt := 22) hx hb dX9_votes_8 (by decide) (fun q5 => ?_) (fun q5 => ?_)
  · have h := if_y q5 h
    refine lv_ldc (v := -1000000001) hx hb hown (hts (.constant RX9 150 (-1000000001)) (List.mem_of_getElem? (i := 2) rfl)) dX9_votes_22 ?_
    obtain ⟨rfl, rfl⟩ := so_e h
    exact rt_i hx hb hr hlk hd hS dX9_votes_24
  · have h := if_n q5 h
    refine lv_aload_n hx hb dX9_votes_11 rfl (lv_at hl 0 rfl) ?_
    obtain ⟨b6, hb6, h⟩ := bR_e h
    refine r_getr hx hb hts (fun w h => List.mem_cons_of_mem _ (List.mem_append_left _ (List.mem_append_left _ (List.mem_append_right _ (h))))) hown hK hd hk_a0 hb6 rfl fs_9_1 (hts (.fieldLink RX9 19 "LevelVotes" "plan" "LLevelVotes$House;") (List.mem_of_getElem? (i := 1) rfl)) dX9_votes_12 (fun hq => ?_)
    have hk_b6 : kd b6 = 4 := hq
    refine lv_iload_n hx hb dX9_votes_15 rfl (lv_at hl 2 rfl) ?_
    obtain ⟨r8, μ7, hc9, h⟩ := bC_e h
    refine rc_Vi (rest := []) [.int x2] ⟨hx, hb, hml, hown, hts⟩ hK hd hS (c_X4_hasItem hk_b6 hc9) (cwV 1 hts gX9_votes_X4_hasItem rfl rfl rfl hv_X4_hasItem ⟨Nat.le_of_ble_eq_true rfl, Nat.le_of_ble_eq_true rfl⟩) hk_b6 rfl rfl rfl rfl hl.1 rfl (Nat.le_of_ble_eq_true rfl) dX9_votes_16 ⟨Nat.zero_le _, Nat.zero_le _⟩ (fun H locs hd hS => ?_)
    refine lv_if_ne (tgt := 25) hx hb dX9_votes_19 (by decide) (fun q10 => ?_) (fun q10 => ?_)
    · have h := if_n q10 h
      refine lv_aload_n hx hb dX9_votes_25 rfl (lv_at hl 0 rfl) ?_
      obtain ⟨b11, hb11, h⟩ := bR_e h
      refine r_getr hx hb hts (fun w h => List.mem_cons_of_mem _ (List.mem_append_left _ (List.mem_append_left _ (List.mem_append_right _ (h))))) hown hK hd hk_a0 hb11 rfl fs_9_4 (hts (.fieldLink RX9 33 "LevelVotes" "now" "LLevelVotes$Ballot;") (List.mem_of_getElem? (i := 3) rfl)) dX9_votes_26 (fun hq => ?_)
      have hk_b11 : kd b11 = 0 := hq
      refine lv_iload_n hx hb dX9_votes_29 rfl (lv_at hl 1 rfl) ?_
      refine lv_iload_n hx hb dX9_votes_30 rfl (lv_at hl 2 rfl) ?_
      obtain ⟨r13, μ12, hc14, h⟩ := bC_e h
      refine rc_Vi (rest := []) [.int x1, .int x2] ⟨hx, hb, hml, hown, hts⟩ hK hd hS (c_X0_howOf hk_b11 hc14) (cwV 2 hts gX9_votes_X0_howOf rfl rfl rfl hv_X0_howOf ⟨Nat.le_of_ble_eq_true rfl, Nat.le_of_ble_eq_true rfl⟩) hk_b11 rfl rfl rfl rfl hl.1 rfl (Nat.le_of_ble_eq_true rfl) dX9_votes_31 ⟨Nat.zero_le _, Nat.zero_le _⟩ (fun H locs hd hS => ?_)
      obtain ⟨rfl, rfl⟩ := so_e h
      exact rt_i hx hb hr hlk hd hS dX9_votes_34
    · have h := if_y q10 h
      refine lv_ldc (v := -1000000001) hx hb hown (hts (.constant RX9 150 (-1000000001)) (List.mem_of_getElem? (i := 2) rfl)) dX9_votes_22 ?_
      obtain ⟨rfl, rfl⟩ := so_e h
      exact rt_i hx hb hr hlk hd hS dX9_votes_24
theorem hv_X9_vote : yX9_vote.cls = RX9 ∧ yX9_vote.cls ≠ "java/lang/invoke/MethodHandle" ∧ yX9_vote.cls ≠ "java/lang/invoke/VarHandle" ∧ (parseMethodDescriptor yX9_vote.desc).map (fun d => d.parameters.length) = some 3 := by decide +kernel
def f_X9_vote (μ : Mm) (a0 : Nat) (x1 : Int32) (x2 : Int32) (x3 : Int32) : Option (Int32 × Mm) := bR (μ.2 a0 1) (fun b1 => bC (f_X4_hasPerson μ b1 x1) (fun r3 μ2 => if r3 = 0 then (some ((-1000000001 : Int32), μ2)) else (bR (μ2.2 a0 1) (fun b6 => bC (f_X4_hasItem μ2 b6 x2) (fun r8 μ7 => if r8 = 0 then (some ((-1000000001 : Int32), μ7)) else (if x3 < 0 then (some ((-1000000002 : Int32), μ7)) else (if x3 ≤ (2 : Int32) then (bR (μ7.2 a0 5) (fun b13 => bR (μ7.2 a0 4) (fun b14 => bV (f_X3_remember μ7 b13 b14) (fun μ15 => bR (μ15.2 a0 4) (fun b18 => bV (f_X0_put μ15 b18 x1 x2 x3) (fun μ19 => bR (μ19.2 a0 4) (fun b22 => bC (f_X0_standOf μ19 b22 x2) (fun r24 μ23 => some (r24, μ23))))))))) else (some ((-1000000002 : Int32), μ7)))))))))
set_option maxRecDepth 100000 in
theorem c_X9_vote {l : Launch} {D : va_G} {cA : Nat → ClassId} {z : Nat} {μ : Mm} {a0 : Nat} {x1 : Int32} {x2 : Int32} {x3 : Int32} {r : Int32} {μ' : Mm} (hk_a0 : kd a0 = 9) (h : f_X9_vote μ a0 x1 x2 x3 = some (r, μ')) : Ct l D cA z yX9_vote wsX9_vote 3 65 [.ref (z + a0), .int x1, .int x2, .int x3] μ (some (.int r)) μ' := by
  refine m_in (cc := cX9_vote) (maxL := 4) (ret := (some .int)) (own := RX9) (by decide) rfl rfl (Nat.le_of_ble_eq_true rfl) ?_
  intro p e s m below meth c ls X hd hS hl
  obtain ⟨hx, hb, hr, hlk, hml, hown, hts, hK⟩ := id X
  have hl : lv_has ls 4 [(0, .ref (z + a0)), (1, .int x1), (2, .int x2), (3, .int x3)] := hl
  unfold f_X9_vote at h
  refine lv_aload_n hx hb dX9_vote_0 rfl (lv_at hl 0 rfl) ?_
  obtain ⟨b1, hb1, h⟩ := bR_e h
  refine r_getr hx hb hts (fun w h => List.mem_cons_of_mem _ (List.mem_append_left _ (List.mem_append_left _ (List.mem_append_left _ (List.mem_append_right _ (h)))))) hown hK hd hk_a0 hb1 rfl fs_9_1 (hts (.fieldLink RX9 19 "LevelVotes" "plan" "LLevelVotes$House;") (List.mem_of_getElem? (i := 1) rfl)) dX9_vote_1 (fun hq => ?_)
  have hk_b1 : kd b1 = 4 := hq
  refine lv_iload_n hx hb dX9_vote_4 rfl (lv_at hl 1 rfl) ?_
  obtain ⟨r3, μ2, hc4, h⟩ := bC_e h
  refine rc_Vi (rest := []) [.int x1] ⟨hx, hb, hml, hown, hts⟩ hK hd hS (c_X4_hasPerson hk_b1 hc4) (cwV 1 hts gX9_vote_X4_hasPerson rfl rfl rfl hv_X4_hasPerson ⟨Nat.le_of_ble_eq_true rfl, Nat.le_of_ble_eq_true rfl⟩) hk_b1 rfl rfl rfl rfl hl.1 rfl (Nat.le_of_ble_eq_true rfl) dX9_vote_5 ⟨Nat.zero_le _, Nat.zero_le _⟩ (fun H locs hd hS => ?_)
  refine lv_if_eq (tgt := 22) hx hb dX9_vote_8 (by decide) (fun q5 => ?_) (fun q5 => ?_)
  · have h := if_y q5 h
    refine lv_ldc (v := -1000000001) hx hb hown (hts (.constant RX9 150 (-1000000001)) (List.mem_of_getElem? (i := 2) rfl)) dX9_vote_22 ?_
    obtain ⟨rfl, rfl⟩ := so_e h
    exact rt_i hx hb hr hlk hd hS dX9_vote_24
  · have h := if_n q5 h
    refine lv_aload_n hx hb dX9_vote_11 rfl (lv_at hl 0 rfl) ?_
    obtain ⟨b6, hb6, h⟩ := bR_e h
    refine r_getr hx hb hts (fun w h => List.mem_cons_of_mem _ (List.mem_append_left _ (List.mem_append_left _ (List.mem_append_left _ (List.mem_append_right _ (h)))))) hown hK hd hk_a0 hb6 rfl fs_9_1 (hts (.fieldLink RX9 19 "LevelVotes" "plan" "LLevelVotes$House;") (List.mem_of_getElem? (i := 1) rfl)) dX9_vote_12 (fun hq => ?_)
    have hk_b6 : kd b6 = 4 := hq
    refine lv_iload_n hx hb dX9_vote_15 rfl (lv_at hl 2 rfl) ?_
    obtain ⟨r8, μ7, hc9, h⟩ := bC_e h
    refine rc_Vi (rest := []) [.int x2] ⟨hx, hb, hml, hown, hts⟩ hK hd hS (c_X4_hasItem hk_b6 hc9) (cwV 1 hts gX9_vote_X4_hasItem rfl rfl rfl hv_X4_hasItem ⟨Nat.le_of_ble_eq_true rfl, Nat.le_of_ble_eq_true rfl⟩) hk_b6 rfl rfl rfl rfl hl.1 rfl (Nat.le_of_ble_eq_true rfl) dX9_vote_16 ⟨Nat.zero_le _, Nat.zero_le _⟩ (fun H locs hd hS => ?_)
    refine lv_if_ne (tgt := 25) hx hb dX9_vote_19 (by decide) (fun q10 => ?_) (fun q10 => ?_)
    · have h := if_n q10 h
      refine lv_iload_n hx hb dX9_vote_25 rfl (lv_at hl 3 rfl) ?_
      refine lv_if_lt (tgt := 34) hx hb dX9_vote_26 (by decide) (fun q11 => ?_) (fun q11 => ?_)
      · have h := if_y q11 h
        refine lv_ldc (v := -1000000002) hx hb hown (hts (.constant RX9 86 (-1000000002)) (List.mem_of_getElem? (i := 3) rfl)) dX9_vote_34 ?_
        obtain ⟨rfl, rfl⟩ := so_e h
        exact rt_i hx hb hr hlk hd hS dX9_vote_36
      · have h := if_n q11 h
        refine lv_iload_n hx hb dX9_vote_29 rfl (lv_at hl 3 rfl) ?_
        refine lv_iconst (v := 2) hx hb dX9_vote_30 (by decide) ?_
        refine lv_icmp_le (tgt := 37) hx hb dX9_vote_31 (by decide) (fun q12 => ?_) (fun q12 => ?_)
        · have h := if_y q12 h
          refine lv_aload_n hx hb dX9_vote_37 rfl (lv_at hl 0 rfl) ?_
          obtain ⟨b13, hb13, h⟩ := bR_e h
          refine r_getr hx hb hts (fun w h => List.mem_cons_of_mem _ (List.mem_append_left _ (List.mem_append_left _ (List.mem_append_left _ (List.mem_append_right _ (h)))))) hown hK hd hk_a0 hb13 rfl fs_9_5 (hts (.fieldLink RX9 40 "LevelVotes" "history" "LLevelVotes$History;") (List.mem_of_getElem? (i := 4) rfl)) dX9_vote_38 (fun hq => ?_)
          have hk_b13 : kd b13 = 3 := hq
          refine lv_aload_n hx hb dX9_vote_41 rfl (lv_at hl 0 rfl) ?_
          obtain ⟨b14, hb14, h⟩ := bR_e h
          refine r_getr hx hb hts (fun w h => List.mem_cons_of_mem _ (List.mem_append_left _ (List.mem_append_left _ (List.mem_append_left _ (List.mem_append_right _ (h)))))) hown hK hd hk_a0 hb14 rfl fs_9_4 (hts (.fieldLink RX9 33 "LevelVotes" "now" "LLevelVotes$Ballot;") (List.mem_of_getElem? (i := 5) rfl)) dX9_vote_42 (fun hq => ?_)
          have hk_b14 : kd b14 = 0 := hq
          obtain ⟨μ15, hc17, h⟩ := bV_e h
          refine rc_Vv (rest := []) [.ref (z + b14)] ⟨hx, hb, hml, hown, hts⟩ hK hd hS (c_X3_remember hk_b13 hk_b14 hc17) (cwV 1 hts gX9_vote_X3_remember rfl rfl rfl hv_X3_remember ⟨Nat.le_of_ble_eq_true rfl, Nat.le_of_ble_eq_true rfl⟩) hk_b13 rfl rfl rfl rfl hl.1 rfl (Nat.le_of_ble_eq_true rfl) dX9_vote_45 ⟨Nat.zero_le _, Nat.zero_le _⟩ (fun H locs hd hS => ?_)
          refine lv_aload_n hx hb dX9_vote_48 rfl (lv_at hl 0 rfl) ?_
          obtain ⟨b18, hb18, h⟩ := bR_e h
          refine r_getr hx hb hts (fun w h => List.mem_cons_of_mem _ (List.mem_append_left _ (List.mem_append_left _ (List.mem_append_left _ (List.mem_append_right _ (h)))))) hown hK hd hk_a0 hb18 rfl fs_9_4 (hts (.fieldLink RX9 33 "LevelVotes" "now" "LLevelVotes$Ballot;") (List.mem_of_getElem? (i := 5) rfl)) dX9_vote_49 (fun hq => ?_)
          have hk_b18 : kd b18 = 0 := hq
          refine lv_iload_n hx hb dX9_vote_52 rfl (lv_at hl 1 rfl) ?_
          refine lv_iload_n hx hb dX9_vote_53 rfl (lv_at hl 2 rfl) ?_
          refine lv_iload_n hx hb dX9_vote_54 rfl (lv_at hl 3 rfl) ?_
          obtain ⟨μ19, hc21, h⟩ := bV_e h
          refine rc_Vv (rest := []) [.int x1, .int x2, .int x3] ⟨hx, hb, hml, hown, hts⟩ hK hd hS (c_X0_put hk_b18 hc21) (cwV 3 hts gX9_vote_X0_put rfl rfl rfl hv_X0_put ⟨Nat.le_of_ble_eq_true rfl, Nat.le_of_ble_eq_true rfl⟩) hk_b18 rfl rfl rfl rfl hl.1 rfl (Nat.le_of_ble_eq_true rfl) dX9_vote_55 ⟨Nat.zero_le _, Nat.zero_le _⟩ (fun H locs hd hS => ?_)
          refine lv_aload_n hx hb dX9_vote_58 rfl (lv_at hl 0 rfl) ?_
          obtain ⟨b22, hb22, h⟩ := bR_e h
          refine r_getr hx hb hts (fun w h => List.mem_cons_of_mem _ (List.mem_append_left _ (List.mem_append_left _ (List.mem_append_left _ (List.mem_append_right _ (h)))))) hown hK hd hk_a0 hb22 rfl fs_9_4 (hts (.fieldLink RX9 33 "LevelVotes" "now" "LLevelVotes$Ballot;") (List.mem_of_getElem? (i := 5) rfl)) dX9_vote_59 (fun hq => ?_)
          have hk_b22 : kd b22 = 0 := hq
          refine lv_iload_n hx hb dX9_vote_62 rfl (lv_at hl 2 rfl) ?_
          obtain ⟨r24, μ23, hc25, h⟩ := bC_e h
          refine rc_Vi (rest := []) [.int x2] ⟨hx, hb, hml, hown, hts⟩ hK hd hS (c_X0_standOf hk_b22 hc25) (cwV 1 hts gX9_vote_X0_standOf rfl rfl rfl hv_X0_standOf ⟨Nat.le_of_ble_eq_true rfl, Nat.le_of_ble_eq_true rfl⟩) hk_b22 rfl rfl rfl rfl hl.1 rfl (Nat.le_of_ble_eq_true rfl) dX9_vote_63 ⟨Nat.zero_le _, Nat.zero_le _⟩ (fun H locs hd hS => ?_)
          obtain ⟨rfl, rfl⟩ := so_e h
          exact rt_i hx hb hr hlk hd hS dX9_vote_66
        · have h := if_n q12 h
          refine lv_ldc (v := -1000000002) hx hb hown (hts (.constant RX9 86 (-1000000002)) (List.mem_of_getElem? (i := 3) rfl)) dX9_vote_34 ?_
          obtain ⟨rfl, rfl⟩ := so_e h
          exact rt_i hx hb hr hlk hd hS dX9_vote_36
    · have h := if_y q10 h
      refine lv_ldc (v := -1000000001) hx hb hown (hts (.constant RX9 150 (-1000000001)) (List.mem_of_getElem? (i := 2) rfl)) dX9_vote_22 ?_
      obtain ⟨rfl, rfl⟩ := so_e h
      exact rt_i hx hb hr hlk hd hS dX9_vote_24
theorem hv_X9_holdSession : yX9_holdSession.cls = RX9 ∧ yX9_holdSession.cls ≠ "java/lang/invoke/MethodHandle" ∧ yX9_holdSession.cls ≠ "java/lang/invoke/VarHandle" ∧ (parseMethodDescriptor yX9_holdSession.desc).map (fun d => d.parameters.length) = some 0 := by decide +kernel
def f_X9_holdSession (μ : Mm) (a0 : Nat) : Option (Int32 × Mm) := bC (f_X9_standNow μ a0) (fun r2 μ1 => bR (μ1.2 a0 4) (fun b4 => bM (up2 μ1.1 b4 2 ((μ1.1 b4 2) + (1 : Int32)), μ1.2) (fun μ5 => bR (μ5.2 a0 4) (fun b6 => bM (up2 μ5.1 b6 3 r2, μ5.2) (fun μ7 => some (r2, μ7))))))
set_option maxRecDepth 100000 in
theorem c_X9_holdSession {l : Launch} {D : va_G} {cA : Nat → ClassId} {z : Nat} {μ : Mm} {a0 : Nat} {r : Int32} {μ' : Mm} (hk_a0 : kd a0 = 9) (h : f_X9_holdSession μ a0 = some (r, μ')) : Ct l D cA z yX9_holdSession wsX9_holdSession 5 106 [.ref (z + a0)] μ (some (.int r)) μ' := by
  refine m_in (cc := cX9_holdSession) (maxL := 2) (ret := (some .int)) (own := RX9) (by decide) rfl rfl (Nat.le_of_ble_eq_true rfl) ?_
  intro p e s m below meth c ls X hd hS hl
  obtain ⟨hx, hb, hr, hlk, hml, hown, hts, hK⟩ := id X
  have hl : lv_has ls 2 [(0, .ref (z + a0))] := hl
  unfold f_X9_holdSession at h
  refine lv_aload_n hx hb dX9_holdSession_0 rfl (lv_at hl 0 rfl) ?_
  obtain ⟨r2, μ1, hc3, h⟩ := bC_e h
  refine rc_Vi (rest := []) [] ⟨hx, hb, hml, hown, hts⟩ hK hd hS (c_X9_standNow hk_a0 hc3) (cwV 0 hts gX9_holdSession_X9_standNow rfl rfl rfl hv_X9_standNow ⟨Nat.le_of_ble_eq_true rfl, Nat.le_of_ble_eq_true rfl⟩) hk_a0 rfl rfl rfl rfl hl.1 rfl (Nat.le_of_ble_eq_true rfl) dX9_holdSession_1 ⟨Nat.zero_le _, Nat.zero_le _⟩ (fun H locs hd hS => ?_)
  refine lv_istore_n (lv' := [(1, .int r2), (0, .ref (z + a0))]) hx hb dX9_holdSession_4 rfl hl (by decide) rfl (fun ls hl => ?_)
  refine lv_aload_n hx hb dX9_holdSession_5 rfl (lv_at hl 1 rfl) ?_
  obtain ⟨b4, hb4, h⟩ := bR_e h
  refine r_getr hx hb hts (fun w h => List.mem_cons_of_mem _ (List.mem_append_left _ (List.mem_append_left _ (List.mem_append_left _ (List.mem_append_right _ (h)))))) hown hK hd hk_a0 hb4 rfl fs_9_4 (hts (.fieldLink RX9 33 "LevelVotes" "now" "LLevelVotes$Ballot;") (List.mem_of_getElem? (i := 1) rfl)) dX9_holdSession_6 (fun hq => ?_)
  have hk_b4 : kd b4 = 0 := hq
  refine lv_dup hx hb dX9_holdSession_9 rfl ?_
  refine r_geti hx hb hts (fun w h => List.mem_cons_of_mem _ (List.mem_append_left _ (List.mem_append_left _ (List.mem_append_right _ (h))))) hown hK hd hk_b4 rfl 2 fs_0_2 (hts (.fieldLink RX9 121 "LevelVotes$Ballot" "sessions" "I") (List.mem_of_getElem? (i := 2) rfl)) dX9_holdSession_10 ?_
  refine lv_iconst (v := 1) hx hb dX9_holdSession_13 (by decide) ?_
  refine lv_iadd hx hb dX9_holdSession_14 ?_
  refine r_puti hx hb hts (fun w h => List.mem_cons_of_mem _ (List.mem_append_left _ (List.mem_append_left _ (List.mem_append_right _ (h))))) tyX0 tyX0_ok nmX0 hown hK hd hS hk_b4 rfl 2 fs_0_2 rfl (hts (.fieldLink RX9 121 "LevelVotes$Ballot" "sessions" "I") (List.mem_of_getElem? (i := 2) rfl)) (vp_nar_int _) rfl dX9_holdSession_15 (fun μ5 eμ5 H locs hd hS => ?_)
  have h := bM_e eμ5 h
  refine lv_aload_n hx hb dX9_holdSession_18 rfl (lv_at hl 1 rfl) ?_
  obtain ⟨b6, hb6, h⟩ := bR_e h
  refine r_getr hx hb hts (fun w h => List.mem_cons_of_mem _ (List.mem_append_left _ (List.mem_append_left _ (List.mem_append_left _ (List.mem_append_right _ (h)))))) hown hK hd hk_a0 hb6 rfl fs_9_4 (hts (.fieldLink RX9 33 "LevelVotes" "now" "LLevelVotes$Ballot;") (List.mem_of_getElem? (i := 1) rfl)) dX9_holdSession_19 (fun hq => ?_)
  have hk_b6 : kd b6 = 0 := hq
  refine lv_iload_n hx hb dX9_holdSession_22 rfl (lv_at hl 0 rfl) ?_
  refine r_puti hx hb hts (fun w h => List.mem_cons_of_mem _ (List.mem_append_left _ (List.mem_append_left _ (List.mem_append_right _ (h))))) tyX0 tyX0_ok nmX0 hown hK hd hS hk_b6 rfl 3 fs_0_3 rfl (hts (.fieldLink RX9 128 "LevelVotes$Ballot" "last" "I") (List.mem_of_getElem? (i := 3) rfl)) (vp_nar_int _) rfl dX9_holdSession_23 (fun μ7 eμ7 H locs hd hS => ?_)
  have h := bM_e eμ7 h
  refine lv_iload_n hx hb dX9_holdSession_26 rfl (lv_at hl 0 rfl) ?_
  obtain ⟨rfl, rfl⟩ := so_e h
  exact rt_i hx hb hr hlk hd hS dX9_holdSession_27
theorem hv_X9_session : yX9_session.cls = RX9 ∧ yX9_session.cls ≠ "java/lang/invoke/MethodHandle" ∧ yX9_session.cls ≠ "java/lang/invoke/VarHandle" ∧ (parseMethodDescriptor yX9_session.desc).map (fun d => d.parameters.length) = some 0 := by decide +kernel
def f_X9_session (μ : Mm) (a0 : Nat) : Option (Int32 × Mm) := bR (μ.2 a0 1) (fun b1 => bC (f_X4_isThere μ b1) (fun r3 μ2 => if r3 = 0 then (some ((-1000000003 : Int32), μ2)) else (bR (μ2.2 a0 4) (fun b6 => if (μ2.1 b6 2) ≤ (9000 : Int32) then (bR (μ2.2 a0 5) (fun b8 => bR (μ2.2 a0 4) (fun b9 => bV (f_X3_remember μ2 b8 b9) (fun μ10 => bC (f_X9_holdSession μ10 a0) (fun r14 μ13 => some (r14, μ13)))))) else (some ((-1000000004 : Int32), μ2))))))
set_option maxRecDepth 100000 in
theorem c_X9_session {l : Launch} {D : va_G} {cA : Nat → ClassId} {z : Nat} {μ : Mm} {a0 : Nat} {r : Int32} {μ' : Mm} (hk_a0 : kd a0 = 9) (h : f_X9_session μ a0 = some (r, μ')) : Ct l D cA z yX9_session wsX9_session 6 127 [.ref (z + a0)] μ (some (.int r)) μ' := by
  refine m_in (cc := cX9_session) (maxL := 1) (ret := (some .int)) (own := RX9) (by decide) rfl rfl (Nat.le_of_ble_eq_true rfl) ?_
  intro p e s m below meth c ls X hd hS hl
  obtain ⟨hx, hb, hr, hlk, hml, hown, hts, hK⟩ := id X
  have hl : lv_has ls 1 [(0, .ref (z + a0))] := hl
  unfold f_X9_session at h
  refine lv_aload_n hx hb dX9_session_0 rfl (lv_at hl 0 rfl) ?_
  obtain ⟨b1, hb1, h⟩ := bR_e h
  refine r_getr hx hb hts (fun w h => List.mem_cons_of_mem _ (List.mem_append_left _ (List.mem_append_left _ (List.mem_append_left _ (List.mem_append_left _ (List.mem_append_right _ (h))))))) hown hK hd hk_a0 hb1 rfl fs_9_1 (hts (.fieldLink RX9 19 "LevelVotes" "plan" "LLevelVotes$House;") (List.mem_of_getElem? (i := 1) rfl)) dX9_session_1 (fun hq => ?_)
  have hk_b1 : kd b1 = 4 := hq
  obtain ⟨r3, μ2, hc4, h⟩ := bC_e h
  refine rc_Vi (rest := []) [] ⟨hx, hb, hml, hown, hts⟩ hK hd hS (c_X4_isThere hk_b1 hc4) (cwV 0 hts gX9_session_X4_isThere rfl rfl rfl hv_X4_isThere ⟨Nat.le_of_ble_eq_true rfl, Nat.le_of_ble_eq_true rfl⟩) hk_b1 rfl rfl rfl rfl hl.1 rfl (Nat.le_of_ble_eq_true rfl) dX9_session_4 ⟨Nat.zero_le _, Nat.zero_le _⟩ (fun H locs hd hS => ?_)
  refine lv_if_ne (tgt := 13) hx hb dX9_session_7 (by decide) (fun q5 => ?_) (fun q5 => ?_)
  · have h := if_n q5 h
    refine lv_aload_n hx hb dX9_session_13 rfl (lv_at hl 0 rfl) ?_
    obtain ⟨b6, hb6, h⟩ := bR_e h
    refine r_getr hx hb hts (fun w h => List.mem_cons_of_mem _ (List.mem_append_left _ (List.mem_append_left _ (List.mem_append_left _ (List.mem_append_left _ (List.mem_append_right _ (h))))))) hown hK hd hk_a0 hb6 rfl fs_9_4 (hts (.fieldLink RX9 33 "LevelVotes" "now" "LLevelVotes$Ballot;") (List.mem_of_getElem? (i := 3) rfl)) dX9_session_14 (fun hq => ?_)
    have hk_b6 : kd b6 = 0 := hq
    refine r_geti hx hb hts (fun w h => List.mem_cons_of_mem _ (List.mem_append_left _ (List.mem_append_left _ (List.mem_append_left _ (List.mem_append_right _ (h)))))) hown hK hd hk_b6 rfl 2 fs_0_2 (hts (.fieldLink RX9 121 "LevelVotes$Ballot" "sessions" "I") (List.mem_of_getElem? (i := 4) rfl)) dX9_session_17 ?_
    refine lv_sipush (v := 9000) hx hb dX9_session_20 (by decide) ?_
    refine lv_icmp_le (tgt := 29) hx hb dX9_session_23 (by decide) (fun q7 => ?_) (fun q7 => ?_)
    · have h := if_y q7 h
      refine lv_aload_n hx hb dX9_session_29 rfl (lv_at hl 0 rfl) ?_
      obtain ⟨b8, hb8, h⟩ := bR_e h
      refine r_getr hx hb hts (fun w h => List.mem_cons_of_mem _ (List.mem_append_left _ (List.mem_append_left _ (List.mem_append_left _ (List.mem_append_left _ (List.mem_append_right _ (h))))))) hown hK hd hk_a0 hb8 rfl fs_9_5 (hts (.fieldLink RX9 40 "LevelVotes" "history" "LLevelVotes$History;") (List.mem_of_getElem? (i := 6) rfl)) dX9_session_30 (fun hq => ?_)
      have hk_b8 : kd b8 = 3 := hq
      refine lv_aload_n hx hb dX9_session_33 rfl (lv_at hl 0 rfl) ?_
      obtain ⟨b9, hb9, h⟩ := bR_e h
      refine r_getr hx hb hts (fun w h => List.mem_cons_of_mem _ (List.mem_append_left _ (List.mem_append_left _ (List.mem_append_left _ (List.mem_append_left _ (List.mem_append_right _ (h))))))) hown hK hd hk_a0 hb9 rfl fs_9_4 (hts (.fieldLink RX9 33 "LevelVotes" "now" "LLevelVotes$Ballot;") (List.mem_of_getElem? (i := 3) rfl)) dX9_session_34 (fun hq => ?_)
      have hk_b9 : kd b9 = 0 := hq
      obtain ⟨μ10, hc12, h⟩ := bV_e h
      refine rc_Vv (rest := []) [.ref (z + b9)] ⟨hx, hb, hml, hown, hts⟩ hK hd hS (c_X3_remember hk_b8 hk_b9 hc12) (cwV 1 hts gX9_session_X3_remember rfl rfl rfl hv_X3_remember ⟨Nat.le_of_ble_eq_true rfl, Nat.le_of_ble_eq_true rfl⟩) hk_b8 rfl rfl rfl rfl hl.1 rfl (Nat.le_of_ble_eq_true rfl) dX9_session_37 ⟨Nat.zero_le _, Nat.zero_le _⟩ (fun H locs hd hS => ?_)
      refine lv_aload_n hx hb dX9_session_40 rfl (lv_at hl 0 rfl) ?_
      obtain ⟨r14, μ13, hc15, h⟩ := bC_e h
      refine rc_Vi (rest := []) [] ⟨hx, hb, hml, hown, hts⟩ hK hd hS (c_X9_holdSession hk_a0 hc15) (cwV 0 hts gX9_session_X9_holdSession rfl rfl rfl hv_X9_holdSession ⟨Nat.le_of_ble_eq_true rfl, Nat.le_of_ble_eq_true rfl⟩) hk_a0 rfl rfl rfl rfl hl.1 rfl (Nat.le_of_ble_eq_true rfl) dX9_session_41 ⟨Nat.zero_le _, Nat.zero_le _⟩ (fun H locs hd hS => ?_)
      obtain ⟨rfl, rfl⟩ := so_e h
      exact rt_i hx hb hr hlk hd hS dX9_session_44
    · have h := if_n q7 h
      refine lv_ldc (v := -1000000004) hx hb hown (hts (.constant RX9 91 (-1000000004)) (List.mem_of_getElem? (i := 5) rfl)) dX9_session_26 ?_
      obtain ⟨rfl, rfl⟩ := so_e h
      exact rt_i hx hb hr hlk hd hS dX9_session_28
  · have h := if_y q5 h
    refine lv_ldc (v := -1000000003) hx hb hown (hts (.constant RX9 203 (-1000000003)) (List.mem_of_getElem? (i := 2) rfl)) dX9_session_10 ?_
    obtain ⟨rfl, rfl⟩ := so_e h
    exact rt_i hx hb hr hlk hd hS dX9_session_12
theorem hv_X9_voteByDraw : yX9_voteByDraw.cls = RX9 ∧ yX9_voteByDraw.cls ≠ "java/lang/invoke/MethodHandle" ∧ yX9_voteByDraw.cls ≠ "java/lang/invoke/VarHandle" ∧ (parseMethodDescriptor yX9_voteByDraw.desc).map (fun d => d.parameters.length) = some 0 := by decide +kernel
def f_X9_voteByDraw (μ : Mm) (a0 : Nat) : Option Mm := bR (μ.2 a0 7) (fun b1 => bR (μ.2 a0 1) (fun b2 => bC (f_X1_next μ b1 (μ.1 b2 4)) (fun r4 μ3 => bR (μ3.2 a0 7) (fun b6 => bR (μ3.2 a0 1) (fun b7 => bC (f_X1_next μ3 b6 (μ3.1 b7 3)) (fun r9 μ8 => bR (μ8.2 a0 7) (fun b11 => bC (f_X1_next μ8 b11 (3 : Int32)) (fun r13 μ12 => bR (μ12.2 a0 4) (fun b15 => bV (f_X0_put μ12 b15 r4 r9 r13) (fun μ16 => some μ16))))))))))
set_option maxRecDepth 100000 in
theorem c_X9_voteByDraw {l : Launch} {D : va_G} {cA : Nat → ClassId} {z : Nat} {μ : Mm} {a0 : Nat} {μ' : Mm} (hk_a0 : kd a0 = 9) (h : f_X9_voteByDraw μ a0 = some μ') : Ct l D cA z yX9_voteByDraw wsX9_voteByDraw 1 24 [.ref (z + a0)] μ none μ' := by
  refine m_in (cc := cX9_voteByDraw) (maxL := 4) (ret := none) (own := RX9) (by decide) rfl rfl (Nat.le_of_ble_eq_true rfl) ?_
  intro p e s m below meth c ls X hd hS hl
  obtain ⟨hx, hb, hr, hlk, hml, hown, hts, hK⟩ := id X
  have hl : lv_has ls 4 [(0, .ref (z + a0))] := hl
  unfold f_X9_voteByDraw at h
  refine lv_aload_n hx hb dX9_voteByDraw_0 rfl (lv_at hl 0 rfl) ?_
  obtain ⟨b1, hb1, h⟩ := bR_e h
  refine r_getr hx hb hts (fun w h => List.mem_cons_of_mem _ (List.mem_append_left _ (List.mem_append_left _ (List.mem_append_left _ (List.mem_append_right _ (h)))))) hown hK hd hk_a0 hb1 rfl fs_9_7 (hts (.fieldLink RX9 53 "LevelVotes" "draws" "LLevelVotes$Draws;") (List.mem_of_getElem? (i := 1) rfl)) dX9_voteByDraw_1 (fun hq => ?_)
  have hk_b1 : kd b1 = 1 := hq
  refine lv_aload_n hx hb dX9_voteByDraw_4 rfl (lv_at hl 0 rfl) ?_
  obtain ⟨b2, hb2, h⟩ := bR_e h
  refine r_getr hx hb hts (fun w h => List.mem_cons_of_mem _ (List.mem_append_left _ (List.mem_append_left _ (List.mem_append_left _ (List.mem_append_right _ (h)))))) hown hK hd hk_a0 hb2 rfl fs_9_1 (hts (.fieldLink RX9 19 "LevelVotes" "plan" "LLevelVotes$House;") (List.mem_of_getElem? (i := 2) rfl)) dX9_voteByDraw_5 (fun hq => ?_)
  have hk_b2 : kd b2 = 4 := hq
  refine r_geti hx hb hts (fun w h => List.mem_cons_of_mem _ (List.mem_append_left _ (List.mem_append_left _ (List.mem_append_right _ (h))))) hown hK hd hk_b2 rfl 4 fs_4_4 (hts (.fieldLink RX9 118 "LevelVotes$House" "persons" "I") (List.mem_of_getElem? (i := 3) rfl)) dX9_voteByDraw_8 ?_
  obtain ⟨r4, μ3, hc5, h⟩ := bC_e h
  refine rc_Vi (rest := []) [.int (μ.1 b2 4)] ⟨hx, hb, hml, hown, hts⟩ hK hd hS (c_X1_next hk_b1 hc5) (cwV 1 hts gX9_voteByDraw_X1_next rfl rfl rfl hv_X1_next ⟨Nat.le_of_ble_eq_true rfl, Nat.le_of_ble_eq_true rfl⟩) hk_b1 rfl rfl rfl rfl hl.1 rfl (Nat.le_of_ble_eq_true rfl) dX9_voteByDraw_11 ⟨Nat.zero_le _, Nat.zero_le _⟩ (fun H locs hd hS => ?_)
  refine lv_istore_n (lv' := [(1, .int r4), (0, .ref (z + a0))]) hx hb dX9_voteByDraw_14 rfl hl (by decide) rfl (fun ls hl => ?_)
  refine lv_aload_n hx hb dX9_voteByDraw_15 rfl (lv_at hl 1 rfl) ?_
  obtain ⟨b6, hb6, h⟩ := bR_e h
  refine r_getr hx hb hts (fun w h => List.mem_cons_of_mem _ (List.mem_append_left _ (List.mem_append_left _ (List.mem_append_left _ (List.mem_append_right _ (h)))))) hown hK hd hk_a0 hb6 rfl fs_9_7 (hts (.fieldLink RX9 53 "LevelVotes" "draws" "LLevelVotes$Draws;") (List.mem_of_getElem? (i := 1) rfl)) dX9_voteByDraw_16 (fun hq => ?_)
  have hk_b6 : kd b6 = 1 := hq
  refine lv_aload_n hx hb dX9_voteByDraw_19 rfl (lv_at hl 1 rfl) ?_
  obtain ⟨b7, hb7, h⟩ := bR_e h
  refine r_getr hx hb hts (fun w h => List.mem_cons_of_mem _ (List.mem_append_left _ (List.mem_append_left _ (List.mem_append_left _ (List.mem_append_right _ (h)))))) hown hK hd hk_a0 hb7 rfl fs_9_1 (hts (.fieldLink RX9 19 "LevelVotes" "plan" "LLevelVotes$House;") (List.mem_of_getElem? (i := 2) rfl)) dX9_voteByDraw_20 (fun hq => ?_)
  have hk_b7 : kd b7 = 4 := hq
  refine r_geti hx hb hts (fun w h => List.mem_cons_of_mem _ (List.mem_append_left _ (List.mem_append_left _ (List.mem_append_right _ (h))))) hown hK hd hk_b7 rfl 3 fs_4_3 (hts (.fieldLink RX9 109 "LevelVotes$House" "items" "I") (List.mem_of_getElem? (i := 4) rfl)) dX9_voteByDraw_23 ?_
  obtain ⟨r9, μ8, hc10, h⟩ := bC_e h
  refine rc_Vi (rest := []) [.int (μ3.1 b7 3)] ⟨hx, hb, hml, hown, hts⟩ hK hd hS (c_X1_next hk_b6 hc10) (cwV 1 hts gX9_voteByDraw_X1_next rfl rfl rfl hv_X1_next ⟨Nat.le_of_ble_eq_true rfl, Nat.le_of_ble_eq_true rfl⟩) hk_b6 rfl rfl rfl rfl hl.1 rfl (Nat.le_of_ble_eq_true rfl) dX9_voteByDraw_26 ⟨Nat.zero_le _, Nat.zero_le _⟩ (fun H locs hd hS => ?_)
  refine lv_istore_n (lv' := [(2, .int r9), (1, .int r4), (0, .ref (z + a0))]) hx hb dX9_voteByDraw_29 rfl hl (by decide) rfl (fun ls hl => ?_)
  refine lv_aload_n hx hb dX9_voteByDraw_30 rfl (lv_at hl 2 rfl) ?_
  obtain ⟨b11, hb11, h⟩ := bR_e h
  refine r_getr hx hb hts (fun w h => List.mem_cons_of_mem _ (List.mem_append_left _ (List.mem_append_left _ (List.mem_append_left _ (List.mem_append_right _ (h)))))) hown hK hd hk_a0 hb11 rfl fs_9_7 (hts (.fieldLink RX9 53 "LevelVotes" "draws" "LLevelVotes$Draws;") (List.mem_of_getElem? (i := 1) rfl)) dX9_voteByDraw_31 (fun hq => ?_)
  have hk_b11 : kd b11 = 1 := hq
  refine lv_iconst (v := 3) hx hb dX9_voteByDraw_34 (by decide) ?_
  obtain ⟨r13, μ12, hc14, h⟩ := bC_e h
  refine rc_Vi (rest := []) [.int (3 : Int32)] ⟨hx, hb, hml, hown, hts⟩ hK hd hS (c_X1_next hk_b11 hc14) (cwV 1 hts gX9_voteByDraw_X1_next rfl rfl rfl hv_X1_next ⟨Nat.le_of_ble_eq_true rfl, Nat.le_of_ble_eq_true rfl⟩) hk_b11 rfl rfl rfl rfl hl.1 rfl (Nat.le_of_ble_eq_true rfl) dX9_voteByDraw_35 ⟨Nat.zero_le _, Nat.zero_le _⟩ (fun H locs hd hS => ?_)
  refine lv_istore_n (lv' := [(3, .int r13), (2, .int r9), (1, .int r4), (0, .ref (z + a0))]) hx hb dX9_voteByDraw_38 rfl hl (by decide) rfl (fun ls hl => ?_)
  refine lv_aload_n hx hb dX9_voteByDraw_39 rfl (lv_at hl 3 rfl) ?_
  obtain ⟨b15, hb15, h⟩ := bR_e h
  refine r_getr hx hb hts (fun w h => List.mem_cons_of_mem _ (List.mem_append_left _ (List.mem_append_left _ (List.mem_append_left _ (List.mem_append_right _ (h)))))) hown hK hd hk_a0 hb15 rfl fs_9_4 (hts (.fieldLink RX9 33 "LevelVotes" "now" "LLevelVotes$Ballot;") (List.mem_of_getElem? (i := 5) rfl)) dX9_voteByDraw_40 (fun hq => ?_)
  have hk_b15 : kd b15 = 0 := hq
  refine lv_iload_n hx hb dX9_voteByDraw_43 rfl (lv_at hl 2 rfl) ?_
  refine lv_iload_n hx hb dX9_voteByDraw_44 rfl (lv_at hl 1 rfl) ?_
  refine lv_iload_n hx hb dX9_voteByDraw_45 rfl (lv_at hl 0 rfl) ?_
  obtain ⟨μ16, hc18, h⟩ := bV_e h
  refine rc_Vv (rest := []) [.int r4, .int r9, .int r13] ⟨hx, hb, hml, hown, hts⟩ hK hd hS (c_X0_put hk_b15 hc18) (cwV 3 hts gX9_voteByDraw_X0_put rfl rfl rfl hv_X0_put ⟨Nat.le_of_ble_eq_true rfl, Nat.le_of_ble_eq_true rfl⟩) hk_b15 rfl rfl rfl rfl hl.1 rfl (Nat.le_of_ble_eq_true rfl) dX9_voteByDraw_46 ⟨Nat.zero_le _, Nat.zero_le _⟩ (fun H locs hd hS => ?_)
  obtain rfl := sv_e h
  exact rt_v hx hb hr hlk hd hS dX9_voteByDraw_49
theorem hv_X9_drift : yX9_drift.cls = RX9 ∧ yX9_drift.cls ≠ "java/lang/invoke/MethodHandle" ∧ yX9_drift.cls ≠ "java/lang/invoke/VarHandle" ∧ (parseMethodDescriptor yX9_drift.desc).map (fun d => d.parameters.length) = some 1 := by decide +kernel
abbrev HL_X9_drift_56 (l : Launch) (D : va_G) (cA : Nat → ClassId) (z : Nat) (av : List Value) (r : Int32) (μ' : Mm) (p : Program) (e : Env) (s : State) (m : MethodId) (below : List Frame) (meth : Method) (c : Code) (rc : Mm → Nat → Int32 → Int32 → Option (Int32 × Mm)) : Prop := ∀ (μ : Mm) (H : Heap) (locs : List Loc) (ls : Array Slot) (a0 : Nat) (x1 : Int32) (x2 : Int32), kd a0 = 9 → Wd D cA z μ H → va_S (Az z) s.heap H locs → lv_has ls 3 [(0, .ref (z + a0)), (1, .int x1), (2, .int x2)] → rc μ a0 x1 x2 = some (r, μ') → WG l D cA z wsX9_drift 6 127 av (some (.int r)) μ' p e s m below meth c H locs (F0 m 56 ls [])
def f_X9_drift_j86 (μ : Mm) (a0 : Nat) : Option (Int32 × Mm) := bC (f_X9_standNow μ a0) (fun r2 μ1 => some (r2, μ1))
set_option maxRecDepth 100000 in
theorem k_f_X9_drift_j86 {l : Launch} {D : va_G} {cA : Nat → ClassId} {z : Nat} {av : List Value} {p : Program} {e : Env} {s : State} {m : MethodId} {below : List Frame} {meth : Method} {c : Code} {r : Int32} {μ' : Mm} (X : Fx D cA RX9 wsX9_drift cX9_drift 3 (some .int) p s m av.toArray meth c) {μ : Mm} {a0 : Nat} (hk_a0 : kd a0 = 9) {H : Heap} {locs : List Loc} {ls : Array Slot} (hd : Wd D cA z μ H) (hS : va_S (Az z) s.heap H locs) (hl : lv_has ls 3 [(0, .ref (z + a0))]) (h : f_X9_drift_j86 μ a0 = some (r, μ')) : WG l D cA z wsX9_drift 6 127 av (some (.int r)) μ' p e s m below meth c H locs (F0 m 86 ls []) := by
  obtain ⟨hx, hb, hr, hlk, hml, hown, hts, hK⟩ := id X
  unfold f_X9_drift_j86 at h
  refine lv_aload_n hx hb dX9_drift_86 rfl (lv_at hl 0 rfl) ?_
  obtain ⟨r2, μ1, hc3, h⟩ := bC_e h
  refine rc_Vi (rest := []) [] ⟨hx, hb, hml, hown, hts⟩ hK hd hS (c_X9_standNow hk_a0 hc3) (cwV 0 hts gX9_drift_X9_standNow rfl rfl rfl hv_X9_standNow ⟨Nat.le_of_ble_eq_true rfl, Nat.le_of_ble_eq_true rfl⟩) hk_a0 rfl rfl rfl rfl hl.1 rfl (Nat.le_of_ble_eq_true rfl) dX9_drift_87 ⟨Nat.zero_le _, Nat.zero_le _⟩ (fun H locs hd hS => ?_)
  obtain ⟨rfl, rfl⟩ := so_e h
  exact rt_i hx hb hr hlk hd hS dX9_drift_90
def f_X9_drift_L56b (rc56 : Mm → Nat → Int32 → Int32 → Option (Int32 × Mm)) (μ : Mm) (a0 : Nat) (x1 : Int32) (x2 : Int32) : Option (Int32 × Mm) := if x1 ≤ x2 then (f_X9_drift_j86 μ a0) else (bR (μ.2 a0 1) (fun b2 => bC (f_X4_hasVotes μ b2) (fun r4 μ3 => if r4 = 0 then (f_X9_drift_j86 μ3 a0) else (bV (f_X9_voteByDraw μ3 a0) (fun μ7 => bC (f_X9_holdSession μ7 a0) (fun r11 μ10 => rc56 μ10 a0 x1 (x2 + (1 : Int32))))))))
set_option maxRecDepth 100000 in
theorem k_f_X9_drift_L56b {l : Launch} {D : va_G} {cA : Nat → ClassId} {z : Nat} {av : List Value} {p : Program} {e : Env} {s : State} {m : MethodId} {below : List Frame} {meth : Method} {c : Code} {r : Int32} {μ' : Mm} (X : Fx D cA RX9 wsX9_drift cX9_drift 3 (some .int) p s m av.toArray meth c) {rc56 : Mm → Nat → Int32 → Int32 → Option (Int32 × Mm)} (hrc56 : HL_X9_drift_56 l D cA z av r μ' p e s m below meth c rc56) {μ : Mm} {a0 : Nat} {x1 : Int32} {x2 : Int32} (hk_a0 : kd a0 = 9) {H : Heap} {locs : List Loc} {ls : Array Slot} (hd : Wd D cA z μ H) (hS : va_S (Az z) s.heap H locs) (hl : lv_has ls 3 [(0, .ref (z + a0)), (1, .int x1), (2, .int x2)]) (h : f_X9_drift_L56b rc56 μ a0 x1 x2 = some (r, μ')) : WG l D cA z wsX9_drift 6 127 av (some (.int r)) μ' p e s m below meth c H locs (F0 m 56 ls []) := by
  obtain ⟨hx, hb, hr, hlk, hml, hown, hts, hK⟩ := id X
  unfold f_X9_drift_L56b at h
  refine lv_iload_n hx hb dX9_drift_56 rfl (lv_at hl 2 rfl) ?_
  refine lv_iload_n hx hb dX9_drift_57 rfl (lv_at hl 1 rfl) ?_
  refine lv_icmp_ge (tgt := 86) hx hb dX9_drift_58 (by decide) (fun q1 => ?_) (fun q1 => ?_)
  · have h := if_y q1 h
    exact k_f_X9_drift_j86 X hk_a0 hd hS (lv_sub hl [0] rfl) h
  · have h := if_n q1 h
    refine lv_aload_n hx hb dX9_drift_61 rfl (lv_at hl 0 rfl) ?_
    obtain ⟨b2, hb2, h⟩ := bR_e h
    refine r_getr hx hb hts (fun w h => List.mem_cons_of_mem _ (List.mem_append_left _ (List.mem_append_left _ (List.mem_append_left _ (List.mem_append_left _ (List.mem_append_left _ (List.mem_append_right _ (h)))))))) hown hK hd hk_a0 hb2 rfl fs_9_1 (hts (.fieldLink RX9 19 "LevelVotes" "plan" "LLevelVotes$House;") (List.mem_of_getElem? (i := 2) rfl)) dX9_drift_62 (fun hq => ?_)
    have hk_b2 : kd b2 = 4 := hq
    obtain ⟨r4, μ3, hc5, h⟩ := bC_e h
    refine rc_Vi (rest := []) [] ⟨hx, hb, hml, hown, hts⟩ hK hd hS (c_X4_hasVotes hk_b2 hc5) (cwV 0 hts gX9_drift_X4_hasVotes rfl rfl rfl hv_X4_hasVotes ⟨Nat.le_of_ble_eq_true rfl, Nat.le_of_ble_eq_true rfl⟩) hk_b2 rfl rfl rfl rfl hl.1 rfl (Nat.le_of_ble_eq_true rfl) dX9_drift_65 ⟨Nat.zero_le _, Nat.zero_le _⟩ (fun H locs hd hS => ?_)
    refine lv_if_eq (tgt := 86) hx hb dX9_drift_68 (by decide) (fun q6 => ?_) (fun q6 => ?_)
    · have h := if_y q6 h
      exact k_f_X9_drift_j86 X hk_a0 hd hS (lv_sub hl [0] rfl) h
    · have h := if_n q6 h
      refine lv_aload_n hx hb dX9_drift_71 rfl (lv_at hl 0 rfl) ?_
      obtain ⟨μ7, hc9, h⟩ := bV_e h
      refine rc_Vv (rest := []) [] ⟨hx, hb, hml, hown, hts⟩ hK hd hS (c_X9_voteByDraw hk_a0 hc9) (cwV 0 hts gX9_drift_X9_voteByDraw rfl rfl rfl hv_X9_voteByDraw ⟨Nat.le_of_ble_eq_true rfl, Nat.le_of_ble_eq_true rfl⟩) hk_a0 rfl rfl rfl rfl hl.1 rfl (Nat.le_of_ble_eq_true rfl) dX9_drift_72 ⟨Nat.zero_le _, Nat.zero_le _⟩ (fun H locs hd hS => ?_)
      refine lv_aload_n hx hb dX9_drift_75 rfl (lv_at hl 0 rfl) ?_
      obtain ⟨r11, μ10, hc12, h⟩ := bC_e h
      refine rc_Vi (rest := []) [] ⟨hx, hb, hml, hown, hts⟩ hK hd hS (c_X9_holdSession hk_a0 hc12) (cwV 0 hts gX9_drift_X9_holdSession rfl rfl rfl hv_X9_holdSession ⟨Nat.le_of_ble_eq_true rfl, Nat.le_of_ble_eq_true rfl⟩) hk_a0 rfl rfl rfl rfl hl.1 rfl (Nat.le_of_ble_eq_true rfl) dX9_drift_76 ⟨Nat.zero_le _, Nat.zero_le _⟩ (fun H locs hd hS => ?_)
      refine lv_pop hx hb dX9_drift_79 rfl ?_
      refine lv_iinc (v := x2 + (1 : Int32)) (lv' := [(2, .int (x2 + (1 : Int32))), (0, .ref (z + a0)), (1, .int x1)]) hx hb dX9_drift_80 hl (k := 2) rfl rfl (by decide) rfl (fun ls hl => ?_)
      refine lv_goto (tgt := 56) hx hb dX9_drift_83 (by decide) ?_
      exact hrc56 _ _ _ _ _ _ _ hk_a0 hd hS (lv_sub hl [1, 2, 0] rfl) h
def f_X9_drift_L56 : Nat → Mm → Nat → Int32 → Int32 → Option (Int32 × Mm)
  | 0 => fun _ _ _ _ => none
  | n + 1 => fun μ a0 x1 x2 => f_X9_drift_L56b (f_X9_drift_L56 n) μ a0 x1 x2
theorem k_f_X9_drift_L56 {l : Launch} {D : va_G} {cA : Nat → ClassId} {z : Nat} {av : List Value} {p : Program} {e : Env} {s : State} {m : MethodId} {below : List Frame} {meth : Method} {c : Code} {r : Int32} {μ' : Mm} (X : Fx D cA RX9 wsX9_drift cX9_drift 3 (some .int) p s m av.toArray meth c) (n : Nat) : HL_X9_drift_56 l D cA z av r μ' p e s m below meth c (f_X9_drift_L56 n) := by
  induction n with
  | zero => intro _ _ _ _ _ _ _ _ _ _ _ h; have h2 : (none : Option _) = some _ := h; cases h2
  | succ n ih => intro μ H locs ls a0 x1 x2 hk_a0 hd hS hl h; exact k_f_X9_drift_L56b X ih hk_a0 hd hS hl h
def f_X9_drift (μ : Mm) (a0 : Nat) (x1 : Int32) : Option (Int32 × Mm) := if x1 < (1 : Int32) then (some ((-1000000002 : Int32), μ)) else (if x1 ≤ (60 : Int32) then (bR (μ.2 a0 1) (fun b3 => bC (f_X4_isThere μ b3) (fun r5 μ4 => if r5 = 0 then (some ((-1000000003 : Int32), μ4)) else (bR (μ4.2 a0 4) (fun b8 => if (μ4.1 b8 2) ≤ (9000 : Int32) then (bR (μ4.2 a0 5) (fun b10 => bR (μ4.2 a0 4) (fun b11 => bV (f_X3_remember μ4 b10 b11) (fun μ12 => f_X9_drift_L56 FU μ12 a0 x1 (0 : Int32))))) else (some ((-1000000004 : Int32), μ4))))))) else (some ((-1000000002 : Int32), μ)))
set_option maxRecDepth 100000 in
theorem c_X9_drift {l : Launch} {D : va_G} {cA : Nat → ClassId} {z : Nat} {μ : Mm} {a0 : Nat} {x1 : Int32} {r : Int32} {μ' : Mm} (hk_a0 : kd a0 = 9) (h : f_X9_drift μ a0 x1 = some (r, μ')) : Ct l D cA z yX9_drift wsX9_drift 6 127 [.ref (z + a0), .int x1] μ (some (.int r)) μ' := by
  refine m_in (cc := cX9_drift) (maxL := 3) (ret := (some .int)) (own := RX9) (by decide) rfl rfl (Nat.le_of_ble_eq_true rfl) ?_
  intro p e s m below meth c ls X hd hS hl
  obtain ⟨hx, hb, hr, hlk, hml, hown, hts, hK⟩ := id X
  have hl : lv_has ls 3 [(0, .ref (z + a0)), (1, .int x1)] := hl
  unfold f_X9_drift at h
  refine lv_iload_n hx hb dX9_drift_0 rfl (lv_at hl 1 rfl) ?_
  refine lv_iconst (v := 1) hx hb dX9_drift_1 (by decide) ?_
  refine lv_icmp_lt (tgt := 11) hx hb dX9_drift_2 (by decide) (fun q1 => ?_) (fun q1 => ?_)
  · have h := if_y q1 h
    refine lv_ldc (v := -1000000002) hx hb hown (hts (.constant RX9 86 (-1000000002)) (List.mem_of_getElem? (i := 1) rfl)) dX9_drift_11 ?_
    obtain ⟨rfl, rfl⟩ := so_e h
    exact rt_i hx hb hr hlk hd hS dX9_drift_13
  · have h := if_n q1 h
    refine lv_iload_n hx hb dX9_drift_5 rfl (lv_at hl 1 rfl) ?_
    refine lv_bipush (v := 60) hx hb dX9_drift_6 (by decide) ?_
    refine lv_icmp_le (tgt := 14) hx hb dX9_drift_8 (by decide) (fun q2 => ?_) (fun q2 => ?_)
    · have h := if_y q2 h
      refine lv_aload_n hx hb dX9_drift_14 rfl (lv_at hl 0 rfl) ?_
      obtain ⟨b3, hb3, h⟩ := bR_e h
      refine r_getr hx hb hts (fun w h => List.mem_cons_of_mem _ (List.mem_append_left _ (List.mem_append_left _ (List.mem_append_left _ (List.mem_append_left _ (List.mem_append_left _ (List.mem_append_right _ (h)))))))) hown hK hd hk_a0 hb3 rfl fs_9_1 (hts (.fieldLink RX9 19 "LevelVotes" "plan" "LLevelVotes$House;") (List.mem_of_getElem? (i := 2) rfl)) dX9_drift_15 (fun hq => ?_)
      have hk_b3 : kd b3 = 4 := hq
      obtain ⟨r5, μ4, hc6, h⟩ := bC_e h
      refine rc_Vi (rest := []) [] ⟨hx, hb, hml, hown, hts⟩ hK hd hS (c_X4_isThere hk_b3 hc6) (cwV 0 hts gX9_drift_X4_isThere rfl rfl rfl hv_X4_isThere ⟨Nat.le_of_ble_eq_true rfl, Nat.le_of_ble_eq_true rfl⟩) hk_b3 rfl rfl rfl rfl hl.1 rfl (Nat.le_of_ble_eq_true rfl) dX9_drift_18 ⟨Nat.zero_le _, Nat.zero_le _⟩ (fun H locs hd hS => ?_)
      refine lv_if_ne (tgt := 27) hx hb dX9_drift_21 (by decide) (fun q7 => ?_) (fun q7 => ?_)
      · have h := if_n q7 h
        refine lv_aload_n hx hb dX9_drift_27 rfl (lv_at hl 0 rfl) ?_
        obtain ⟨b8, hb8, h⟩ := bR_e h
        refine r_getr hx hb hts (fun w h => List.mem_cons_of_mem _ (List.mem_append_left _ (List.mem_append_left _ (List.mem_append_left _ (List.mem_append_left _ (List.mem_append_left _ (List.mem_append_right _ (h)))))))) hown hK hd hk_a0 hb8 rfl fs_9_4 (hts (.fieldLink RX9 33 "LevelVotes" "now" "LLevelVotes$Ballot;") (List.mem_of_getElem? (i := 4) rfl)) dX9_drift_28 (fun hq => ?_)
        have hk_b8 : kd b8 = 0 := hq
        refine r_geti hx hb hts (fun w h => List.mem_cons_of_mem _ (List.mem_append_left _ (List.mem_append_left _ (List.mem_append_left _ (List.mem_append_left _ (List.mem_append_right _ (h))))))) hown hK hd hk_b8 rfl 2 fs_0_2 (hts (.fieldLink RX9 121 "LevelVotes$Ballot" "sessions" "I") (List.mem_of_getElem? (i := 5) rfl)) dX9_drift_31 ?_
        refine lv_sipush (v := 9000) hx hb dX9_drift_34 (by decide) ?_
        refine lv_icmp_le (tgt := 43) hx hb dX9_drift_37 (by decide) (fun q9 => ?_) (fun q9 => ?_)
        · have h := if_y q9 h
          refine lv_aload_n hx hb dX9_drift_43 rfl (lv_at hl 0 rfl) ?_
          obtain ⟨b10, hb10, h⟩ := bR_e h
          refine r_getr hx hb hts (fun w h => List.mem_cons_of_mem _ (List.mem_append_left _ (List.mem_append_left _ (List.mem_append_left _ (List.mem_append_left _ (List.mem_append_left _ (List.mem_append_right _ (h)))))))) hown hK hd hk_a0 hb10 rfl fs_9_5 (hts (.fieldLink RX9 40 "LevelVotes" "history" "LLevelVotes$History;") (List.mem_of_getElem? (i := 7) rfl)) dX9_drift_44 (fun hq => ?_)
          have hk_b10 : kd b10 = 3 := hq
          refine lv_aload_n hx hb dX9_drift_47 rfl (lv_at hl 0 rfl) ?_
          obtain ⟨b11, hb11, h⟩ := bR_e h
          refine r_getr hx hb hts (fun w h => List.mem_cons_of_mem _ (List.mem_append_left _ (List.mem_append_left _ (List.mem_append_left _ (List.mem_append_left _ (List.mem_append_left _ (List.mem_append_right _ (h)))))))) hown hK hd hk_a0 hb11 rfl fs_9_4 (hts (.fieldLink RX9 33 "LevelVotes" "now" "LLevelVotes$Ballot;") (List.mem_of_getElem? (i := 4) rfl)) dX9_drift_48 (fun hq => ?_)
          have hk_b11 : kd b11 = 0 := hq
          obtain ⟨μ12, hc14, h⟩ := bV_e h
          refine rc_Vv (rest := []) [.ref (z + b11)] ⟨hx, hb, hml, hown, hts⟩ hK hd hS (c_X3_remember hk_b10 hk_b11 hc14) (cwV 1 hts gX9_drift_X3_remember rfl rfl rfl hv_X3_remember ⟨Nat.le_of_ble_eq_true rfl, Nat.le_of_ble_eq_true rfl⟩) hk_b10 rfl rfl rfl rfl hl.1 rfl (Nat.le_of_ble_eq_true rfl) dX9_drift_51 ⟨Nat.zero_le _, Nat.zero_le _⟩ (fun H locs hd hS => ?_)
          refine lv_iconst (v := 0) hx hb dX9_drift_54 (by decide) ?_
          refine lv_istore_n (lv' := [(2, .int (0 : Int32)), (0, .ref (z + a0)), (1, .int x1)]) hx hb dX9_drift_55 rfl hl (by decide) rfl (fun ls hl => ?_)
          exact k_f_X9_drift_L56 X FU _ _ _ _ _ _ _ hk_a0 hd hS (lv_sub hl [1, 2, 0] rfl) h
        · have h := if_n q9 h
          refine lv_ldc (v := -1000000004) hx hb hown (hts (.constant RX9 91 (-1000000004)) (List.mem_of_getElem? (i := 6) rfl)) dX9_drift_40 ?_
          obtain ⟨rfl, rfl⟩ := so_e h
          exact rt_i hx hb hr hlk hd hS dX9_drift_42
      · have h := if_y q7 h
        refine lv_ldc (v := -1000000003) hx hb hown (hts (.constant RX9 203 (-1000000003)) (List.mem_of_getElem? (i := 3) rfl)) dX9_drift_24 ?_
        obtain ⟨rfl, rfl⟩ := so_e h
        exact rt_i hx hb hr hlk hd hS dX9_drift_26
    · have h := if_n q2 h
      refine lv_ldc (v := -1000000002) hx hb hown (hts (.constant RX9 86 (-1000000002)) (List.mem_of_getElem? (i := 1) rfl)) dX9_drift_11 ?_
      obtain ⟨rfl, rfl⟩ := so_e h
      exact rt_i hx hb hr hlk hd hS dX9_drift_13
theorem hv_X9_undo : yX9_undo.cls = RX9 ∧ yX9_undo.cls ≠ "java/lang/invoke/MethodHandle" ∧ yX9_undo.cls ≠ "java/lang/invoke/VarHandle" ∧ (parseMethodDescriptor yX9_undo.desc).map (fun d => d.parameters.length) = some 0 := by decide +kernel
def f_X9_undo (μ : Mm) (a0 : Nat) : Option (Int32 × Mm) := bR (μ.2 a0 5) (fun b1 => if 0 < (μ.1 b1 1) then (bR (μ.2 a0 5) (fun b3 => bR (μ.2 a0 4) (fun b4 => bV (f_X3_takeBack μ b3 b4) (fun μ5 => bR (μ5.2 a0 5) (fun b8 => some (μ5.1 b8 1, μ5)))))) else (some ((-1000000003 : Int32), μ)))
set_option maxRecDepth 100000 in
theorem c_X9_undo {l : Launch} {D : va_G} {cA : Nat → ClassId} {z : Nat} {μ : Mm} {a0 : Nat} {r : Int32} {μ' : Mm} (hk_a0 : kd a0 = 9) (h : f_X9_undo μ a0 = some (r, μ')) : Ct l D cA z yX9_undo wsX9_undo 3 66 [.ref (z + a0)] μ (some (.int r)) μ' := by
  refine m_in (cc := cX9_undo) (maxL := 1) (ret := (some .int)) (own := RX9) (by decide) rfl rfl (Nat.le_of_ble_eq_true rfl) ?_
  intro p e s m below meth c ls X hd hS hl
  obtain ⟨hx, hb, hr, hlk, hml, hown, hts, hK⟩ := id X
  have hl : lv_has ls 1 [(0, .ref (z + a0))] := hl
  unfold f_X9_undo at h
  refine lv_aload_n hx hb dX9_undo_0 rfl (lv_at hl 0 rfl) ?_
  obtain ⟨b1, hb1, h⟩ := bR_e h
  refine r_getr hx hb hts (fun w h => List.mem_cons_of_mem _ (List.mem_append_left _ (List.mem_append_left _ (List.mem_append_right _ (h))))) hown hK hd hk_a0 hb1 rfl fs_9_5 (hts (.fieldLink RX9 40 "LevelVotes" "history" "LLevelVotes$History;") (List.mem_of_getElem? (i := 1) rfl)) dX9_undo_1 (fun hq => ?_)
  have hk_b1 : kd b1 = 3 := hq
  refine r_geti hx hb hts (fun w h => List.mem_cons_of_mem _ (List.mem_append_left _ (List.mem_append_right _ (h)))) hown hK hd hk_b1 rfl 1 fs_3_1 (hts (.fieldLink RX9 143 "LevelVotes$History" "count" "I") (List.mem_of_getElem? (i := 2) rfl)) dX9_undo_4 ?_
  refine lv_if_gt (tgt := 13) hx hb dX9_undo_7 (by decide) (fun q2 => ?_) (fun q2 => ?_)
  · have h := if_y q2 h
    refine lv_aload_n hx hb dX9_undo_13 rfl (lv_at hl 0 rfl) ?_
    obtain ⟨b3, hb3, h⟩ := bR_e h
    refine r_getr hx hb hts (fun w h => List.mem_cons_of_mem _ (List.mem_append_left _ (List.mem_append_left _ (List.mem_append_right _ (h))))) hown hK hd hk_a0 hb3 rfl fs_9_5 (hts (.fieldLink RX9 40 "LevelVotes" "history" "LLevelVotes$History;") (List.mem_of_getElem? (i := 1) rfl)) dX9_undo_14 (fun hq => ?_)
    have hk_b3 : kd b3 = 3 := hq
    refine lv_aload_n hx hb dX9_undo_17 rfl (lv_at hl 0 rfl) ?_
    obtain ⟨b4, hb4, h⟩ := bR_e h
    refine r_getr hx hb hts (fun w h => List.mem_cons_of_mem _ (List.mem_append_left _ (List.mem_append_left _ (List.mem_append_right _ (h))))) hown hK hd hk_a0 hb4 rfl fs_9_4 (hts (.fieldLink RX9 33 "LevelVotes" "now" "LLevelVotes$Ballot;") (List.mem_of_getElem? (i := 4) rfl)) dX9_undo_18 (fun hq => ?_)
    have hk_b4 : kd b4 = 0 := hq
    obtain ⟨μ5, hc7, h⟩ := bV_e h
    refine rc_Vv (rest := []) [.ref (z + b4)] ⟨hx, hb, hml, hown, hts⟩ hK hd hS (c_X3_takeBack hk_b3 hk_b4 hc7) (cwV 1 hts gX9_undo_X3_takeBack rfl rfl rfl hv_X3_takeBack ⟨Nat.le_of_ble_eq_true rfl, Nat.le_of_ble_eq_true rfl⟩) hk_b3 rfl rfl rfl rfl hl.1 rfl (Nat.le_of_ble_eq_true rfl) dX9_undo_21 ⟨Nat.zero_le _, Nat.zero_le _⟩ (fun H locs hd hS => ?_)
    refine lv_aload_n hx hb dX9_undo_24 rfl (lv_at hl 0 rfl) ?_
    obtain ⟨b8, hb8, h⟩ := bR_e h
    refine r_getr hx hb hts (fun w h => List.mem_cons_of_mem _ (List.mem_append_left _ (List.mem_append_left _ (List.mem_append_right _ (h))))) hown hK hd hk_a0 hb8 rfl fs_9_5 (hts (.fieldLink RX9 40 "LevelVotes" "history" "LLevelVotes$History;") (List.mem_of_getElem? (i := 1) rfl)) dX9_undo_25 (fun hq => ?_)
    have hk_b8 : kd b8 = 3 := hq
    refine r_geti hx hb hts (fun w h => List.mem_cons_of_mem _ (List.mem_append_left _ (List.mem_append_right _ (h)))) hown hK hd hk_b8 rfl 1 fs_3_1 (hts (.fieldLink RX9 143 "LevelVotes$History" "count" "I") (List.mem_of_getElem? (i := 2) rfl)) dX9_undo_28 ?_
    obtain ⟨rfl, rfl⟩ := so_e h
    exact rt_i hx hb hr hlk hd hS dX9_undo_31
  · have h := if_n q2 h
    refine lv_ldc (v := -1000000003) hx hb hown (hts (.constant RX9 203 (-1000000003)) (List.mem_of_getElem? (i := 3) rfl)) dX9_undo_10 ?_
    obtain ⟨rfl, rfl⟩ := so_e h
    exact rt_i hx hb hr hlk hd hS dX9_undo_12
theorem hv_X9_rests : yX9_rests.cls = RX9 ∧ yX9_rests.cls ≠ "java/lang/invoke/MethodHandle" ∧ yX9_rests.cls ≠ "java/lang/invoke/VarHandle" ∧ (parseMethodDescriptor yX9_rests.desc).map (fun d => d.parameters.length) = some 2 := by decide +kernel
def f_X9_rests (μ : Mm) (a0 : Nat) (x1 : Int32) (x2 : Int32) : Option (Int32 × Mm) := bR (μ.2 a0 1) (fun b1 => bC (f_X4_hasCell μ b1 x1) (fun r3 μ2 => if r3 = 0 then (some ((-1000000001 : Int32), μ2)) else (if x2 < 0 then (some ((-1000000002 : Int32), μ2)) else (if x2 ≤ (1 : Int32) then (bV (f_X9_shapeNow μ2 a0) (fun μ8 => if x2 = 0 then (bR (μ8.2 a0 10) (fun b16 => bC (f_X2_restFrom μ8 b16 x1) (fun r18 μ17 => some (r18, μ17)))) else (bR (μ8.2 a0 10) (fun b12 => bC (f_X2_rollsFrom μ8 b12 x1) (fun r14 μ13 => some (r14, μ13)))))) else (some ((-1000000002 : Int32), μ2))))))
set_option maxRecDepth 100000 in
theorem c_X9_rests {l : Launch} {D : va_G} {cA : Nat → ClassId} {z : Nat} {μ : Mm} {a0 : Nat} {x1 : Int32} {x2 : Int32} {r : Int32} {μ' : Mm} (hk_a0 : kd a0 = 9) (h : f_X9_rests μ a0 x1 x2 = some (r, μ')) : Ct l D cA z yX9_rests wsX9_rests 5 106 [.ref (z + a0), .int x1, .int x2] μ (some (.int r)) μ' := by
  refine m_in (cc := cX9_rests) (maxL := 3) (ret := (some .int)) (own := RX9) (by decide) rfl rfl (Nat.le_of_ble_eq_true rfl) ?_
  intro p e s m below meth c ls X hd hS hl
  obtain ⟨hx, hb, hr, hlk, hml, hown, hts, hK⟩ := id X
  have hl : lv_has ls 3 [(0, .ref (z + a0)), (1, .int x1), (2, .int x2)] := hl
  unfold f_X9_rests at h
  refine lv_aload_n hx hb dX9_rests_0 rfl (lv_at hl 0 rfl) ?_
  obtain ⟨b1, hb1, h⟩ := bR_e h
  refine r_getr hx hb hts (fun w h => List.mem_cons_of_mem _ (List.mem_append_left _ (List.mem_append_left _ (List.mem_append_left _ (List.mem_append_left _ (List.mem_append_right _ (h))))))) hown hK hd hk_a0 hb1 rfl fs_9_1 (hts (.fieldLink RX9 19 "LevelVotes" "plan" "LLevelVotes$House;") (List.mem_of_getElem? (i := 1) rfl)) dX9_rests_1 (fun hq => ?_)
  have hk_b1 : kd b1 = 4 := hq
  refine lv_iload_n hx hb dX9_rests_4 rfl (lv_at hl 1 rfl) ?_
  obtain ⟨r3, μ2, hc4, h⟩ := bC_e h
  refine rc_Vi (rest := []) [.int x1] ⟨hx, hb, hml, hown, hts⟩ hK hd hS (c_X4_hasCell hk_b1 hc4) (cwV 1 hts gX9_rests_X4_hasCell rfl rfl rfl hv_X4_hasCell ⟨Nat.le_of_ble_eq_true rfl, Nat.le_of_ble_eq_true rfl⟩) hk_b1 rfl rfl rfl rfl hl.1 rfl (Nat.le_of_ble_eq_true rfl) dX9_rests_5 ⟨Nat.zero_le _, Nat.zero_le _⟩ (fun H locs hd hS => ?_)
  refine lv_if_ne (tgt := 14) hx hb dX9_rests_8 (by decide) (fun q5 => ?_) (fun q5 => ?_)
  · have h := if_n q5 h
    refine lv_iload_n hx hb dX9_rests_14 rfl (lv_at hl 2 rfl) ?_
    refine lv_if_lt (tgt := 23) hx hb dX9_rests_15 (by decide) (fun q6 => ?_) (fun q6 => ?_)
    · have h := if_y q6 h
      refine lv_ldc (v := -1000000002) hx hb hown (hts (.constant RX9 86 (-1000000002)) (List.mem_of_getElem? (i := 3) rfl)) dX9_rests_23 ?_
      obtain ⟨rfl, rfl⟩ := so_e h
      exact rt_i hx hb hr hlk hd hS dX9_rests_25
    · have h := if_n q6 h
      refine lv_iload_n hx hb dX9_rests_18 rfl (lv_at hl 2 rfl) ?_
      refine lv_iconst (v := 1) hx hb dX9_rests_19 (by decide) ?_
      refine lv_icmp_le (tgt := 26) hx hb dX9_rests_20 (by decide) (fun q7 => ?_) (fun q7 => ?_)
      · have h := if_y q7 h
        refine lv_aload_n hx hb dX9_rests_26 rfl (lv_at hl 0 rfl) ?_
        obtain ⟨μ8, hc10, h⟩ := bV_e h
        refine rc_Vv (rest := []) [] ⟨hx, hb, hml, hown, hts⟩ hK hd hS (c_X9_shapeNow hk_a0 hc10) (cwV 0 hts gX9_rests_X9_shapeNow rfl rfl rfl hv_X9_shapeNow ⟨Nat.le_of_ble_eq_true rfl, Nat.le_of_ble_eq_true rfl⟩) hk_a0 rfl rfl rfl rfl hl.1 rfl (Nat.le_of_ble_eq_true rfl) dX9_rests_27 ⟨Nat.zero_le _, Nat.zero_le _⟩ (fun H locs hd hS => ?_)
        refine lv_iload_n hx hb dX9_rests_30 rfl (lv_at hl 2 rfl) ?_
        refine lv_if_ne (tgt := 45) hx hb dX9_rests_31 (by decide) (fun q11 => ?_) (fun q11 => ?_)
        · have h := if_n q11 h
          refine lv_aload_n hx hb dX9_rests_45 rfl (lv_at hl 0 rfl) ?_
          obtain ⟨b12, hb12, h⟩ := bR_e h
          refine r_getr hx hb hts (fun w h => List.mem_cons_of_mem _ (List.mem_append_left _ (List.mem_append_left _ (List.mem_append_left _ (List.mem_append_left _ (List.mem_append_right _ (h))))))) hown hK hd hk_a0 hb12 rfl fs_9_10 (hts (.fieldLink RX9 74 "LevelVotes" "hill" "LLevelVotes$Hill;") (List.mem_of_getElem? (i := 4) rfl)) dX9_rests_46 (fun hq => ?_)
          have hk_b12 : kd b12 = 2 := hq
          refine lv_iload_n hx hb dX9_rests_49 rfl (lv_at hl 1 rfl) ?_
          obtain ⟨r14, μ13, hc15, h⟩ := bC_e h
          refine rc_Vi (rest := []) [.int x1] ⟨hx, hb, hml, hown, hts⟩ hK hd hS (c_X2_rollsFrom hk_b12 hc15) (cwV 1 hts gX9_rests_X2_rollsFrom rfl rfl rfl hv_X2_rollsFrom ⟨Nat.le_of_ble_eq_true rfl, Nat.le_of_ble_eq_true rfl⟩) hk_b12 rfl rfl rfl rfl hl.1 rfl (Nat.le_of_ble_eq_true rfl) dX9_rests_50 ⟨Nat.zero_le _, Nat.zero_le _⟩ (fun H locs hd hS => ?_)
          obtain ⟨rfl, rfl⟩ := so_e h
          exact rt_i hx hb hr hlk hd hS dX9_rests_53
        · have h := if_y q11 h
          refine lv_aload_n hx hb dX9_rests_34 rfl (lv_at hl 0 rfl) ?_
          obtain ⟨b16, hb16, h⟩ := bR_e h
          refine r_getr hx hb hts (fun w h => List.mem_cons_of_mem _ (List.mem_append_left _ (List.mem_append_left _ (List.mem_append_left _ (List.mem_append_left _ (List.mem_append_right _ (h))))))) hown hK hd hk_a0 hb16 rfl fs_9_10 (hts (.fieldLink RX9 74 "LevelVotes" "hill" "LLevelVotes$Hill;") (List.mem_of_getElem? (i := 4) rfl)) dX9_rests_35 (fun hq => ?_)
          have hk_b16 : kd b16 = 2 := hq
          refine lv_iload_n hx hb dX9_rests_38 rfl (lv_at hl 1 rfl) ?_
          obtain ⟨r18, μ17, hc19, h⟩ := bC_e h
          refine rc_Vi (rest := []) [.int x1] ⟨hx, hb, hml, hown, hts⟩ hK hd hS (c_X2_restFrom hk_b16 hc19) (cwV 1 hts gX9_rests_X2_restFrom rfl rfl rfl hv_X2_restFrom ⟨Nat.le_of_ble_eq_true rfl, Nat.le_of_ble_eq_true rfl⟩) hk_b16 rfl rfl rfl rfl hl.1 rfl (Nat.le_of_ble_eq_true rfl) dX9_rests_39 ⟨Nat.zero_le _, Nat.zero_le _⟩ (fun H locs hd hS => ?_)
          refine lv_goto (tgt := 53) hx hb dX9_rests_42 (by decide) ?_
          obtain ⟨rfl, rfl⟩ := so_e h
          exact rt_i hx hb hr hlk hd hS dX9_rests_53
      · have h := if_n q7 h
        refine lv_ldc (v := -1000000002) hx hb hown (hts (.constant RX9 86 (-1000000002)) (List.mem_of_getElem? (i := 3) rfl)) dX9_rests_23 ?_
        obtain ⟨rfl, rfl⟩ := so_e h
        exact rt_i hx hb hr hlk hd hS dX9_rests_25
  · have h := if_y q5 h
    refine lv_ldc (v := -1000000001) hx hb hown (hts (.constant RX9 150 (-1000000001)) (List.mem_of_getElem? (i := 2) rfl)) dX9_rests_11 ?_
    obtain ⟨rfl, rfl⟩ := so_e h
    exact rt_i hx hb hr hlk hd hS dX9_rests_13
theorem hv_X9_pool : yX9_pool.cls = RX9 ∧ yX9_pool.cls ≠ "java/lang/invoke/MethodHandle" ∧ yX9_pool.cls ≠ "java/lang/invoke/VarHandle" ∧ (parseMethodDescriptor yX9_pool.desc).map (fun d => d.parameters.length) = some 1 := by decide +kernel
abbrev HL_X9_pool_22 (l : Launch) (D : va_G) (cA : Nat → ClassId) (z : Nat) (av : List Value) (r : Int32) (μ' : Mm) (p : Program) (e : Env) (s : State) (m : MethodId) (below : List Frame) (meth : Method) (c : Code) (rc : Mm → Nat → Int32 → Int32 → Int32 → Option (Int32 × Mm)) : Prop := ∀ (μ : Mm) (H : Heap) (locs : List Loc) (ls : Array Slot) (a0 : Nat) (x1 : Int32) (x2 : Int32) (x3 : Int32), kd a0 = 9 → Wd D cA z μ H → va_S (Az z) s.heap H locs → lv_has ls 4 [(0, .ref (z + a0)), (1, .int x1), (2, .int x2), (3, .int x3)] → rc μ a0 x1 x2 x3 = some (r, μ') → WG l D cA z wsX9_pool 5 106 av (some (.int r)) μ' p e s m below meth c H locs (F0 m 22 ls [])
def f_X9_pool_j48 (rc22 : Mm → Nat → Int32 → Int32 → Int32 → Option (Int32 × Mm)) (μ : Mm) (a0 : Nat) (x1 : Int32) (x2 : Int32) (x3 : Int32) : Option (Int32 × Mm) := rc22 μ a0 x1 x2 (x3 + (1 : Int32))
set_option maxRecDepth 100000 in
theorem k_f_X9_pool_j48 {l : Launch} {D : va_G} {cA : Nat → ClassId} {z : Nat} {av : List Value} {p : Program} {e : Env} {s : State} {m : MethodId} {below : List Frame} {meth : Method} {c : Code} {r : Int32} {μ' : Mm} (X : Fx D cA RX9 wsX9_pool cX9_pool 4 (some .int) p s m av.toArray meth c) {rc22 : Mm → Nat → Int32 → Int32 → Int32 → Option (Int32 × Mm)} (hrc22 : HL_X9_pool_22 l D cA z av r μ' p e s m below meth c rc22) {μ : Mm} {a0 : Nat} {x1 : Int32} {x2 : Int32} {x3 : Int32} (hk_a0 : kd a0 = 9) {H : Heap} {locs : List Loc} {ls : Array Slot} (hd : Wd D cA z μ H) (hS : va_S (Az z) s.heap H locs) (hl : lv_has ls 4 [(0, .ref (z + a0)), (1, .int x1), (2, .int x2), (3, .int x3)]) (h : f_X9_pool_j48 rc22 μ a0 x1 x2 x3 = some (r, μ')) : WG l D cA z wsX9_pool 5 106 av (some (.int r)) μ' p e s m below meth c H locs (F0 m 48 ls []) := by
  obtain ⟨hx, hb, hr, hlk, hml, hown, hts, hK⟩ := id X
  unfold f_X9_pool_j48 at h
  refine lv_iinc (v := x3 + (1 : Int32)) (lv' := [(3, .int (x3 + (1 : Int32))), (0, .ref (z + a0)), (1, .int x1), (2, .int x2)]) hx hb dX9_pool_48 hl (k := 3) rfl rfl (by decide) rfl (fun ls hl => ?_)
  refine lv_goto (tgt := 22) hx hb dX9_pool_51 (by decide) ?_
  exact hrc22 _ _ _ _ _ _ _ _ hk_a0 hd hS (lv_sub hl [1, 2, 3, 0] rfl) h
def f_X9_pool_L22b (rc22 : Mm → Nat → Int32 → Int32 → Int32 → Option (Int32 × Mm)) (μ : Mm) (a0 : Nat) (x1 : Int32) (x2 : Int32) (x3 : Int32) : Option (Int32 × Mm) := bR (μ.2 a0 1) (fun b1 => if (μ.1 b1 2) ≤ x3 then (some (x2, μ)) else (bR (μ.2 a0 10) (fun b3 => bC (f_X2_restFrom μ b3 x3) (fun r5 μ4 => if r5 = x1 then (f_X9_pool_j48 rc22 μ4 a0 x1 (x2 + (1 : Int32)) x3) else (f_X9_pool_j48 rc22 μ4 a0 x1 x2 x3)))))
set_option maxRecDepth 100000 in
theorem k_f_X9_pool_L22b {l : Launch} {D : va_G} {cA : Nat → ClassId} {z : Nat} {av : List Value} {p : Program} {e : Env} {s : State} {m : MethodId} {below : List Frame} {meth : Method} {c : Code} {r : Int32} {μ' : Mm} (X : Fx D cA RX9 wsX9_pool cX9_pool 4 (some .int) p s m av.toArray meth c) {rc22 : Mm → Nat → Int32 → Int32 → Int32 → Option (Int32 × Mm)} (hrc22 : HL_X9_pool_22 l D cA z av r μ' p e s m below meth c rc22) {μ : Mm} {a0 : Nat} {x1 : Int32} {x2 : Int32} {x3 : Int32} (hk_a0 : kd a0 = 9) {H : Heap} {locs : List Loc} {ls : Array Slot} (hd : Wd D cA z μ H) (hS : va_S (Az z) s.heap H locs) (hl : lv_has ls 4 [(0, .ref (z + a0)), (1, .int x1), (2, .int x2), (3, .int x3)]) (h : f_X9_pool_L22b rc22 μ a0 x1 x2 x3 = some (r, μ')) : WG l D cA z wsX9_pool 5 106 av (some (.int r)) μ' p e s m below meth c H locs (F0 m 22 ls []) := by
  obtain ⟨hx, hb, hr, hlk, hml, hown, hts, hK⟩ := id X
  unfold f_X9_pool_L22b at h
  refine lv_iload_n hx hb dX9_pool_22 rfl (lv_at hl 3 rfl) ?_
  refine lv_aload_n hx hb dX9_pool_23 rfl (lv_at hl 0 rfl) ?_
  obtain ⟨b1, hb1, h⟩ := bR_e h
  refine r_getr hx hb hts (fun w h => List.mem_cons_of_mem _ (List.mem_append_left _ (List.mem_append_left _ (List.mem_append_left _ (List.mem_append_left _ (List.mem_append_right _ (h))))))) hown hK hd hk_a0 hb1 rfl fs_9_1 (hts (.fieldLink RX9 19 "LevelVotes" "plan" "LLevelVotes$House;") (List.mem_of_getElem? (i := 1) rfl)) dX9_pool_24 (fun hq => ?_)
  have hk_b1 : kd b1 = 4 := hq
  refine r_geti hx hb hts (fun w h => List.mem_cons_of_mem _ (List.mem_append_left _ (List.mem_append_left _ (List.mem_append_left _ (List.mem_append_right _ (h)))))) hown hK hd hk_b1 rfl 2 fs_4_2 (hts (.fieldLink RX9 222 "LevelVotes$House" "cells" "I") (List.mem_of_getElem? (i := 3) rfl)) dX9_pool_27 ?_
  refine lv_icmp_ge (tgt := 54) hx hb dX9_pool_30 (by decide) (fun q2 => ?_) (fun q2 => ?_)
  · have h := if_y q2 h
    refine lv_iload_n hx hb dX9_pool_54 rfl (lv_at hl 2 rfl) ?_
    obtain ⟨rfl, rfl⟩ := so_e h
    exact rt_i hx hb hr hlk hd hS dX9_pool_55
  · have h := if_n q2 h
    refine lv_aload_n hx hb dX9_pool_33 rfl (lv_at hl 0 rfl) ?_
    obtain ⟨b3, hb3, h⟩ := bR_e h
    refine r_getr hx hb hts (fun w h => List.mem_cons_of_mem _ (List.mem_append_left _ (List.mem_append_left _ (List.mem_append_left _ (List.mem_append_left _ (List.mem_append_right _ (h))))))) hown hK hd hk_a0 hb3 rfl fs_9_10 (hts (.fieldLink RX9 74 "LevelVotes" "hill" "LLevelVotes$Hill;") (List.mem_of_getElem? (i := 4) rfl)) dX9_pool_34 (fun hq => ?_)
    have hk_b3 : kd b3 = 2 := hq
    refine lv_iload_n hx hb dX9_pool_37 rfl (lv_at hl 3 rfl) ?_
    obtain ⟨r5, μ4, hc6, h⟩ := bC_e h
    refine rc_Vi (rest := []) [.int x3] ⟨hx, hb, hml, hown, hts⟩ hK hd hS (c_X2_restFrom hk_b3 hc6) (cwV 1 hts gX9_pool_X2_restFrom rfl rfl rfl hv_X2_restFrom ⟨Nat.le_of_ble_eq_true rfl, Nat.le_of_ble_eq_true rfl⟩) hk_b3 rfl rfl rfl rfl hl.1 rfl (Nat.le_of_ble_eq_true rfl) dX9_pool_38 ⟨Nat.zero_le _, Nat.zero_le _⟩ (fun H locs hd hS => ?_)
    refine lv_iload_n hx hb dX9_pool_41 rfl (lv_at hl 1 rfl) ?_
    refine lv_icmp_ne (tgt := 48) hx hb dX9_pool_42 (by decide) (fun q7 => ?_) (fun q7 => ?_)
    · have h := if_n q7 h
      exact k_f_X9_pool_j48 X hrc22 hk_a0 hd hS (lv_sub hl [0, 1, 2, 3] rfl) h
    · have h := if_y q7 h
      refine lv_iinc (v := x2 + (1 : Int32)) (lv' := [(2, .int (x2 + (1 : Int32))), (0, .ref (z + a0)), (1, .int x1), (3, .int x3)]) hx hb dX9_pool_45 hl (k := 2) rfl rfl (by decide) rfl (fun ls hl => ?_)
      exact k_f_X9_pool_j48 X hrc22 hk_a0 hd hS (lv_sub hl [1, 2, 0, 3] rfl) h
def f_X9_pool_L22 : Nat → Mm → Nat → Int32 → Int32 → Int32 → Option (Int32 × Mm)
  | 0 => fun _ _ _ _ _ => none
  | n + 1 => fun μ a0 x1 x2 x3 => f_X9_pool_L22b (f_X9_pool_L22 n) μ a0 x1 x2 x3
theorem k_f_X9_pool_L22 {l : Launch} {D : va_G} {cA : Nat → ClassId} {z : Nat} {av : List Value} {p : Program} {e : Env} {s : State} {m : MethodId} {below : List Frame} {meth : Method} {c : Code} {r : Int32} {μ' : Mm} (X : Fx D cA RX9 wsX9_pool cX9_pool 4 (some .int) p s m av.toArray meth c) (n : Nat) : HL_X9_pool_22 l D cA z av r μ' p e s m below meth c (f_X9_pool_L22 n) := by
  induction n with
  | zero => intro _ _ _ _ _ _ _ _ _ _ _ _ h; have h2 : (none : Option _) = some _ := h; cases h2
  | succ n ih => intro μ H locs ls a0 x1 x2 x3 hk_a0 hd hS hl h; exact k_f_X9_pool_L22b X ih hk_a0 hd hS hl h
def f_X9_pool (μ : Mm) (a0 : Nat) (x1 : Int32) : Option (Int32 × Mm) := bR (μ.2 a0 1) (fun b1 => bC (f_X4_hasCell μ b1 x1) (fun r3 μ2 => if r3 = 0 then (some ((-1000000001 : Int32), μ2)) else (bV (f_X9_shapeNow μ2 a0) (fun μ6 => f_X9_pool_L22 FU μ6 a0 x1 (0 : Int32) (0 : Int32)))))
set_option maxRecDepth 100000 in
theorem c_X9_pool {l : Launch} {D : va_G} {cA : Nat → ClassId} {z : Nat} {μ : Mm} {a0 : Nat} {x1 : Int32} {r : Int32} {μ' : Mm} (hk_a0 : kd a0 = 9) (h : f_X9_pool μ a0 x1 = some (r, μ')) : Ct l D cA z yX9_pool wsX9_pool 5 106 [.ref (z + a0), .int x1] μ (some (.int r)) μ' := by
  refine m_in (cc := cX9_pool) (maxL := 4) (ret := (some .int)) (own := RX9) (by decide) rfl rfl (Nat.le_of_ble_eq_true rfl) ?_
  intro p e s m below meth c ls X hd hS hl
  obtain ⟨hx, hb, hr, hlk, hml, hown, hts, hK⟩ := id X
  have hl : lv_has ls 4 [(0, .ref (z + a0)), (1, .int x1)] := hl
  unfold f_X9_pool at h
  refine lv_aload_n hx hb dX9_pool_0 rfl (lv_at hl 0 rfl) ?_
  obtain ⟨b1, hb1, h⟩ := bR_e h
  refine r_getr hx hb hts (fun w h => List.mem_cons_of_mem _ (List.mem_append_left _ (List.mem_append_left _ (List.mem_append_left _ (List.mem_append_left _ (List.mem_append_right _ (h))))))) hown hK hd hk_a0 hb1 rfl fs_9_1 (hts (.fieldLink RX9 19 "LevelVotes" "plan" "LLevelVotes$House;") (List.mem_of_getElem? (i := 1) rfl)) dX9_pool_1 (fun hq => ?_)
  have hk_b1 : kd b1 = 4 := hq
  refine lv_iload_n hx hb dX9_pool_4 rfl (lv_at hl 1 rfl) ?_
  obtain ⟨r3, μ2, hc4, h⟩ := bC_e h
  refine rc_Vi (rest := []) [.int x1] ⟨hx, hb, hml, hown, hts⟩ hK hd hS (c_X4_hasCell hk_b1 hc4) (cwV 1 hts gX9_pool_X4_hasCell rfl rfl rfl hv_X4_hasCell ⟨Nat.le_of_ble_eq_true rfl, Nat.le_of_ble_eq_true rfl⟩) hk_b1 rfl rfl rfl rfl hl.1 rfl (Nat.le_of_ble_eq_true rfl) dX9_pool_5 ⟨Nat.zero_le _, Nat.zero_le _⟩ (fun H locs hd hS => ?_)
  refine lv_if_ne (tgt := 14) hx hb dX9_pool_8 (by decide) (fun q5 => ?_) (fun q5 => ?_)
  · have h := if_n q5 h
    refine lv_aload_n hx hb dX9_pool_14 rfl (lv_at hl 0 rfl) ?_
    obtain ⟨μ6, hc8, h⟩ := bV_e h
    refine rc_Vv (rest := []) [] ⟨hx, hb, hml, hown, hts⟩ hK hd hS (c_X9_shapeNow hk_a0 hc8) (cwV 0 hts gX9_pool_X9_shapeNow rfl rfl rfl hv_X9_shapeNow ⟨Nat.le_of_ble_eq_true rfl, Nat.le_of_ble_eq_true rfl⟩) hk_a0 rfl rfl rfl rfl hl.1 rfl (Nat.le_of_ble_eq_true rfl) dX9_pool_15 ⟨Nat.zero_le _, Nat.zero_le _⟩ (fun H locs hd hS => ?_)
    refine lv_iconst (v := 0) hx hb dX9_pool_18 (by decide) ?_
    refine lv_istore_n (lv' := [(2, .int (0 : Int32)), (0, .ref (z + a0)), (1, .int x1)]) hx hb dX9_pool_19 rfl hl (by decide) rfl (fun ls hl => ?_)
    refine lv_iconst (v := 0) hx hb dX9_pool_20 (by decide) ?_
    refine lv_istore_n (lv' := [(3, .int (0 : Int32)), (2, .int (0 : Int32)), (0, .ref (z + a0)), (1, .int x1)]) hx hb dX9_pool_21 rfl hl (by decide) rfl (fun ls hl => ?_)
    exact k_f_X9_pool_L22 X FU _ _ _ _ _ _ _ _ hk_a0 hd hS (lv_sub hl [2, 3, 1, 0] rfl) h
  · have h := if_y q5 h
    refine lv_ldc (v := -1000000001) hx hb hown (hts (.constant RX9 150 (-1000000001)) (List.mem_of_getElem? (i := 2) rfl)) dX9_pool_11 ?_
    obtain ⟨rfl, rfl⟩ := so_e h
    exact rt_i hx hb hr hlk hd hS dX9_pool_13
theorem hv_X9_canTip : yX9_canTip.cls = RX9 ∧ yX9_canTip.cls ≠ "java/lang/invoke/MethodHandle" ∧ yX9_canTip.cls ≠ "java/lang/invoke/VarHandle" ∧ (parseMethodDescriptor yX9_canTip.desc).map (fun d => d.parameters.length) = some 2 := by decide +kernel
def f_X9_canTip_j63 (μ : Mm) : Option (Int32 × Mm) := some ((1 : Int32), μ)
set_option maxRecDepth 100000 in
theorem k_f_X9_canTip_j63 {l : Launch} {D : va_G} {cA : Nat → ClassId} {z : Nat} {av : List Value} {p : Program} {e : Env} {s : State} {m : MethodId} {below : List Frame} {meth : Method} {c : Code} {r : Int32} {μ' : Mm} (X : Fx D cA RX9 wsX9_canTip cX9_canTip 5 (some .boolean) p s m av.toArray meth c) {μ : Mm} {H : Heap} {locs : List Loc} {ls : Array Slot} (hd : Wd D cA z μ H) (hS : va_S (Az z) s.heap H locs) (hl : lv_has ls 5 []) (h : f_X9_canTip_j63 μ  = some (r, μ')) : WG l D cA z wsX9_canTip 3 63 av (some (.int r)) μ' p e s m below meth c H locs (F0 m 63 ls []) := by
  obtain ⟨hx, hb, hr, hlk, hml, hown, hts, hK⟩ := id X
  unfold f_X9_canTip_j63 at h
  refine lv_iconst (v := 1) hx hb dX9_canTip_63 (by decide) ?_
  refine lv_goto (tgt := 68) hx hb dX9_canTip_64 (by decide) ?_
  obtain ⟨rfl, rfl⟩ := so_e h
  exact rt_z hx hb hr rfl hlk hd hS dX9_canTip_68
def f_X9_canTip (μ : Mm) (a0 : Nat) (x1 : Int32) (x2 : Int32) : Option (Int32 × Mm) := bR (μ.2 a0 4) (fun b1 => bC (f_X0_standOf μ b1 x2) (fun r3 μ2 => bR (μ2.2 a0 4) (fun b5 => bC (f_X0_leadOf μ2 b5 x2) (fun r7 μ6 => bR (μ6.2 a0 4) (fun b9 => bC (f_X0_howOf μ6 b9 x1 x2) (fun r11 μ10 => bC (f_X9_weightOf μ10 r11) (fun r14 μ13 => bI (r7 - r14) (fun v16 => bC (f_X9_standBy μ13 (v16 - (1 : Int32))) (fun r18 μ17 => if r18 = r3 then (bC (f_X9_standBy μ17 v16) (fun r22 μ21 => if r22 = r3 then (bC (f_X9_standBy μ21 (v16 + (1 : Int32))) (fun r26 μ25 => if r26 = r3 then (some ((0 : Int32), μ25)) else (f_X9_canTip_j63 μ25 ))) else (f_X9_canTip_j63 μ21 ))) else (f_X9_canTip_j63 μ17 ))))))))))
set_option maxRecDepth 100000 in
theorem c_X9_canTip {l : Launch} {D : va_G} {cA : Nat → ClassId} {z : Nat} {μ : Mm} {a0 : Nat} {x1 : Int32} {x2 : Int32} {r : Int32} {μ' : Mm} (hk_a0 : kd a0 = 9) (h : f_X9_canTip μ a0 x1 x2 = some (r, μ')) : Ct l D cA z yX9_canTip wsX9_canTip 3 63 [.ref (z + a0), .int x1, .int x2] μ (some (.int r)) μ' := by
  refine m_in (cc := cX9_canTip) (maxL := 5) (ret := (some .boolean)) (own := RX9) (by decide) rfl rfl (Nat.le_of_ble_eq_true rfl) ?_
  intro p e s m below meth c ls X hd hS hl
  obtain ⟨hx, hb, hr, hlk, hml, hown, hts, hK⟩ := id X
  have hl : lv_has ls 5 [(0, .ref (z + a0)), (1, .int x1), (2, .int x2)] := hl
  unfold f_X9_canTip at h
  refine lv_aload_n hx hb dX9_canTip_0 rfl (lv_at hl 0 rfl) ?_
  obtain ⟨b1, hb1, h⟩ := bR_e h
  refine r_getr hx hb hts (fun w h => List.mem_cons_of_mem _ (List.mem_append_left _ (List.mem_append_right _ (h)))) hown hK hd hk_a0 hb1 rfl fs_9_4 (hts (.fieldLink RX9 33 "LevelVotes" "now" "LLevelVotes$Ballot;") (List.mem_of_getElem? (i := 1) rfl)) dX9_canTip_1 (fun hq => ?_)
  have hk_b1 : kd b1 = 0 := hq
  refine lv_iload_n hx hb dX9_canTip_4 rfl (lv_at hl 2 rfl) ?_
  obtain ⟨r3, μ2, hc4, h⟩ := bC_e h
  refine rc_Vi (rest := []) [.int x2] ⟨hx, hb, hml, hown, hts⟩ hK hd hS (c_X0_standOf hk_b1 hc4) (cwV 1 hts gX9_canTip_X0_standOf rfl rfl rfl hv_X0_standOf ⟨Nat.le_of_ble_eq_true rfl, Nat.le_of_ble_eq_true rfl⟩) hk_b1 rfl rfl rfl rfl hl.1 rfl (Nat.le_of_ble_eq_true rfl) dX9_canTip_5 ⟨Nat.zero_le _, Nat.zero_le _⟩ (fun H locs hd hS => ?_)
  refine lv_istore_n (lv' := [(3, .int r3), (0, .ref (z + a0)), (1, .int x1), (2, .int x2)]) hx hb dX9_canTip_8 rfl hl (by decide) rfl (fun ls hl => ?_)
  refine lv_aload_n hx hb dX9_canTip_9 rfl (lv_at hl 1 rfl) ?_
  obtain ⟨b5, hb5, h⟩ := bR_e h
  refine r_getr hx hb hts (fun w h => List.mem_cons_of_mem _ (List.mem_append_left _ (List.mem_append_right _ (h)))) hown hK hd hk_a0 hb5 rfl fs_9_4 (hts (.fieldLink RX9 33 "LevelVotes" "now" "LLevelVotes$Ballot;") (List.mem_of_getElem? (i := 1) rfl)) dX9_canTip_10 (fun hq => ?_)
  have hk_b5 : kd b5 = 0 := hq
  refine lv_iload_n hx hb dX9_canTip_13 rfl (lv_at hl 3 rfl) ?_
  obtain ⟨r7, μ6, hc8, h⟩ := bC_e h
  refine rc_Vi (rest := []) [.int x2] ⟨hx, hb, hml, hown, hts⟩ hK hd hS (c_X0_leadOf hk_b5 hc8) (cwV 1 hts gX9_canTip_X0_leadOf rfl rfl rfl hv_X0_leadOf ⟨Nat.le_of_ble_eq_true rfl, Nat.le_of_ble_eq_true rfl⟩) hk_b5 rfl rfl rfl rfl hl.1 rfl (Nat.le_of_ble_eq_true rfl) dX9_canTip_14 ⟨Nat.zero_le _, Nat.zero_le _⟩ (fun H locs hd hS => ?_)
  refine lv_aload_n hx hb dX9_canTip_17 rfl (lv_at hl 1 rfl) ?_
  obtain ⟨b9, hb9, h⟩ := bR_e h
  refine r_getr hx hb hts (fun w h => List.mem_cons_of_mem _ (List.mem_append_left _ (List.mem_append_right _ (h)))) hown hK hd hk_a0 hb9 rfl fs_9_4 (hts (.fieldLink RX9 33 "LevelVotes" "now" "LLevelVotes$Ballot;") (List.mem_of_getElem? (i := 1) rfl)) dX9_canTip_18 (fun hq => ?_)
  have hk_b9 : kd b9 = 0 := hq
  refine lv_iload_n hx hb dX9_canTip_21 rfl (lv_at hl 2 rfl) ?_
  refine lv_iload_n hx hb dX9_canTip_22 rfl (lv_at hl 3 rfl) ?_
  obtain ⟨r11, μ10, hc12, h⟩ := bC_e h
  refine rc_Vi (rest := [.int r7]) [.int x1, .int x2] ⟨hx, hb, hml, hown, hts⟩ hK hd hS (c_X0_howOf hk_b9 hc12) (cwV 2 hts gX9_canTip_X0_howOf rfl rfl rfl hv_X0_howOf ⟨Nat.le_of_ble_eq_true rfl, Nat.le_of_ble_eq_true rfl⟩) hk_b9 rfl rfl rfl rfl hl.1 rfl (Nat.le_of_ble_eq_true rfl) dX9_canTip_23 ⟨Nat.zero_le _, Nat.zero_le _⟩ (fun H locs hd hS => ?_)
  obtain ⟨r14, μ13, hc15, h⟩ := bC_e h
  refine rc_Si (rest := [.int r7]) [.int r11] ⟨hx, hb, hml, hown, hts⟩ hK hd hS (c_X9_weightOf  hc15) (va_cwS 1 hts gX9_canTip_X9_weightOf rfl rfl rfl hn_X9_weightOf ⟨Nat.le_of_ble_eq_true rfl, Nat.le_of_ble_eq_true rfl⟩) rfl hl.1 rfl (Nat.le_of_ble_eq_true rfl) dX9_canTip_26 ⟨Nat.zero_le _, Nat.zero_le _⟩ (fun H locs hd hS => ?_)
  refine lv_isub hx hb dX9_canTip_29 ?_
  refine lv_topi (fun v16 ev16 => ?_)
  have h := bI_e ev16 h
  refine lv_istore (lv' := [(4, .int v16), (3, .int r3), (0, .ref (z + a0)), (1, .int x1), (2, .int x2)]) hx hb dX9_canTip_30 hl (by decide) rfl (fun ls hl => ?_)
  refine lv_iload hx hb dX9_canTip_32 (lv_at hl 0 rfl) ?_
  refine lv_iconst (v := 1) hx hb dX9_canTip_34 (by decide) ?_
  refine lv_isub hx hb dX9_canTip_35 ?_
  obtain ⟨r18, μ17, hc19, h⟩ := bC_e h
  refine rc_Si (rest := []) [.int (v16 - (1 : Int32))] ⟨hx, hb, hml, hown, hts⟩ hK hd hS (c_X9_standBy  hc19) (va_cwS 1 hts gX9_canTip_X9_standBy rfl rfl rfl hn_X9_standBy ⟨Nat.le_of_ble_eq_true rfl, Nat.le_of_ble_eq_true rfl⟩) rfl hl.1 rfl (Nat.le_of_ble_eq_true rfl) dX9_canTip_36 ⟨Nat.zero_le _, Nat.zero_le _⟩ (fun H locs hd hS => ?_)
  refine lv_iload_n hx hb dX9_canTip_39 rfl (lv_at hl 1 rfl) ?_
  refine lv_icmp_ne (tgt := 63) hx hb dX9_canTip_40 (by decide) (fun q20 => ?_) (fun q20 => ?_)
  · have h := if_n q20 h
    exact k_f_X9_canTip_j63 X  hd hS (lv_sub hl [] rfl) h
  · have h := if_y q20 h
    refine lv_iload hx hb dX9_canTip_43 (lv_at hl 0 rfl) ?_
    obtain ⟨r22, μ21, hc23, h⟩ := bC_e h
    refine rc_Si (rest := []) [.int v16] ⟨hx, hb, hml, hown, hts⟩ hK hd hS (c_X9_standBy  hc23) (va_cwS 1 hts gX9_canTip_X9_standBy rfl rfl rfl hn_X9_standBy ⟨Nat.le_of_ble_eq_true rfl, Nat.le_of_ble_eq_true rfl⟩) rfl hl.1 rfl (Nat.le_of_ble_eq_true rfl) dX9_canTip_45 ⟨Nat.zero_le _, Nat.zero_le _⟩ (fun H locs hd hS => ?_)
    refine lv_iload_n hx hb dX9_canTip_48 rfl (lv_at hl 1 rfl) ?_
    refine lv_icmp_ne (tgt := 63) hx hb dX9_canTip_49 (by decide) (fun q24 => ?_) (fun q24 => ?_)
    · have h := if_n q24 h
      exact k_f_X9_canTip_j63 X  hd hS (lv_sub hl [] rfl) h
    · have h := if_y q24 h
      refine lv_iload hx hb dX9_canTip_52 (lv_at hl 0 rfl) ?_
      refine lv_iconst (v := 1) hx hb dX9_canTip_54 (by decide) ?_
      refine lv_iadd hx hb dX9_canTip_55 ?_
      obtain ⟨r26, μ25, hc27, h⟩ := bC_e h
      refine rc_Si (rest := []) [.int (v16 + (1 : Int32))] ⟨hx, hb, hml, hown, hts⟩ hK hd hS (c_X9_standBy  hc27) (va_cwS 1 hts gX9_canTip_X9_standBy rfl rfl rfl hn_X9_standBy ⟨Nat.le_of_ble_eq_true rfl, Nat.le_of_ble_eq_true rfl⟩) rfl hl.1 rfl (Nat.le_of_ble_eq_true rfl) dX9_canTip_56 ⟨Nat.zero_le _, Nat.zero_le _⟩ (fun H locs hd hS => ?_)
      refine lv_iload_n hx hb dX9_canTip_59 rfl (lv_at hl 1 rfl) ?_
      refine lv_icmp_eq (tgt := 67) hx hb dX9_canTip_60 (by decide) (fun q28 => ?_) (fun q28 => ?_)
      · have h := if_y q28 h
        refine lv_iconst (v := 0) hx hb dX9_canTip_67 (by decide) ?_
        obtain ⟨rfl, rfl⟩ := so_e h
        exact rt_z hx hb hr rfl hlk hd hS dX9_canTip_68
      · have h := if_n q28 h
        exact k_f_X9_canTip_j63 X  hd hS (lv_sub hl [] rfl) h
theorem hv_X9_tips : yX9_tips.cls = RX9 ∧ yX9_tips.cls ≠ "java/lang/invoke/MethodHandle" ∧ yX9_tips.cls ≠ "java/lang/invoke/VarHandle" ∧ (parseMethodDescriptor yX9_tips.desc).map (fun d => d.parameters.length) = some 1 := by decide +kernel
abbrev HL_X9_tips_18 (l : Launch) (D : va_G) (cA : Nat → ClassId) (z : Nat) (av : List Value) (r : Int32) (μ' : Mm) (p : Program) (e : Env) (s : State) (m : MethodId) (below : List Frame) (meth : Method) (c : Code) (rc : Mm → Nat → Int32 → Int32 → Int32 → Option (Int32 × Mm)) : Prop := ∀ (μ : Mm) (H : Heap) (locs : List Loc) (ls : Array Slot) (a0 : Nat) (x1 : Int32) (x2 : Int32) (x3 : Int32), kd a0 = 9 → Wd D cA z μ H → va_S (Az z) s.heap H locs → lv_has ls 4 [(0, .ref (z + a0)), (1, .int x1), (2, .int x2), (3, .int x3)] → rc μ a0 x1 x2 x3 = some (r, μ') → WG l D cA z wsX9_tips 4 87 av (some (.int r)) μ' p e s m below meth c H locs (F0 m 18 ls [])
def f_X9_tips_j44 (rc18 : Mm → Nat → Int32 → Int32 → Int32 → Option (Int32 × Mm)) (μ : Mm) (a0 : Nat) (x1 : Int32) (x2 : Int32) (x3 : Int32) : Option (Int32 × Mm) := rc18 μ a0 x1 x2 (x3 + (1 : Int32))
set_option maxRecDepth 100000 in
theorem k_f_X9_tips_j44 {l : Launch} {D : va_G} {cA : Nat → ClassId} {z : Nat} {av : List Value} {p : Program} {e : Env} {s : State} {m : MethodId} {below : List Frame} {meth : Method} {c : Code} {r : Int32} {μ' : Mm} (X : Fx D cA RX9 wsX9_tips cX9_tips 4 (some .int) p s m av.toArray meth c) {rc18 : Mm → Nat → Int32 → Int32 → Int32 → Option (Int32 × Mm)} (hrc18 : HL_X9_tips_18 l D cA z av r μ' p e s m below meth c rc18) {μ : Mm} {a0 : Nat} {x1 : Int32} {x2 : Int32} {x3 : Int32} (hk_a0 : kd a0 = 9) {H : Heap} {locs : List Loc} {ls : Array Slot} (hd : Wd D cA z μ H) (hS : va_S (Az z) s.heap H locs) (hl : lv_has ls 4 [(0, .ref (z + a0)), (1, .int x1), (2, .int x2), (3, .int x3)]) (h : f_X9_tips_j44 rc18 μ a0 x1 x2 x3 = some (r, μ')) : WG l D cA z wsX9_tips 4 87 av (some (.int r)) μ' p e s m below meth c H locs (F0 m 44 ls []) := by
  obtain ⟨hx, hb, hr, hlk, hml, hown, hts, hK⟩ := id X
  unfold f_X9_tips_j44 at h
  refine lv_iinc (v := x3 + (1 : Int32)) (lv' := [(3, .int (x3 + (1 : Int32))), (0, .ref (z + a0)), (1, .int x1), (2, .int x2)]) hx hb dX9_tips_44 hl (k := 3) rfl rfl (by decide) rfl (fun ls hl => ?_)
  refine lv_goto (tgt := 18) hx hb dX9_tips_47 (by decide) ?_
  exact hrc18 _ _ _ _ _ _ _ _ hk_a0 hd hS (lv_sub hl [1, 2, 3, 0] rfl) h
def f_X9_tips_L18b (rc18 : Mm → Nat → Int32 → Int32 → Int32 → Option (Int32 × Mm)) (μ : Mm) (a0 : Nat) (x1 : Int32) (x2 : Int32) (x3 : Int32) : Option (Int32 × Mm) := bR (μ.2 a0 1) (fun b1 => if (μ.1 b1 4) ≤ x3 then (some (x2, μ)) else (bC (f_X9_canTip μ a0 x3 x1) (fun r4 μ3 => if r4 = 0 then (f_X9_tips_j44 rc18 μ3 a0 x1 x2 x3) else (bI (x2 ||| ((1 : Int32) <<< (x3 &&& 31))) (fun v7 => f_X9_tips_j44 rc18 μ3 a0 x1 v7 x3)))))
set_option maxRecDepth 100000 in
theorem k_f_X9_tips_L18b {l : Launch} {D : va_G} {cA : Nat → ClassId} {z : Nat} {av : List Value} {p : Program} {e : Env} {s : State} {m : MethodId} {below : List Frame} {meth : Method} {c : Code} {r : Int32} {μ' : Mm} (X : Fx D cA RX9 wsX9_tips cX9_tips 4 (some .int) p s m av.toArray meth c) {rc18 : Mm → Nat → Int32 → Int32 → Int32 → Option (Int32 × Mm)} (hrc18 : HL_X9_tips_18 l D cA z av r μ' p e s m below meth c rc18) {μ : Mm} {a0 : Nat} {x1 : Int32} {x2 : Int32} {x3 : Int32} (hk_a0 : kd a0 = 9) {H : Heap} {locs : List Loc} {ls : Array Slot} (hd : Wd D cA z μ H) (hS : va_S (Az z) s.heap H locs) (hl : lv_has ls 4 [(0, .ref (z + a0)), (1, .int x1), (2, .int x2), (3, .int x3)]) (h : f_X9_tips_L18b rc18 μ a0 x1 x2 x3 = some (r, μ')) : WG l D cA z wsX9_tips 4 87 av (some (.int r)) μ' p e s m below meth c H locs (F0 m 18 ls []) := by
  obtain ⟨hx, hb, hr, hlk, hml, hown, hts, hK⟩ := id X
  unfold f_X9_tips_L18b at h
  refine lv_iload_n hx hb dX9_tips_18 rfl (lv_at hl 3 rfl) ?_
  refine lv_aload_n hx hb dX9_tips_19 rfl (lv_at hl 0 rfl) ?_
  obtain ⟨b1, hb1, h⟩ := bR_e h
  refine r_getr hx hb hts (fun w h => List.mem_cons_of_mem _ (List.mem_append_left _ (List.mem_append_left _ (List.mem_append_right _ (h))))) hown hK hd hk_a0 hb1 rfl fs_9_1 (hts (.fieldLink RX9 19 "LevelVotes" "plan" "LLevelVotes$House;") (List.mem_of_getElem? (i := 1) rfl)) dX9_tips_20 (fun hq => ?_)
  have hk_b1 : kd b1 = 4 := hq
  refine r_geti hx hb hts (fun w h => List.mem_cons_of_mem _ (List.mem_append_left _ (List.mem_append_right _ (h)))) hown hK hd hk_b1 rfl 4 fs_4_4 (hts (.fieldLink RX9 118 "LevelVotes$House" "persons" "I") (List.mem_of_getElem? (i := 3) rfl)) dX9_tips_23 ?_
  refine lv_icmp_ge (tgt := 50) hx hb dX9_tips_26 (by decide) (fun q2 => ?_) (fun q2 => ?_)
  · have h := if_y q2 h
    refine lv_iload_n hx hb dX9_tips_50 rfl (lv_at hl 2 rfl) ?_
    obtain ⟨rfl, rfl⟩ := so_e h
    exact rt_i hx hb hr hlk hd hS dX9_tips_51
  · have h := if_n q2 h
    refine lv_aload_n hx hb dX9_tips_29 rfl (lv_at hl 0 rfl) ?_
    refine lv_iload_n hx hb dX9_tips_30 rfl (lv_at hl 3 rfl) ?_
    refine lv_iload_n hx hb dX9_tips_31 rfl (lv_at hl 1 rfl) ?_
    obtain ⟨r4, μ3, hc5, h⟩ := bC_e h
    refine rc_Vi (rest := []) [.int x3, .int x1] ⟨hx, hb, hml, hown, hts⟩ hK hd hS (c_X9_canTip hk_a0 hc5) (cwV 2 hts gX9_tips_X9_canTip rfl rfl rfl hv_X9_canTip ⟨Nat.le_of_ble_eq_true rfl, Nat.le_of_ble_eq_true rfl⟩) hk_a0 rfl rfl rfl rfl hl.1 rfl (Nat.le_of_ble_eq_true rfl) dX9_tips_32 ⟨Nat.zero_le _, Nat.zero_le _⟩ (fun H locs hd hS => ?_)
    refine lv_if_eq (tgt := 44) hx hb dX9_tips_35 (by decide) (fun q6 => ?_) (fun q6 => ?_)
    · have h := if_y q6 h
      exact k_f_X9_tips_j44 X hrc18 hk_a0 hd hS (lv_sub hl [0, 1, 2, 3] rfl) h
    · have h := if_n q6 h
      refine lv_iload_n hx hb dX9_tips_38 rfl (lv_at hl 2 rfl) ?_
      refine lv_iconst (v := 1) hx hb dX9_tips_39 (by decide) ?_
      refine lv_iload_n hx hb dX9_tips_40 rfl (lv_at hl 3 rfl) ?_
      refine lv_ishl hx hb dX9_tips_41 ?_
      refine lv_ior hx hb dX9_tips_42 ?_
      refine lv_topi (fun v7 ev7 => ?_)
      have h := bI_e ev7 h
      refine lv_istore_n (lv' := [(2, .int v7), (0, .ref (z + a0)), (1, .int x1), (3, .int x3)]) hx hb dX9_tips_43 rfl hl (by decide) rfl (fun ls hl => ?_)
      exact k_f_X9_tips_j44 X hrc18 hk_a0 hd hS (lv_sub hl [1, 2, 0, 3] rfl) h
def f_X9_tips_L18 : Nat → Mm → Nat → Int32 → Int32 → Int32 → Option (Int32 × Mm)
  | 0 => fun _ _ _ _ _ => none
  | n + 1 => fun μ a0 x1 x2 x3 => f_X9_tips_L18b (f_X9_tips_L18 n) μ a0 x1 x2 x3
theorem k_f_X9_tips_L18 {l : Launch} {D : va_G} {cA : Nat → ClassId} {z : Nat} {av : List Value} {p : Program} {e : Env} {s : State} {m : MethodId} {below : List Frame} {meth : Method} {c : Code} {r : Int32} {μ' : Mm} (X : Fx D cA RX9 wsX9_tips cX9_tips 4 (some .int) p s m av.toArray meth c) (n : Nat) : HL_X9_tips_18 l D cA z av r μ' p e s m below meth c (f_X9_tips_L18 n) := by
  induction n with
  | zero => intro _ _ _ _ _ _ _ _ _ _ _ _ h; have h2 : (none : Option _) = some _ := h; cases h2
  | succ n ih => intro μ H locs ls a0 x1 x2 x3 hk_a0 hd hS hl h; exact k_f_X9_tips_L18b X ih hk_a0 hd hS hl h
def f_X9_tips (μ : Mm) (a0 : Nat) (x1 : Int32) : Option (Int32 × Mm) := bR (μ.2 a0 1) (fun b1 => bC (f_X4_hasItem μ b1 x1) (fun r3 μ2 => if r3 = 0 then (some ((-1000000001 : Int32), μ2)) else (f_X9_tips_L18 FU μ2 a0 x1 (0 : Int32) (0 : Int32))))
set_option maxRecDepth 100000 in
theorem c_X9_tips {l : Launch} {D : va_G} {cA : Nat → ClassId} {z : Nat} {μ : Mm} {a0 : Nat} {x1 : Int32} {r : Int32} {μ' : Mm} (hk_a0 : kd a0 = 9) (h : f_X9_tips μ a0 x1 = some (r, μ')) : Ct l D cA z yX9_tips wsX9_tips 4 87 [.ref (z + a0), .int x1] μ (some (.int r)) μ' := by
  refine m_in (cc := cX9_tips) (maxL := 4) (ret := (some .int)) (own := RX9) (by decide) rfl rfl (Nat.le_of_ble_eq_true rfl) ?_
  intro p e s m below meth c ls X hd hS hl
  obtain ⟨hx, hb, hr, hlk, hml, hown, hts, hK⟩ := id X
  have hl : lv_has ls 4 [(0, .ref (z + a0)), (1, .int x1)] := hl
  unfold f_X9_tips at h
  refine lv_aload_n hx hb dX9_tips_0 rfl (lv_at hl 0 rfl) ?_
  obtain ⟨b1, hb1, h⟩ := bR_e h
  refine r_getr hx hb hts (fun w h => List.mem_cons_of_mem _ (List.mem_append_left _ (List.mem_append_left _ (List.mem_append_right _ (h))))) hown hK hd hk_a0 hb1 rfl fs_9_1 (hts (.fieldLink RX9 19 "LevelVotes" "plan" "LLevelVotes$House;") (List.mem_of_getElem? (i := 1) rfl)) dX9_tips_1 (fun hq => ?_)
  have hk_b1 : kd b1 = 4 := hq
  refine lv_iload_n hx hb dX9_tips_4 rfl (lv_at hl 1 rfl) ?_
  obtain ⟨r3, μ2, hc4, h⟩ := bC_e h
  refine rc_Vi (rest := []) [.int x1] ⟨hx, hb, hml, hown, hts⟩ hK hd hS (c_X4_hasItem hk_b1 hc4) (cwV 1 hts gX9_tips_X4_hasItem rfl rfl rfl hv_X4_hasItem ⟨Nat.le_of_ble_eq_true rfl, Nat.le_of_ble_eq_true rfl⟩) hk_b1 rfl rfl rfl rfl hl.1 rfl (Nat.le_of_ble_eq_true rfl) dX9_tips_5 ⟨Nat.zero_le _, Nat.zero_le _⟩ (fun H locs hd hS => ?_)
  refine lv_if_ne (tgt := 14) hx hb dX9_tips_8 (by decide) (fun q5 => ?_) (fun q5 => ?_)
  · have h := if_n q5 h
    refine lv_iconst (v := 0) hx hb dX9_tips_14 (by decide) ?_
    refine lv_istore_n (lv' := [(2, .int (0 : Int32)), (0, .ref (z + a0)), (1, .int x1)]) hx hb dX9_tips_15 rfl hl (by decide) rfl (fun ls hl => ?_)
    refine lv_iconst (v := 0) hx hb dX9_tips_16 (by decide) ?_
    refine lv_istore_n (lv' := [(3, .int (0 : Int32)), (2, .int (0 : Int32)), (0, .ref (z + a0)), (1, .int x1)]) hx hb dX9_tips_17 rfl hl (by decide) rfl (fun ls hl => ?_)
    exact k_f_X9_tips_L18 X FU _ _ _ _ _ _ _ _ hk_a0 hd hS (lv_sub hl [2, 3, 1, 0] rfl) h
  · have h := if_y q5 h
    refine lv_ldc (v := -1000000001) hx hb hown (hts (.constant RX9 150 (-1000000001)) (List.mem_of_getElem? (i := 2) rfl)) dX9_tips_11 ?_
    obtain ⟨rfl, rfl⟩ := so_e h
    exact rt_i hx hb hr hlk hd hS dX9_tips_13
theorem hv_X9_changesTo : yX9_changesTo.cls = RX9 ∧ yX9_changesTo.cls ≠ "java/lang/invoke/MethodHandle" ∧ yX9_changesTo.cls ≠ "java/lang/invoke/VarHandle" ∧ (parseMethodDescriptor yX9_changesTo.desc).map (fun d => d.parameters.length) = some 3 := by decide +kernel
def f_X9_changesTo (μ : Mm) (a0 : Nat) (x1 : Int32) (x2 : Int32) (x3 : Int32) : Option (Int32 × Mm) := bR (μ.2 a0 4) (fun b1 => bC (f_X0_yesOf μ b1 x1) (fun r3 μ2 => bC (f_J6_bitCount_0f7a4 μ2 r3) (fun r6 μ5 => bR (μ5.2 a0 4) (fun b8 => bC (f_X0_noOf μ5 b8 x1) (fun r10 μ9 => bC (f_J6_bitCount_0f7a4 μ9 r10) (fun r13 μ12 => bI (((r6 + r13) - x2) - x3) (fun v15 => some (((if (0 : Int32) < (x2 - r6) then (x2 - r6) else (0 : Int32)) + (if (0 : Int32) < (x3 - r13) then (x3 - r13) else (0 : Int32))) + (if (0 : Int32) < v15 then v15 else (0 : Int32)), μ12))))))))
set_option maxRecDepth 100000 in
theorem c_X9_changesTo {l : Launch} {D : va_G} {cA : Nat → ClassId} {z : Nat} {μ : Mm} {a0 : Nat} {x1 : Int32} {x2 : Int32} {x3 : Int32} {r : Int32} {μ' : Mm} (hk_a0 : kd a0 = 9) (h : f_X9_changesTo μ a0 x1 x2 x3 = some (r, μ')) : Ct l D cA z yX9_changesTo wsX9_changesTo 1 24 [.ref (z + a0), .int x1, .int x2, .int x3] μ (some (.int r)) μ' := by
  refine m_in (cc := cX9_changesTo) (maxL := 7) (ret := (some .int)) (own := RX9) (by decide) rfl rfl (Nat.le_of_ble_eq_true rfl) ?_
  intro p e s m below meth c ls X hd hS hl
  obtain ⟨hx, hb, hr, hlk, hml, hown, hts, hK⟩ := id X
  have hl : lv_has ls 7 [(0, .ref (z + a0)), (1, .int x1), (2, .int x2), (3, .int x3)] := hl
  unfold f_X9_changesTo at h
  refine lv_aload_n hx hb dX9_changesTo_0 rfl (lv_at hl 0 rfl) ?_
  obtain ⟨b1, hb1, h⟩ := bR_e h
  refine r_getr hx hb hts (fun w h => List.mem_cons_of_mem _ (List.mem_append_left _ (List.mem_append_right _ (h)))) hown hK hd hk_a0 hb1 rfl fs_9_4 (hts (.fieldLink RX9 33 "LevelVotes" "now" "LLevelVotes$Ballot;") (List.mem_of_getElem? (i := 1) rfl)) dX9_changesTo_1 (fun hq => ?_)
  have hk_b1 : kd b1 = 0 := hq
  refine lv_iload_n hx hb dX9_changesTo_4 rfl (lv_at hl 1 rfl) ?_
  obtain ⟨r3, μ2, hc4, h⟩ := bC_e h
  refine rc_Vi (rest := []) [.int x1] ⟨hx, hb, hml, hown, hts⟩ hK hd hS (c_X0_yesOf hk_b1 hc4) (cwV 1 hts gX9_changesTo_X0_yesOf rfl rfl rfl hv_X0_yesOf ⟨Nat.le_of_ble_eq_true rfl, Nat.le_of_ble_eq_true rfl⟩) hk_b1 rfl rfl rfl rfl hl.1 rfl (Nat.le_of_ble_eq_true rfl) dX9_changesTo_5 ⟨Nat.zero_le _, Nat.zero_le _⟩ (fun H locs hd hS => ?_)
  obtain ⟨r6, μ5, hc7, h⟩ := bC_e h
  refine rc_Si (rest := []) [.int r3] ⟨hx, hb, hml, hown, hts⟩ hK hd hS (c_J6_bitCount_0f7a4  hc7) (va_cwS 1 hts gX9_changesTo_J6_bitCount_0f7a4 rfl rfl rfl hn_J6_bitCount_0f7a4 ⟨Nat.le_of_ble_eq_true rfl, Nat.le_of_ble_eq_true rfl⟩) rfl hl.1 rfl (Nat.le_of_ble_eq_true rfl) dX9_changesTo_8 ⟨Nat.zero_le _, Nat.zero_le _⟩ (fun H locs hd hS => ?_)
  refine lv_istore (lv' := [(4, .int r6), (0, .ref (z + a0)), (1, .int x1), (2, .int x2), (3, .int x3)]) hx hb dX9_changesTo_11 hl (by decide) rfl (fun ls hl => ?_)
  refine lv_aload_n hx hb dX9_changesTo_13 rfl (lv_at hl 1 rfl) ?_
  obtain ⟨b8, hb8, h⟩ := bR_e h
  refine r_getr hx hb hts (fun w h => List.mem_cons_of_mem _ (List.mem_append_left _ (List.mem_append_right _ (h)))) hown hK hd hk_a0 hb8 rfl fs_9_4 (hts (.fieldLink RX9 33 "LevelVotes" "now" "LLevelVotes$Ballot;") (List.mem_of_getElem? (i := 1) rfl)) dX9_changesTo_14 (fun hq => ?_)
  have hk_b8 : kd b8 = 0 := hq
  refine lv_iload_n hx hb dX9_changesTo_17 rfl (lv_at hl 2 rfl) ?_
  obtain ⟨r10, μ9, hc11, h⟩ := bC_e h
  refine rc_Vi (rest := []) [.int x1] ⟨hx, hb, hml, hown, hts⟩ hK hd hS (c_X0_noOf hk_b8 hc11) (cwV 1 hts gX9_changesTo_X0_noOf rfl rfl rfl hv_X0_noOf ⟨Nat.le_of_ble_eq_true rfl, Nat.le_of_ble_eq_true rfl⟩) hk_b8 rfl rfl rfl rfl hl.1 rfl (Nat.le_of_ble_eq_true rfl) dX9_changesTo_18 ⟨Nat.zero_le _, Nat.zero_le _⟩ (fun H locs hd hS => ?_)
  obtain ⟨r13, μ12, hc14, h⟩ := bC_e h
  refine rc_Si (rest := []) [.int r10] ⟨hx, hb, hml, hown, hts⟩ hK hd hS (c_J6_bitCount_0f7a4  hc14) (va_cwS 1 hts gX9_changesTo_J6_bitCount_0f7a4 rfl rfl rfl hn_J6_bitCount_0f7a4 ⟨Nat.le_of_ble_eq_true rfl, Nat.le_of_ble_eq_true rfl⟩) rfl hl.1 rfl (Nat.le_of_ble_eq_true rfl) dX9_changesTo_21 ⟨Nat.zero_le _, Nat.zero_le _⟩ (fun H locs hd hS => ?_)
  refine lv_istore (lv' := [(5, .int r13), (4, .int r6), (0, .ref (z + a0)), (1, .int x1), (2, .int x2), (3, .int x3)]) hx hb dX9_changesTo_24 hl (by decide) rfl (fun ls hl => ?_)
  refine lv_iload hx hb dX9_changesTo_26 (lv_at hl 1 rfl) ?_
  refine lv_iload hx hb dX9_changesTo_28 (lv_at hl 0 rfl) ?_
  refine lv_iadd hx hb dX9_changesTo_30 ?_
  refine lv_iload_n hx hb dX9_changesTo_31 rfl (lv_at hl 4 rfl) ?_
  refine lv_isub hx hb dX9_changesTo_32 ?_
  refine lv_iload_n hx hb dX9_changesTo_33 rfl (lv_at hl 5 rfl) ?_
  refine lv_isub hx hb dX9_changesTo_34 ?_
  refine lv_topi (fun v15 ev15 => ?_)
  have h := bI_e ev15 h
  refine lv_istore (lv' := [(6, .int v15), (5, .int r13), (4, .int r6), (0, .ref (z + a0)), (1, .int x1), (2, .int x2), (3, .int x3)]) hx hb dX9_changesTo_35 hl (by decide) rfl (fun ls hl => ?_)
  refine lv_iconst (v := 0) hx hb dX9_changesTo_37 (by decide) ?_
  refine lv_iload_n hx hb dX9_changesTo_38 rfl (lv_at hl 5 rfl) ?_
  refine lv_iload hx hb dX9_changesTo_39 (lv_at hl 2 rfl) ?_
  refine lv_isub hx hb dX9_changesTo_41 ?_
  refine va_mmax hx hb (hml.trans hl.1.symm) hown (hts (.methodLink RX9 336 Lib.Math.max.name) (List.mem_of_getElem? (i := 2) rfl)) (hts (.static Lib.Math.max.name) (List.mem_of_getElem? (i := 3) rfl)) (hts (.initialized "java/lang/Math") (List.mem_of_getElem? (i := 4) rfl)) (hts (.code Lib.Math.max.name Lib.Math.max.code 2 (some .int)) (List.mem_of_getElem? (i := 5) rfl)) (Nat.le_of_ble_eq_true rfl) (Nat.le_of_ble_eq_true rfl) (Nat.zero_le _) (Nat.zero_le _) dX9_changesTo_42 ?_
  refine lv_iconst (v := 0) hx hb dX9_changesTo_45 (by decide) ?_
  refine lv_iload_n hx hb dX9_changesTo_46 rfl (lv_at hl 6 rfl) ?_
  refine lv_iload hx hb dX9_changesTo_47 (lv_at hl 1 rfl) ?_
  refine lv_isub hx hb dX9_changesTo_49 ?_
  refine va_mmax hx hb (hml.trans hl.1.symm) hown (hts (.methodLink RX9 336 Lib.Math.max.name) (List.mem_of_getElem? (i := 2) rfl)) (hts (.static Lib.Math.max.name) (List.mem_of_getElem? (i := 3) rfl)) (hts (.initialized "java/lang/Math") (List.mem_of_getElem? (i := 4) rfl)) (hts (.code Lib.Math.max.name Lib.Math.max.code 2 (some .int)) (List.mem_of_getElem? (i := 5) rfl)) (Nat.le_of_ble_eq_true rfl) (Nat.le_of_ble_eq_true rfl) (Nat.zero_le _) (Nat.zero_le _) dX9_changesTo_50 ?_
  refine lv_iadd hx hb dX9_changesTo_53 ?_
  refine lv_iconst (v := 0) hx hb dX9_changesTo_54 (by decide) ?_
  refine lv_iload hx hb dX9_changesTo_55 (lv_at hl 0 rfl) ?_
  refine va_mmax hx hb (hml.trans hl.1.symm) hown (hts (.methodLink RX9 336 Lib.Math.max.name) (List.mem_of_getElem? (i := 2) rfl)) (hts (.static Lib.Math.max.name) (List.mem_of_getElem? (i := 3) rfl)) (hts (.initialized "java/lang/Math") (List.mem_of_getElem? (i := 4) rfl)) (hts (.code Lib.Math.max.name Lib.Math.max.code 2 (some .int)) (List.mem_of_getElem? (i := 5) rfl)) (Nat.le_of_ble_eq_true rfl) (Nat.le_of_ble_eq_true rfl) (Nat.zero_le _) (Nat.zero_le _) dX9_changesTo_57 ?_
  refine lv_iadd hx hb dX9_changesTo_60 ?_
  obtain ⟨rfl, rfl⟩ := so_e h
  exact rt_i hx hb hr hlk hd hS dX9_changesTo_61
theorem hv_X9_priceOf : yX9_priceOf.cls = RX9 ∧ yX9_priceOf.cls ≠ "java/lang/invoke/MethodHandle" ∧ yX9_priceOf.cls ≠ "java/lang/invoke/VarHandle" ∧ (parseMethodDescriptor yX9_priceOf.desc).map (fun d => d.parameters.length) = some 2 := by decide +kernel
abbrev HL_X9_priceOf_7 (l : Launch) (D : va_G) (cA : Nat → ClassId) (z : Nat) (av : List Value) (r : Int32) (μ' : Mm) (p : Program) (e : Env) (s : State) (m : MethodId) (below : List Frame) (meth : Method) (c : Code) (rc : Mm → Nat → Int32 → Int32 → Int32 → Int32 → Option (Int32 × Mm)) : Prop := ∀ (μ : Mm) (H : Heap) (locs : List Loc) (ls : Array Slot) (a0 : Nat) (x1 : Int32) (x2 : Int32) (x3 : Int32) (x4 : Int32), kd a0 = 9 → Wd D cA z μ H → va_S (Az z) s.heap H locs → lv_has ls 6 [(0, .ref (z + a0)), (1, .int x1), (2, .int x2), (3, .int x3), (4, .int x4)] → rc μ a0 x1 x2 x3 x4 = some (r, μ') → WG l D cA z wsX9_priceOf 2 50 av (some (.int r)) μ' p e s m below meth c H locs (F0 m 7 ls [])
abbrev HL_X9_priceOf_22 (l : Launch) (D : va_G) (cA : Nat → ClassId) (z : Nat) (av : List Value) (r : Int32) (μ' : Mm) (p : Program) (e : Env) (s : State) (m : MethodId) (below : List Frame) (meth : Method) (c : Code) (rc : Mm → Nat → Int32 → Int32 → Int32 → Int32 → Int32 → Option (Int32 × Mm)) : Prop := ∀ (μ : Mm) (H : Heap) (locs : List Loc) (ls : Array Slot) (a0 : Nat) (x1 : Int32) (x2 : Int32) (x3 : Int32) (x4 : Int32) (x5 : Int32), kd a0 = 9 → Wd D cA z μ H → va_S (Az z) s.heap H locs → lv_has ls 6 [(0, .ref (z + a0)), (1, .int x1), (2, .int x2), (3, .int x3), (4, .int x4), (5, .int x5)] → rc μ a0 x1 x2 x3 x4 x5 = some (r, μ') → WG l D cA z wsX9_priceOf 2 50 av (some (.int r)) μ' p e s m below meth c H locs (F0 m 22 ls [])
def f_X9_priceOf_j63 (rc7 : Mm → Nat → Int32 → Int32 → Int32 → Int32 → Option (Int32 × Mm)) (rc22 : Mm → Nat → Int32 → Int32 → Int32 → Int32 → Int32 → Option (Int32 × Mm)) (μ : Mm) (a0 : Nat) (x1 : Int32) (x2 : Int32) (x3 : Int32) (x4 : Int32) (x5 : Int32) : Option (Int32 × Mm) := rc22 μ a0 x1 x2 x3 x4 (x5 + (1 : Int32))
set_option maxRecDepth 100000 in
theorem k_f_X9_priceOf_j63 {l : Launch} {D : va_G} {cA : Nat → ClassId} {z : Nat} {av : List Value} {p : Program} {e : Env} {s : State} {m : MethodId} {below : List Frame} {meth : Method} {c : Code} {r : Int32} {μ' : Mm} (X : Fx D cA RX9 wsX9_priceOf cX9_priceOf 6 (some .int) p s m av.toArray meth c) {rc7 : Mm → Nat → Int32 → Int32 → Int32 → Int32 → Option (Int32 × Mm)} {rc22 : Mm → Nat → Int32 → Int32 → Int32 → Int32 → Int32 → Option (Int32 × Mm)} (hrc7 : HL_X9_priceOf_7 l D cA z av r μ' p e s m below meth c rc7) (hrc22 : HL_X9_priceOf_22 l D cA z av r μ' p e s m below meth c rc22) {μ : Mm} {a0 : Nat} {x1 : Int32} {x2 : Int32} {x3 : Int32} {x4 : Int32} {x5 : Int32} (hk_a0 : kd a0 = 9) {H : Heap} {locs : List Loc} {ls : Array Slot} (hd : Wd D cA z μ H) (hS : va_S (Az z) s.heap H locs) (hl : lv_has ls 6 [(0, .ref (z + a0)), (1, .int x1), (2, .int x2), (3, .int x3), (4, .int x4), (5, .int x5)]) (h : f_X9_priceOf_j63 rc7 rc22 μ a0 x1 x2 x3 x4 x5 = some (r, μ')) : WG l D cA z wsX9_priceOf 2 50 av (some (.int r)) μ' p e s m below meth c H locs (F0 m 63 ls []) := by
  obtain ⟨hx, hb, hr, hlk, hml, hown, hts, hK⟩ := id X
  unfold f_X9_priceOf_j63 at h
  refine lv_iinc (v := x5 + (1 : Int32)) (lv' := [(5, .int (x5 + (1 : Int32))), (0, .ref (z + a0)), (1, .int x1), (2, .int x2), (3, .int x3), (4, .int x4)]) hx hb dX9_priceOf_63 hl (k := 5) rfl rfl (by decide) rfl (fun ls hl => ?_)
  refine lv_goto (tgt := 22) hx hb dX9_priceOf_66 (by decide) ?_
  exact hrc22 _ _ _ _ _ _ _ _ _ _ hk_a0 hd hS (lv_sub hl [1, 2, 3, 4, 5, 0] rfl) h
def f_X9_priceOf_L22b (rc7 : Mm → Nat → Int32 → Int32 → Int32 → Int32 → Option (Int32 × Mm)) (rc22 : Mm → Nat → Int32 → Int32 → Int32 → Int32 → Int32 → Option (Int32 × Mm)) (μ : Mm) (a0 : Nat) (x1 : Int32) (x2 : Int32) (x3 : Int32) (x4 : Int32) (x5 : Int32) : Option (Int32 × Mm) := bR (μ.2 a0 1) (fun b1 => if ((μ.1 b1 4) - x4) < x5 then (rc7 μ a0 x1 x2 x3 (x4 + (1 : Int32))) else (bC (f_X9_standBy μ (x4 - x5)) (fun r4 μ3 => if r4 = x2 then (bC (f_X9_changesTo μ3 a0 x1 x4 x5) (fun r8 μ7 => bI (if r8 < x3 then r8 else x3) (fun v10 => f_X9_priceOf_j63 rc7 rc22 μ7 a0 x1 x2 v10 x4 x5))) else (f_X9_priceOf_j63 rc7 rc22 μ3 a0 x1 x2 x3 x4 x5))))
set_option maxRecDepth 100000 in
theorem k_f_X9_priceOf_L22b {l : Launch} {D : va_G} {cA : Nat → ClassId} {z : Nat} {av : List Value} {p : Program} {e : Env} {s : State} {m : MethodId} {below : List Frame} {meth : Method} {c : Code} {r : Int32} {μ' : Mm} (X : Fx D cA RX9 wsX9_priceOf cX9_priceOf 6 (some .int) p s m av.toArray meth c) {rc7 : Mm → Nat → Int32 → Int32 → Int32 → Int32 → Option (Int32 × Mm)} {rc22 : Mm → Nat → Int32 → Int32 → Int32 → Int32 → Int32 → Option (Int32 × Mm)} (hrc7 : HL_X9_priceOf_7 l D cA z av r μ' p e s m below meth c rc7) (hrc22 : HL_X9_priceOf_22 l D cA z av r μ' p e s m below meth c rc22) {μ : Mm} {a0 : Nat} {x1 : Int32} {x2 : Int32} {x3 : Int32} {x4 : Int32} {x5 : Int32} (hk_a0 : kd a0 = 9) {H : Heap} {locs : List Loc} {ls : Array Slot} (hd : Wd D cA z μ H) (hS : va_S (Az z) s.heap H locs) (hl : lv_has ls 6 [(0, .ref (z + a0)), (1, .int x1), (2, .int x2), (3, .int x3), (4, .int x4), (5, .int x5)]) (h : f_X9_priceOf_L22b rc7 rc22 μ a0 x1 x2 x3 x4 x5 = some (r, μ')) : WG l D cA z wsX9_priceOf 2 50 av (some (.int r)) μ' p e s m below meth c H locs (F0 m 22 ls []) := by
  obtain ⟨hx, hb, hr, hlk, hml, hown, hts, hK⟩ := id X
  unfold f_X9_priceOf_L22b at h
  refine lv_iload hx hb dX9_priceOf_22 (lv_at hl 5 rfl) ?_
  refine lv_aload_n hx hb dX9_priceOf_24 rfl (lv_at hl 0 rfl) ?_
  obtain ⟨b1, hb1, h⟩ := bR_e h
  refine r_getr hx hb hts (fun w h => List.mem_cons_of_mem _ (List.mem_append_left _ (List.mem_append_left _ (List.mem_append_right _ (h))))) hown hK hd hk_a0 hb1 rfl fs_9_1 (hts (.fieldLink RX9 19 "LevelVotes" "plan" "LLevelVotes$House;") (List.mem_of_getElem? (i := 1) rfl)) dX9_priceOf_25 (fun hq => ?_)
  have hk_b1 : kd b1 = 4 := hq
  refine r_geti hx hb hts (fun w h => List.mem_cons_of_mem _ (List.mem_append_left _ (List.mem_append_right _ (h)))) hown hK hd hk_b1 rfl 4 fs_4_4 (hts (.fieldLink RX9 118 "LevelVotes$House" "persons" "I") (List.mem_of_getElem? (i := 2) rfl)) dX9_priceOf_28 ?_
  refine lv_iload hx hb dX9_priceOf_31 (lv_at hl 4 rfl) ?_
  refine lv_isub hx hb dX9_priceOf_33 ?_
  refine lv_icmp_gt (tgt := 69) hx hb dX9_priceOf_34 (by decide) (fun q2 => ?_) (fun q2 => ?_)
  · have h := if_y q2 h
    refine lv_iinc (v := x4 + (1 : Int32)) (lv' := [(4, .int (x4 + (1 : Int32))), (0, .ref (z + a0)), (1, .int x1), (2, .int x2), (3, .int x3), (5, .int x5)]) hx hb dX9_priceOf_69 hl (k := 4) rfl rfl (by decide) rfl (fun ls hl => ?_)
    refine lv_goto (tgt := 7) hx hb dX9_priceOf_72 (by decide) ?_
    exact hrc7 _ _ _ _ _ _ _ _ _ hk_a0 hd hS (lv_sub hl [1, 2, 3, 4, 0] rfl) h
  · have h := if_n q2 h
    refine lv_iload hx hb dX9_priceOf_37 (lv_at hl 4 rfl) ?_
    refine lv_iload hx hb dX9_priceOf_39 (lv_at hl 5 rfl) ?_
    refine lv_isub hx hb dX9_priceOf_41 ?_
    obtain ⟨r4, μ3, hc5, h⟩ := bC_e h
    refine rc_Si (rest := []) [.int (x4 - x5)] ⟨hx, hb, hml, hown, hts⟩ hK hd hS (c_X9_standBy  hc5) (va_cwS 1 hts gX9_priceOf_X9_standBy rfl rfl rfl hn_X9_standBy ⟨Nat.le_of_ble_eq_true rfl, Nat.le_of_ble_eq_true rfl⟩) rfl hl.1 rfl (Nat.le_of_ble_eq_true rfl) dX9_priceOf_42 ⟨Nat.zero_le _, Nat.zero_le _⟩ (fun H locs hd hS => ?_)
    refine lv_iload_n hx hb dX9_priceOf_45 rfl (lv_at hl 2 rfl) ?_
    refine lv_icmp_ne (tgt := 63) hx hb dX9_priceOf_46 (by decide) (fun q6 => ?_) (fun q6 => ?_)
    · have h := if_n q6 h
      exact k_f_X9_priceOf_j63 X hrc7 hrc22 hk_a0 hd hS (lv_sub hl [0, 1, 2, 3, 4, 5] rfl) h
    · have h := if_y q6 h
      refine lv_iload_n hx hb dX9_priceOf_49 rfl (lv_at hl 3 rfl) ?_
      refine lv_aload_n hx hb dX9_priceOf_50 rfl (lv_at hl 0 rfl) ?_
      refine lv_iload_n hx hb dX9_priceOf_51 rfl (lv_at hl 1 rfl) ?_
      refine lv_iload hx hb dX9_priceOf_52 (lv_at hl 4 rfl) ?_
      refine lv_iload hx hb dX9_priceOf_54 (lv_at hl 5 rfl) ?_
      obtain ⟨r8, μ7, hc9, h⟩ := bC_e h
      refine rc_Vi (rest := [.int x3]) [.int x1, .int x4, .int x5] ⟨hx, hb, hml, hown, hts⟩ hK hd hS (c_X9_changesTo hk_a0 hc9) (cwV 3 hts gX9_priceOf_X9_changesTo rfl rfl rfl hv_X9_changesTo ⟨Nat.le_of_ble_eq_true rfl, Nat.le_of_ble_eq_true rfl⟩) hk_a0 rfl rfl rfl rfl hl.1 rfl (Nat.le_of_ble_eq_true rfl) dX9_priceOf_56 ⟨Nat.zero_le _, Nat.zero_le _⟩ (fun H locs hd hS => ?_)
      refine va_mmin hx hb (hml.trans hl.1.symm) hown (hts (.methodLink RX9 331 Lib.Math.min.name) (List.mem_of_getElem? (i := 3) rfl)) (hts (.static Lib.Math.min.name) (List.mem_of_getElem? (i := 4) rfl)) (hts (.initialized "java/lang/Math") (List.mem_of_getElem? (i := 5) rfl)) (hts (.code Lib.Math.min.name Lib.Math.min.code 2 (some .int)) (List.mem_of_getElem? (i := 6) rfl)) (Nat.le_of_ble_eq_true rfl) (Nat.le_of_ble_eq_true rfl) (Nat.zero_le _) (Nat.zero_le _) dX9_priceOf_59 ?_
      refine lv_topi (fun v10 ev10 => ?_)
      have h := bI_e ev10 h
      refine lv_istore_n (lv' := [(3, .int v10), (0, .ref (z + a0)), (1, .int x1), (2, .int x2), (4, .int x4), (5, .int x5)]) hx hb dX9_priceOf_62 rfl hl (by decide) rfl (fun ls hl => ?_)
      exact k_f_X9_priceOf_j63 X hrc7 hrc22 hk_a0 hd hS (lv_sub hl [1, 2, 3, 0, 4, 5] rfl) h
def f_X9_priceOf_L22 (rc7 : Mm → Nat → Int32 → Int32 → Int32 → Int32 → Option (Int32 × Mm)) : Nat → Mm → Nat → Int32 → Int32 → Int32 → Int32 → Int32 → Option (Int32 × Mm)
  | 0 => fun _ _ _ _ _ _ _ => none
  | n + 1 => fun μ a0 x1 x2 x3 x4 x5 => f_X9_priceOf_L22b rc7 (f_X9_priceOf_L22 rc7 n) μ a0 x1 x2 x3 x4 x5
theorem k_f_X9_priceOf_L22 {l : Launch} {D : va_G} {cA : Nat → ClassId} {z : Nat} {av : List Value} {p : Program} {e : Env} {s : State} {m : MethodId} {below : List Frame} {meth : Method} {c : Code} {r : Int32} {μ' : Mm} (X : Fx D cA RX9 wsX9_priceOf cX9_priceOf 6 (some .int) p s m av.toArray meth c) {rc7 : Mm → Nat → Int32 → Int32 → Int32 → Int32 → Option (Int32 × Mm)} (hrc7 : HL_X9_priceOf_7 l D cA z av r μ' p e s m below meth c rc7) (n : Nat) : HL_X9_priceOf_22 l D cA z av r μ' p e s m below meth c (f_X9_priceOf_L22 rc7 n) := by
  induction n with
  | zero => intro _ _ _ _ _ _ _ _ _ _ _ _ _ _ h; have h2 : (none : Option _) = some _ := h; cases h2
  | succ n ih => intro μ H locs ls a0 x1 x2 x3 x4 x5 hk_a0 hd hS hl h; exact k_f_X9_priceOf_L22b X hrc7 ih hk_a0 hd hS hl h
def f_X9_priceOf_L7b (rc7 : Mm → Nat → Int32 → Int32 → Int32 → Int32 → Option (Int32 × Mm)) (μ : Mm) (a0 : Nat) (x1 : Int32) (x2 : Int32) (x3 : Int32) (x4 : Int32) : Option (Int32 × Mm) := bR (μ.2 a0 1) (fun b1 => if (μ.1 b1 4) < x4 then (some (x3, μ)) else (f_X9_priceOf_L22 rc7 FU μ a0 x1 x2 x3 x4 (0 : Int32)))
set_option maxRecDepth 100000 in
theorem k_f_X9_priceOf_L7b {l : Launch} {D : va_G} {cA : Nat → ClassId} {z : Nat} {av : List Value} {p : Program} {e : Env} {s : State} {m : MethodId} {below : List Frame} {meth : Method} {c : Code} {r : Int32} {μ' : Mm} (X : Fx D cA RX9 wsX9_priceOf cX9_priceOf 6 (some .int) p s m av.toArray meth c) {rc7 : Mm → Nat → Int32 → Int32 → Int32 → Int32 → Option (Int32 × Mm)} (hrc7 : HL_X9_priceOf_7 l D cA z av r μ' p e s m below meth c rc7) {μ : Mm} {a0 : Nat} {x1 : Int32} {x2 : Int32} {x3 : Int32} {x4 : Int32} (hk_a0 : kd a0 = 9) {H : Heap} {locs : List Loc} {ls : Array Slot} (hd : Wd D cA z μ H) (hS : va_S (Az z) s.heap H locs) (hl : lv_has ls 6 [(0, .ref (z + a0)), (1, .int x1), (2, .int x2), (3, .int x3), (4, .int x4)]) (h : f_X9_priceOf_L7b rc7 μ a0 x1 x2 x3 x4 = some (r, μ')) : WG l D cA z wsX9_priceOf 2 50 av (some (.int r)) μ' p e s m below meth c H locs (F0 m 7 ls []) := by
  obtain ⟨hx, hb, hr, hlk, hml, hown, hts, hK⟩ := id X
  unfold f_X9_priceOf_L7b at h
  refine lv_iload hx hb dX9_priceOf_7 (lv_at hl 4 rfl) ?_
  refine lv_aload_n hx hb dX9_priceOf_9 rfl (lv_at hl 0 rfl) ?_
  obtain ⟨b1, hb1, h⟩ := bR_e h
  refine r_getr hx hb hts (fun w h => List.mem_cons_of_mem _ (List.mem_append_left _ (List.mem_append_left _ (List.mem_append_right _ (h))))) hown hK hd hk_a0 hb1 rfl fs_9_1 (hts (.fieldLink RX9 19 "LevelVotes" "plan" "LLevelVotes$House;") (List.mem_of_getElem? (i := 1) rfl)) dX9_priceOf_10 (fun hq => ?_)
  have hk_b1 : kd b1 = 4 := hq
  refine r_geti hx hb hts (fun w h => List.mem_cons_of_mem _ (List.mem_append_left _ (List.mem_append_right _ (h)))) hown hK hd hk_b1 rfl 4 fs_4_4 (hts (.fieldLink RX9 118 "LevelVotes$House" "persons" "I") (List.mem_of_getElem? (i := 2) rfl)) dX9_priceOf_13 ?_
  refine lv_icmp_gt (tgt := 75) hx hb dX9_priceOf_16 (by decide) (fun q2 => ?_) (fun q2 => ?_)
  · have h := if_y q2 h
    refine lv_iload_n hx hb dX9_priceOf_75 rfl (lv_at hl 3 rfl) ?_
    obtain ⟨rfl, rfl⟩ := so_e h
    exact rt_i hx hb hr hlk hd hS dX9_priceOf_76
  · have h := if_n q2 h
    refine lv_iconst (v := 0) hx hb dX9_priceOf_19 (by decide) ?_
    refine lv_istore (lv' := [(5, .int (0 : Int32)), (0, .ref (z + a0)), (1, .int x1), (2, .int x2), (3, .int x3), (4, .int x4)]) hx hb dX9_priceOf_20 hl (by decide) rfl (fun ls hl => ?_)
    exact k_f_X9_priceOf_L22 X hrc7 FU _ _ _ _ _ _ _ _ _ _ hk_a0 hd hS (lv_sub hl [1, 2, 3, 4, 5, 0] rfl) h
def f_X9_priceOf_L7 : Nat → Mm → Nat → Int32 → Int32 → Int32 → Int32 → Option (Int32 × Mm)
  | 0 => fun _ _ _ _ _ _ => none
  | n + 1 => fun μ a0 x1 x2 x3 x4 => f_X9_priceOf_L7b (f_X9_priceOf_L7 n) μ a0 x1 x2 x3 x4
theorem k_f_X9_priceOf_L7 {l : Launch} {D : va_G} {cA : Nat → ClassId} {z : Nat} {av : List Value} {p : Program} {e : Env} {s : State} {m : MethodId} {below : List Frame} {meth : Method} {c : Code} {r : Int32} {μ' : Mm} (X : Fx D cA RX9 wsX9_priceOf cX9_priceOf 6 (some .int) p s m av.toArray meth c) (n : Nat) : HL_X9_priceOf_7 l D cA z av r μ' p e s m below meth c (f_X9_priceOf_L7 n) := by
  induction n with
  | zero => intro _ _ _ _ _ _ _ _ _ _ _ _ _ h; have h2 : (none : Option _) = some _ := h; cases h2
  | succ n ih => intro μ H locs ls a0 x1 x2 x3 x4 hk_a0 hd hS hl h; exact k_f_X9_priceOf_L7b X ih hk_a0 hd hS hl h
def f_X9_priceOf (μ : Mm) (a0 : Nat) (x1 : Int32) (x2 : Int32) : Option (Int32 × Mm) := f_X9_priceOf_L7 FU μ a0 x1 x2 (1000 : Int32) (0 : Int32)
set_option maxRecDepth 100000 in
theorem c_X9_priceOf {l : Launch} {D : va_G} {cA : Nat → ClassId} {z : Nat} {μ : Mm} {a0 : Nat} {x1 : Int32} {x2 : Int32} {r : Int32} {μ' : Mm} (hk_a0 : kd a0 = 9) (h : f_X9_priceOf μ a0 x1 x2 = some (r, μ')) : Ct l D cA z yX9_priceOf wsX9_priceOf 2 50 [.ref (z + a0), .int x1, .int x2] μ (some (.int r)) μ' := by
  refine m_in (cc := cX9_priceOf) (maxL := 6) (ret := (some .int)) (own := RX9) (by decide) rfl rfl (Nat.le_of_ble_eq_true rfl) ?_
  intro p e s m below meth c ls X hd hS hl
  obtain ⟨hx, hb, hr, hlk, hml, hown, hts, hK⟩ := id X
  have hl : lv_has ls 6 [(0, .ref (z + a0)), (1, .int x1), (2, .int x2)] := hl
  unfold f_X9_priceOf at h
  refine lv_sipush (v := 1000) hx hb dX9_priceOf_0 (by decide) ?_
  refine lv_istore_n (lv' := [(3, .int (1000 : Int32)), (0, .ref (z + a0)), (1, .int x1), (2, .int x2)]) hx hb dX9_priceOf_3 rfl hl (by decide) rfl (fun ls hl => ?_)
  refine lv_iconst (v := 0) hx hb dX9_priceOf_4 (by decide) ?_
  refine lv_istore (lv' := [(4, .int (0 : Int32)), (3, .int (1000 : Int32)), (0, .ref (z + a0)), (1, .int x1), (2, .int x2)]) hx hb dX9_priceOf_5 hl (by decide) rfl (fun ls hl => ?_)
  exact k_f_X9_priceOf_L7 X FU _ _ _ _ _ _ _ _ _ hk_a0 hd hS (lv_sub hl [2, 3, 4, 1, 0] rfl) h
theorem hv_X9_fillPrices : yX9_fillPrices.cls = RX9 ∧ yX9_fillPrices.cls ≠ "java/lang/invoke/MethodHandle" ∧ yX9_fillPrices.cls ≠ "java/lang/invoke/VarHandle" ∧ (parseMethodDescriptor yX9_fillPrices.desc).map (fun d => d.parameters.length) = some 0 := by decide +kernel
abbrev HL_X9_fillPrices_2 (l : Launch) (D : va_G) (cA : Nat → ClassId) (z : Nat) (av : List Value) (μ' : Mm) (p : Program) (e : Env) (s : State) (m : MethodId) (below : List Frame) (meth : Method) (c : Code) (rc : Mm → Nat → Int32 → Option Mm) : Prop := ∀ (μ : Mm) (H : Heap) (locs : List Loc) (ls : Array Slot) (a0 : Nat) (x1 : Int32), kd a0 = 9 → Wd D cA z μ H → va_S (Az z) s.heap H locs → lv_has ls 3 [(0, .ref (z + a0)), (1, .int x1)] → rc μ a0 x1 = some μ' → WG l D cA z wsX9_fillPrices 3 75 av none μ' p e s m below meth c H locs (F0 m 2 ls [])
abbrev HL_X9_fillPrices_9 (l : Launch) (D : va_G) (cA : Nat → ClassId) (z : Nat) (av : List Value) (μ' : Mm) (p : Program) (e : Env) (s : State) (m : MethodId) (below : List Frame) (meth : Method) (c : Code) (rc : Mm → Nat → Int32 → Int32 → Option Mm) : Prop := ∀ (μ : Mm) (H : Heap) (locs : List Loc) (ls : Array Slot) (a0 : Nat) (x1 : Int32) (x2 : Int32), kd a0 = 9 → Wd D cA z μ H → va_S (Az z) s.heap H locs → lv_has ls 3 [(0, .ref (z + a0)), (1, .int x1), (2, .int x2)] → rc μ a0 x1 x2 = some μ' → WG l D cA z wsX9_fillPrices 3 75 av none μ' p e s m below meth c H locs (F0 m 9 ls [])
def f_X9_fillPrices_L9b (rc2 : Mm → Nat → Int32 → Option Mm) (rc9 : Mm → Nat → Int32 → Int32 → Option Mm) (μ : Mm) (a0 : Nat) (x1 : Int32) (x2 : Int32) : Option Mm := if (3 : Int32) ≤ x2 then (rc2 μ a0 (x1 + (1 : Int32))) else (bR (μ.2 a0 11) (fun b2 => bC (f_X9_priceOf μ a0 x1 x2) (fun r4 μ3 => gd (ckb ((x1 * (3 : Int32)) + x2) (ln b2)) (bM (up2 μ3.1 b2 ((x1 * (3 : Int32)) + x2).toNatClampNeg r4, μ3.2) (fun μ7 => rc9 μ7 a0 x1 (x2 + (1 : Int32)))))))
set_option maxRecDepth 100000 in
theorem k_f_X9_fillPrices_L9b {l : Launch} {D : va_G} {cA : Nat → ClassId} {z : Nat} {av : List Value} {p : Program} {e : Env} {s : State} {m : MethodId} {below : List Frame} {meth : Method} {c : Code} {μ' : Mm} (X : Fx D cA RX9 wsX9_fillPrices cX9_fillPrices 3 none p s m av.toArray meth c) {rc2 : Mm → Nat → Int32 → Option Mm} {rc9 : Mm → Nat → Int32 → Int32 → Option Mm} (hrc2 : HL_X9_fillPrices_2 l D cA z av μ' p e s m below meth c rc2) (hrc9 : HL_X9_fillPrices_9 l D cA z av μ' p e s m below meth c rc9) {μ : Mm} {a0 : Nat} {x1 : Int32} {x2 : Int32} (hk_a0 : kd a0 = 9) {H : Heap} {locs : List Loc} {ls : Array Slot} (hd : Wd D cA z μ H) (hS : va_S (Az z) s.heap H locs) (hl : lv_has ls 3 [(0, .ref (z + a0)), (1, .int x1), (2, .int x2)]) (h : f_X9_fillPrices_L9b rc2 rc9 μ a0 x1 x2 = some μ') : WG l D cA z wsX9_fillPrices 3 75 av none μ' p e s m below meth c H locs (F0 m 9 ls []) := by
  obtain ⟨hx, hb, hr, hlk, hml, hown, hts, hK⟩ := id X
  unfold f_X9_fillPrices_L9b at h
  refine lv_iload_n hx hb dX9_fillPrices_9 rfl (lv_at hl 2 rfl) ?_
  refine lv_iconst (v := 3) hx hb dX9_fillPrices_10 (by decide) ?_
  refine lv_icmp_ge (tgt := 36) hx hb dX9_fillPrices_11 (by decide) (fun q1 => ?_) (fun q1 => ?_)
  · have h := if_y q1 h
    refine lv_iinc (v := x1 + (1 : Int32)) (lv' := [(1, .int (x1 + (1 : Int32))), (0, .ref (z + a0)), (2, .int x2)]) hx hb dX9_fillPrices_36 hl (k := 1) rfl rfl (by decide) rfl (fun ls hl => ?_)
    refine lv_goto (tgt := 2) hx hb dX9_fillPrices_39 (by decide) ?_
    exact hrc2 _ _ _ _ _ _ hk_a0 hd hS (lv_sub hl [1, 0] rfl) h
  · have h := if_n q1 h
    refine lv_aload_n hx hb dX9_fillPrices_14 rfl (lv_at hl 0 rfl) ?_
    obtain ⟨b2, hb2, h⟩ := bR_e h
    refine r_getr hx hb hts (fun w h => List.mem_cons_of_mem _ (List.mem_append_left _ (List.mem_append_left _ (List.mem_append_right _ (h))))) hown hK hd hk_a0 hb2 rfl fs_9_11 (hts (.fieldLink RX9 78 "LevelVotes" "prices" "[I") (List.mem_of_getElem? (i := 1) rfl)) dX9_fillPrices_15 (fun hq => ?_)
    have hk_b2 : kd b2 = 11 := hq
    refine lv_iload_n hx hb dX9_fillPrices_18 rfl (lv_at hl 1 rfl) ?_
    refine lv_iconst (v := 3) hx hb dX9_fillPrices_19 (by decide) ?_
    refine lv_imul hx hb dX9_fillPrices_20 ?_
    refine lv_iload_n hx hb dX9_fillPrices_21 rfl (lv_at hl 2 rfl) ?_
    refine lv_iadd hx hb dX9_fillPrices_22 ?_
    refine lv_aload_n hx hb dX9_fillPrices_23 rfl (lv_at hl 0 rfl) ?_
    refine lv_iload_n hx hb dX9_fillPrices_24 rfl (lv_at hl 1 rfl) ?_
    refine lv_iload_n hx hb dX9_fillPrices_25 rfl (lv_at hl 2 rfl) ?_
    obtain ⟨r4, μ3, hc5, h⟩ := bC_e h
    refine rc_Vi (rest := [.int ((x1 * (3 : Int32)) + x2), .ref (z + b2)]) [.int x1, .int x2] ⟨hx, hb, hml, hown, hts⟩ hK hd hS (c_X9_priceOf hk_a0 hc5) (cwV 2 hts gX9_fillPrices_X9_priceOf rfl rfl rfl hv_X9_priceOf ⟨Nat.le_of_ble_eq_true rfl, Nat.le_of_ble_eq_true rfl⟩) hk_a0 rfl rfl rfl rfl hl.1 rfl (Nat.le_of_ble_eq_true rfl) dX9_fillPrices_26 ⟨Nat.zero_le _, Nat.zero_le _⟩ (fun H locs hd hS => ?_)
    obtain ⟨g6, h⟩ := gd_e h
    refine r_iast hx hb hK hd hS hk_b2 (ckb_in g6) dX9_fillPrices_29 (fun μ7 eμ7 H locs hd hS => ?_)
    have h := bM_e eμ7 h
    refine lv_iinc (v := x2 + (1 : Int32)) (lv' := [(2, .int (x2 + (1 : Int32))), (0, .ref (z + a0)), (1, .int x1)]) hx hb dX9_fillPrices_30 hl (k := 2) rfl rfl (by decide) rfl (fun ls hl => ?_)
    refine lv_goto (tgt := 9) hx hb dX9_fillPrices_33 (by decide) ?_
    exact hrc9 _ _ _ _ _ _ _ hk_a0 hd hS (lv_sub hl [1, 2, 0] rfl) h
def f_X9_fillPrices_L9 (rc2 : Mm → Nat → Int32 → Option Mm) : Nat → Mm → Nat → Int32 → Int32 → Option Mm
  | 0 => fun _ _ _ _ => none
  | n + 1 => fun μ a0 x1 x2 => f_X9_fillPrices_L9b rc2 (f_X9_fillPrices_L9 rc2 n) μ a0 x1 x2
theorem k_f_X9_fillPrices_L9 {l : Launch} {D : va_G} {cA : Nat → ClassId} {z : Nat} {av : List Value} {p : Program} {e : Env} {s : State} {m : MethodId} {below : List Frame} {meth : Method} {c : Code} {μ' : Mm} (X : Fx D cA RX9 wsX9_fillPrices cX9_fillPrices 3 none p s m av.toArray meth c) {rc2 : Mm → Nat → Int32 → Option Mm} (hrc2 : HL_X9_fillPrices_2 l D cA z av μ' p e s m below meth c rc2) (n : Nat) : HL_X9_fillPrices_9 l D cA z av μ' p e s m below meth c (f_X9_fillPrices_L9 rc2 n) := by
  induction n with
  | zero => intro _ _ _ _ _ _ _ _ _ _ _ h; have h2 : (none : Option _) = some _ := h; cases h2
  | succ n ih => intro μ H locs ls a0 x1 x2 hk_a0 hd hS hl h; exact k_f_X9_fillPrices_L9b X hrc2 ih hk_a0 hd hS hl h
def f_X9_fillPrices_L2b (rc2 : Mm → Nat → Int32 → Option Mm) (μ : Mm) (a0 : Nat) (x1 : Int32) : Option Mm := if (5 : Int32) ≤ x1 then (some μ) else (f_X9_fillPrices_L9 rc2 FU μ a0 x1 (0 : Int32))
set_option maxRecDepth 100000 in
theorem k_f_X9_fillPrices_L2b {l : Launch} {D : va_G} {cA : Nat → ClassId} {z : Nat} {av : List Value} {p : Program} {e : Env} {s : State} {m : MethodId} {below : List Frame} {meth : Method} {c : Code} {μ' : Mm} (X : Fx D cA RX9 wsX9_fillPrices cX9_fillPrices 3 none p s m av.toArray meth c) {rc2 : Mm → Nat → Int32 → Option Mm} (hrc2 : HL_X9_fillPrices_2 l D cA z av μ' p e s m below meth c rc2) {μ : Mm} {a0 : Nat} {x1 : Int32} (hk_a0 : kd a0 = 9) {H : Heap} {locs : List Loc} {ls : Array Slot} (hd : Wd D cA z μ H) (hS : va_S (Az z) s.heap H locs) (hl : lv_has ls 3 [(0, .ref (z + a0)), (1, .int x1)]) (h : f_X9_fillPrices_L2b rc2 μ a0 x1 = some μ') : WG l D cA z wsX9_fillPrices 3 75 av none μ' p e s m below meth c H locs (F0 m 2 ls []) := by
  obtain ⟨hx, hb, hr, hlk, hml, hown, hts, hK⟩ := id X
  unfold f_X9_fillPrices_L2b at h
  refine lv_iload_n hx hb dX9_fillPrices_2 rfl (lv_at hl 1 rfl) ?_
  refine lv_iconst (v := 5) hx hb dX9_fillPrices_3 (by decide) ?_
  refine lv_icmp_ge (tgt := 42) hx hb dX9_fillPrices_4 (by decide) (fun q1 => ?_) (fun q1 => ?_)
  · have h := if_y q1 h
    obtain rfl := sv_e h
    exact rt_v hx hb hr hlk hd hS dX9_fillPrices_42
  · have h := if_n q1 h
    refine lv_iconst (v := 0) hx hb dX9_fillPrices_7 (by decide) ?_
    refine lv_istore_n (lv' := [(2, .int (0 : Int32)), (0, .ref (z + a0)), (1, .int x1)]) hx hb dX9_fillPrices_8 rfl hl (by decide) rfl (fun ls hl => ?_)
    exact k_f_X9_fillPrices_L9 X hrc2 FU _ _ _ _ _ _ _ hk_a0 hd hS (lv_sub hl [1, 2, 0] rfl) h
def f_X9_fillPrices_L2 : Nat → Mm → Nat → Int32 → Option Mm
  | 0 => fun _ _ _ => none
  | n + 1 => fun μ a0 x1 => f_X9_fillPrices_L2b (f_X9_fillPrices_L2 n) μ a0 x1
theorem k_f_X9_fillPrices_L2 {l : Launch} {D : va_G} {cA : Nat → ClassId} {z : Nat} {av : List Value} {p : Program} {e : Env} {s : State} {m : MethodId} {below : List Frame} {meth : Method} {c : Code} {μ' : Mm} (X : Fx D cA RX9 wsX9_fillPrices cX9_fillPrices 3 none p s m av.toArray meth c) (n : Nat) : HL_X9_fillPrices_2 l D cA z av μ' p e s m below meth c (f_X9_fillPrices_L2 n) := by
  induction n with
  | zero => intro _ _ _ _ _ _ _ _ _ _ h; have h2 : (none : Option _) = some _ := h; cases h2
  | succ n ih => intro μ H locs ls a0 x1 hk_a0 hd hS hl h; exact k_f_X9_fillPrices_L2b X ih hk_a0 hd hS hl h
def f_X9_fillPrices (μ : Mm) (a0 : Nat) : Option Mm := f_X9_fillPrices_L2 FU μ a0 (0 : Int32)
set_option maxRecDepth 100000 in
theorem c_X9_fillPrices {l : Launch} {D : va_G} {cA : Nat → ClassId} {z : Nat} {μ : Mm} {a0 : Nat} {μ' : Mm} (hk_a0 : kd a0 = 9) (h : f_X9_fillPrices μ a0 = some μ') : Ct l D cA z yX9_fillPrices wsX9_fillPrices 3 75 [.ref (z + a0)] μ none μ' := by
  refine m_in (cc := cX9_fillPrices) (maxL := 3) (ret := none) (own := RX9) (by decide) rfl rfl (Nat.le_of_ble_eq_true rfl) ?_
  intro p e s m below meth c ls X hd hS hl
  obtain ⟨hx, hb, hr, hlk, hml, hown, hts, hK⟩ := id X
  have hl : lv_has ls 3 [(0, .ref (z + a0))] := hl
  unfold f_X9_fillPrices at h
  refine lv_iconst (v := 0) hx hb dX9_fillPrices_0 (by decide) ?_
  refine lv_istore_n (lv' := [(1, .int (0 : Int32)), (0, .ref (z + a0))]) hx hb dX9_fillPrices_1 rfl hl (by decide) rfl (fun ls hl => ?_)
  exact k_f_X9_fillPrices_L2 X FU _ _ _ _ _ _ hk_a0 hd hS (lv_sub hl [1, 0] rfl) h
theorem hv_X9_priceOfWay : yX9_priceOfWay.cls = RX9 ∧ yX9_priceOfWay.cls ≠ "java/lang/invoke/MethodHandle" ∧ yX9_priceOfWay.cls ≠ "java/lang/invoke/VarHandle" ∧ (parseMethodDescriptor yX9_priceOfWay.desc).map (fun d => d.parameters.length) = some 0 := by decide +kernel
abbrev HL_X9_priceOfWay_4 (l : Launch) (D : va_G) (cA : Nat → ClassId) (z : Nat) (av : List Value) (r : Int32) (μ' : Mm) (p : Program) (e : Env) (s : State) (m : MethodId) (below : List Frame) (meth : Method) (c : Code) (rc : Mm → Nat → Int32 → Int32 → Option (Int32 × Mm)) : Prop := ∀ (μ : Mm) (H : Heap) (locs : List Loc) (ls : Array Slot) (a0 : Nat) (x1 : Int32) (x2 : Int32), kd a0 = 9 → Wd D cA z μ H → va_S (Az z) s.heap H locs → lv_has ls 4 [(0, .ref (z + a0)), (1, .int x1), (2, .int x2)] → rc μ a0 x1 x2 = some (r, μ') → WG l D cA z wsX9_priceOfWay 1 21 av (some (.int r)) μ' p e s m below meth c H locs (F0 m 4 ls [])
def f_X9_priceOfWay_j54 (rc4 : Mm → Nat → Int32 → Int32 → Option (Int32 × Mm)) (μ : Mm) (a0 : Nat) (x2 : Int32) (ys0 : Int32) (ys1 : Int32) : Option (Int32 × Mm) := bI (ys1 + ys0) (fun v1 => rc4 μ a0 v1 (x2 + (1 : Int32)))
set_option maxRecDepth 100000 in
theorem k_f_X9_priceOfWay_j54 {l : Launch} {D : va_G} {cA : Nat → ClassId} {z : Nat} {av : List Value} {p : Program} {e : Env} {s : State} {m : MethodId} {below : List Frame} {meth : Method} {c : Code} {r : Int32} {μ' : Mm} (X : Fx D cA RX9 wsX9_priceOfWay cX9_priceOfWay 4 (some .int) p s m av.toArray meth c) {rc4 : Mm → Nat → Int32 → Int32 → Option (Int32 × Mm)} (hrc4 : HL_X9_priceOfWay_4 l D cA z av r μ' p e s m below meth c rc4) {μ : Mm} {a0 : Nat} {x2 : Int32} {ys0 : Int32} {ys1 : Int32} (hk_a0 : kd a0 = 9) {H : Heap} {locs : List Loc} {ls : Array Slot} (hd : Wd D cA z μ H) (hS : va_S (Az z) s.heap H locs) (hl : lv_has ls 4 [(0, .ref (z + a0)), (2, .int x2)]) (h : f_X9_priceOfWay_j54 rc4 μ a0 x2 ys0 ys1 = some (r, μ')) : WG l D cA z wsX9_priceOfWay 1 21 av (some (.int r)) μ' p e s m below meth c H locs (F0 m 54 ls [.int ys0, .int ys1]) := by
  obtain ⟨hx, hb, hr, hlk, hml, hown, hts, hK⟩ := id X
  unfold f_X9_priceOfWay_j54 at h
  refine lv_iadd hx hb dX9_priceOfWay_54 ?_
  refine lv_topi (fun v1 ev1 => ?_)
  have h := bI_e ev1 h
  refine lv_istore_n (lv' := [(1, .int v1), (0, .ref (z + a0)), (2, .int x2)]) hx hb dX9_priceOfWay_55 rfl hl (by decide) rfl (fun ls hl => ?_)
  refine lv_iinc (v := x2 + (1 : Int32)) (lv' := [(2, .int (x2 + (1 : Int32))), (1, .int v1), (0, .ref (z + a0))]) hx hb dX9_priceOfWay_56 hl (k := 2) rfl rfl (by decide) rfl (fun ls hl => ?_)
  refine lv_goto (tgt := 4) hx hb dX9_priceOfWay_59 (by decide) ?_
  exact hrc4 _ _ _ _ _ _ _ hk_a0 hd hS (lv_sub hl [2, 1, 0] rfl) h
def f_X9_priceOfWay_j51 (rc4 : Mm → Nat → Int32 → Int32 → Option (Int32 × Mm)) (μ : Mm) (a0 : Nat) (x2 : Int32) (ys0 : Int32) : Option (Int32 × Mm) := f_X9_priceOfWay_j54 rc4 μ a0 x2 (1000 : Int32) ys0
set_option maxRecDepth 100000 in
theorem k_f_X9_priceOfWay_j51 {l : Launch} {D : va_G} {cA : Nat → ClassId} {z : Nat} {av : List Value} {p : Program} {e : Env} {s : State} {m : MethodId} {below : List Frame} {meth : Method} {c : Code} {r : Int32} {μ' : Mm} (X : Fx D cA RX9 wsX9_priceOfWay cX9_priceOfWay 4 (some .int) p s m av.toArray meth c) {rc4 : Mm → Nat → Int32 → Int32 → Option (Int32 × Mm)} (hrc4 : HL_X9_priceOfWay_4 l D cA z av r μ' p e s m below meth c rc4) {μ : Mm} {a0 : Nat} {x2 : Int32} {ys0 : Int32} (hk_a0 : kd a0 = 9) {H : Heap} {locs : List Loc} {ls : Array Slot} (hd : Wd D cA z μ H) (hS : va_S (Az z) s.heap H locs) (hl : lv_has ls 4 [(0, .ref (z + a0)), (2, .int x2)]) (h : f_X9_priceOfWay_j51 rc4 μ a0 x2 ys0 = some (r, μ')) : WG l D cA z wsX9_priceOfWay 1 21 av (some (.int r)) μ' p e s m below meth c H locs (F0 m 51 ls [.int ys0]) := by
  obtain ⟨hx, hb, hr, hlk, hml, hown, hts, hK⟩ := id X
  unfold f_X9_priceOfWay_j51 at h
  refine lv_sipush (v := 1000) hx hb dX9_priceOfWay_51 (by decide) ?_
  exact k_f_X9_priceOfWay_j54 X hrc4 hk_a0 hd hS (lv_sub hl [0, 1] rfl) h
def f_X9_priceOfWay_L4b (rc4 : Mm → Nat → Int32 → Int32 → Option (Int32 × Mm)) (μ : Mm) (a0 : Nat) (x1 : Int32) (x2 : Int32) : Option (Int32 × Mm) := bR (μ.2 a0 1) (fun b1 => if (μ.1 b1 3) ≤ x2 then (some (x1, μ)) else (bR (μ.2 a0 9) (fun b3 => bC (f_X8_standOf μ b3 x2) (fun r5 μ4 => bI ((x2 * (3 : Int32)) + r5) (fun v7 => if v7 < 0 then (f_X9_priceOfWay_j51 rc4 μ4 a0 x2 x1) else (bR (μ4.2 a0 11) (fun b9 => if (Int32.ofNat (ln b9)) ≤ v7 then (f_X9_priceOfWay_j51 rc4 μ4 a0 x2 x1) else (bR (μ4.2 a0 11) (fun b11 => gd (ckb v7 (ln b11)) (f_X9_priceOfWay_j54 rc4 μ4 a0 x2 (μ4.1 b11 (v7).toNatClampNeg) x1))))))))))
set_option maxRecDepth 100000 in
theorem k_f_X9_priceOfWay_L4b {l : Launch} {D : va_G} {cA : Nat → ClassId} {z : Nat} {av : List Value} {p : Program} {e : Env} {s : State} {m : MethodId} {below : List Frame} {meth : Method} {c : Code} {r : Int32} {μ' : Mm} (X : Fx D cA RX9 wsX9_priceOfWay cX9_priceOfWay 4 (some .int) p s m av.toArray meth c) {rc4 : Mm → Nat → Int32 → Int32 → Option (Int32 × Mm)} (hrc4 : HL_X9_priceOfWay_4 l D cA z av r μ' p e s m below meth c rc4) {μ : Mm} {a0 : Nat} {x1 : Int32} {x2 : Int32} (hk_a0 : kd a0 = 9) {H : Heap} {locs : List Loc} {ls : Array Slot} (hd : Wd D cA z μ H) (hS : va_S (Az z) s.heap H locs) (hl : lv_has ls 4 [(0, .ref (z + a0)), (1, .int x1), (2, .int x2)]) (h : f_X9_priceOfWay_L4b rc4 μ a0 x1 x2 = some (r, μ')) : WG l D cA z wsX9_priceOfWay 1 21 av (some (.int r)) μ' p e s m below meth c H locs (F0 m 4 ls []) := by
  obtain ⟨hx, hb, hr, hlk, hml, hown, hts, hK⟩ := id X
  unfold f_X9_priceOfWay_L4b at h
  refine lv_iload_n hx hb dX9_priceOfWay_4 rfl (lv_at hl 2 rfl) ?_
  refine lv_aload_n hx hb dX9_priceOfWay_5 rfl (lv_at hl 0 rfl) ?_
  obtain ⟨b1, hb1, h⟩ := bR_e h
  refine r_getr hx hb hts (fun w h => List.mem_cons_of_mem _ (List.mem_append_left _ (List.mem_append_left _ (List.mem_append_right _ (h))))) hown hK hd hk_a0 hb1 rfl fs_9_1 (hts (.fieldLink RX9 19 "LevelVotes" "plan" "LLevelVotes$House;") (List.mem_of_getElem? (i := 1) rfl)) dX9_priceOfWay_6 (fun hq => ?_)
  have hk_b1 : kd b1 = 4 := hq
  refine r_geti hx hb hts (fun w h => List.mem_cons_of_mem _ (List.mem_append_left _ (List.mem_append_right _ (h)))) hown hK hd hk_b1 rfl 3 fs_4_3 (hts (.fieldLink RX9 109 "LevelVotes$House" "items" "I") (List.mem_of_getElem? (i := 2) rfl)) dX9_priceOfWay_9 ?_
  refine lv_icmp_ge (tgt := 62) hx hb dX9_priceOfWay_12 (by decide) (fun q2 => ?_) (fun q2 => ?_)
  · have h := if_y q2 h
    refine lv_iload_n hx hb dX9_priceOfWay_62 rfl (lv_at hl 1 rfl) ?_
    obtain ⟨rfl, rfl⟩ := so_e h
    exact rt_i hx hb hr hlk hd hS dX9_priceOfWay_63
  · have h := if_n q2 h
    refine lv_iload_n hx hb dX9_priceOfWay_15 rfl (lv_at hl 2 rfl) ?_
    refine lv_iconst (v := 3) hx hb dX9_priceOfWay_16 (by decide) ?_
    refine lv_imul hx hb dX9_priceOfWay_17 ?_
    refine lv_aload_n hx hb dX9_priceOfWay_18 rfl (lv_at hl 0 rfl) ?_
    obtain ⟨b3, hb3, h⟩ := bR_e h
    refine r_getr hx hb hts (fun w h => List.mem_cons_of_mem _ (List.mem_append_left _ (List.mem_append_left _ (List.mem_append_right _ (h))))) hown hK hd hk_a0 hb3 rfl fs_9_9 (hts (.fieldLink RX9 67 "LevelVotes" "way" "LLevelVotes$Way;") (List.mem_of_getElem? (i := 3) rfl)) dX9_priceOfWay_19 (fun hq => ?_)
    have hk_b3 : kd b3 = 8 := hq
    refine lv_iload_n hx hb dX9_priceOfWay_22 rfl (lv_at hl 2 rfl) ?_
    obtain ⟨r5, μ4, hc6, h⟩ := bC_e h
    refine rc_Vi (rest := [.int (x2 * (3 : Int32))]) [.int x2] ⟨hx, hb, hml, hown, hts⟩ hK hd hS (c_X8_standOf hk_b3 hc6) (cwV 1 hts gX9_priceOfWay_X8_standOf rfl rfl rfl hv_X8_standOf ⟨Nat.le_of_ble_eq_true rfl, Nat.le_of_ble_eq_true rfl⟩) hk_b3 rfl rfl rfl rfl hl.1 rfl (Nat.le_of_ble_eq_true rfl) dX9_priceOfWay_23 ⟨Nat.zero_le _, Nat.zero_le _⟩ (fun H locs hd hS => ?_)
    refine lv_iadd hx hb dX9_priceOfWay_26 ?_
    refine lv_topi (fun v7 ev7 => ?_)
    have h := bI_e ev7 h
    refine lv_istore_n (lv' := [(3, .int v7), (0, .ref (z + a0)), (1, .int x1), (2, .int x2)]) hx hb dX9_priceOfWay_27 rfl hl (by decide) rfl (fun ls hl => ?_)
    refine lv_iload_n hx hb dX9_priceOfWay_28 rfl (lv_at hl 2 rfl) ?_
    refine lv_iload_n hx hb dX9_priceOfWay_29 rfl (lv_at hl 0 rfl) ?_
    refine lv_if_lt (tgt := 51) hx hb dX9_priceOfWay_30 (by decide) (fun q8 => ?_) (fun q8 => ?_)
    · have h := if_y q8 h
      exact k_f_X9_priceOfWay_j51 X hrc4 hk_a0 hd hS (lv_sub hl [1, 3] rfl) h
    · have h := if_n q8 h
      refine lv_iload_n hx hb dX9_priceOfWay_33 rfl (lv_at hl 0 rfl) ?_
      refine lv_aload_n hx hb dX9_priceOfWay_34 rfl (lv_at hl 1 rfl) ?_
      obtain ⟨b9, hb9, h⟩ := bR_e h
      refine r_getr hx hb hts (fun w h => List.mem_cons_of_mem _ (List.mem_append_left _ (List.mem_append_left _ (List.mem_append_right _ (h))))) hown hK hd hk_a0 hb9 rfl fs_9_11 (hts (.fieldLink RX9 78 "LevelVotes" "prices" "[I") (List.mem_of_getElem? (i := 4) rfl)) dX9_priceOfWay_35 (fun hq => ?_)
      have hk_b9 : kd b9 = 11 := hq
      refine r_alen hx hb hK hd hk_b9 rfl dX9_priceOfWay_38 ?_
      refine lv_icmp_ge (tgt := 51) hx hb dX9_priceOfWay_39 (by decide) (fun q10 => ?_) (fun q10 => ?_)
      · have h := if_y q10 h
        exact k_f_X9_priceOfWay_j51 X hrc4 hk_a0 hd hS (lv_sub hl [1, 3] rfl) h
      · have h := if_n q10 h
        refine lv_aload_n hx hb dX9_priceOfWay_42 rfl (lv_at hl 1 rfl) ?_
        obtain ⟨b11, hb11, h⟩ := bR_e h
        refine r_getr hx hb hts (fun w h => List.mem_cons_of_mem _ (List.mem_append_left _ (List.mem_append_left _ (List.mem_append_right _ (h))))) hown hK hd hk_a0 hb11 rfl fs_9_11 (hts (.fieldLink RX9 78 "LevelVotes" "prices" "[I") (List.mem_of_getElem? (i := 4) rfl)) dX9_priceOfWay_43 (fun hq => ?_)
        have hk_b11 : kd b11 = 11 := hq
        refine lv_iload_n hx hb dX9_priceOfWay_46 rfl (lv_at hl 0 rfl) ?_
        obtain ⟨g12, h⟩ := gd_e h
        refine r_iald hx hb hK hd hk_b11 (ckb_in g12) dX9_priceOfWay_47 ?_
        refine lv_goto (tgt := 54) hx hb dX9_priceOfWay_48 (by decide) ?_
        exact k_f_X9_priceOfWay_j54 X hrc4 hk_a0 hd hS (lv_sub hl [1, 3] rfl) h
def f_X9_priceOfWay_L4 : Nat → Mm → Nat → Int32 → Int32 → Option (Int32 × Mm)
  | 0 => fun _ _ _ _ => none
  | n + 1 => fun μ a0 x1 x2 => f_X9_priceOfWay_L4b (f_X9_priceOfWay_L4 n) μ a0 x1 x2
theorem k_f_X9_priceOfWay_L4 {l : Launch} {D : va_G} {cA : Nat → ClassId} {z : Nat} {av : List Value} {p : Program} {e : Env} {s : State} {m : MethodId} {below : List Frame} {meth : Method} {c : Code} {r : Int32} {μ' : Mm} (X : Fx D cA RX9 wsX9_priceOfWay cX9_priceOfWay 4 (some .int) p s m av.toArray meth c) (n : Nat) : HL_X9_priceOfWay_4 l D cA z av r μ' p e s m below meth c (f_X9_priceOfWay_L4 n) := by
  induction n with
  | zero => intro _ _ _ _ _ _ _ _ _ _ _ h; have h2 : (none : Option _) = some _ := h; cases h2
  | succ n ih => intro μ H locs ls a0 x1 x2 hk_a0 hd hS hl h; exact k_f_X9_priceOfWay_L4b X ih hk_a0 hd hS hl h
def f_X9_priceOfWay (μ : Mm) (a0 : Nat) : Option (Int32 × Mm) := f_X9_priceOfWay_L4 FU μ a0 (0 : Int32) (0 : Int32)
set_option maxRecDepth 100000 in
theorem c_X9_priceOfWay {l : Launch} {D : va_G} {cA : Nat → ClassId} {z : Nat} {μ : Mm} {a0 : Nat} {r : Int32} {μ' : Mm} (hk_a0 : kd a0 = 9) (h : f_X9_priceOfWay μ a0 = some (r, μ')) : Ct l D cA z yX9_priceOfWay wsX9_priceOfWay 1 21 [.ref (z + a0)] μ (some (.int r)) μ' := by
  refine m_in (cc := cX9_priceOfWay) (maxL := 4) (ret := (some .int)) (own := RX9) (by decide) rfl rfl (Nat.le_of_ble_eq_true rfl) ?_
  intro p e s m below meth c ls X hd hS hl
  obtain ⟨hx, hb, hr, hlk, hml, hown, hts, hK⟩ := id X
  have hl : lv_has ls 4 [(0, .ref (z + a0))] := hl
  unfold f_X9_priceOfWay at h
  refine lv_iconst (v := 0) hx hb dX9_priceOfWay_0 (by decide) ?_
  refine lv_istore_n (lv' := [(1, .int (0 : Int32)), (0, .ref (z + a0))]) hx hb dX9_priceOfWay_1 rfl hl (by decide) rfl (fun ls hl => ?_)
  refine lv_iconst (v := 0) hx hb dX9_priceOfWay_2 (by decide) ?_
  refine lv_istore_n (lv' := [(2, .int (0 : Int32)), (1, .int (0 : Int32)), (0, .ref (z + a0))]) hx hb dX9_priceOfWay_3 rfl hl (by decide) rfl (fun ls hl => ?_)
  exact k_f_X9_priceOfWay_L4 X FU _ _ _ _ _ _ _ hk_a0 hd hS (lv_sub hl [2, 1, 0] rfl) h
theorem hv_X9_restsByWay : yX9_restsByWay.cls = RX9 ∧ yX9_restsByWay.cls ≠ "java/lang/invoke/MethodHandle" ∧ yX9_restsByWay.cls ≠ "java/lang/invoke/VarHandle" ∧ (parseMethodDescriptor yX9_restsByWay.desc).map (fun d => d.parameters.length) = some 2 := by decide +kernel
def f_X9_restsByWay (μ : Mm) (a0 : Nat) (x1 : Int32) (x2 : Int32) : Option (Int32 × Mm) := bR (μ.2 a0 10) (fun b1 => bR (μ.2 a0 1) (fun b2 => bR (μ.2 a0 9) (fun b3 => bV (f_X2_shape μ b1 b2 b3) (fun μ4 => bR (μ4.2 a0 10) (fun b7 => bC (f_X2_restFrom μ4 b7 x1) (fun r9 μ8 => if r9 = x2 then (some ((1 : Int32), μ8)) else (some ((0 : Int32), μ8))))))))
set_option maxRecDepth 100000 in
theorem c_X9_restsByWay {l : Launch} {D : va_G} {cA : Nat → ClassId} {z : Nat} {μ : Mm} {a0 : Nat} {x1 : Int32} {x2 : Int32} {r : Int32} {μ' : Mm} (hk_a0 : kd a0 = 9) (h : f_X9_restsByWay μ a0 x1 x2 = some (r, μ')) : Ct l D cA z yX9_restsByWay wsX9_restsByWay 4 91 [.ref (z + a0), .int x1, .int x2] μ (some (.int r)) μ' := by
  refine m_in (cc := cX9_restsByWay) (maxL := 3) (ret := (some .boolean)) (own := RX9) (by decide) rfl rfl (Nat.le_of_ble_eq_true rfl) ?_
  intro p e s m below meth c ls X hd hS hl
  obtain ⟨hx, hb, hr, hlk, hml, hown, hts, hK⟩ := id X
  have hl : lv_has ls 3 [(0, .ref (z + a0)), (1, .int x1), (2, .int x2)] := hl
  unfold f_X9_restsByWay at h
  refine lv_aload_n hx hb dX9_restsByWay_0 rfl (lv_at hl 0 rfl) ?_
  obtain ⟨b1, hb1, h⟩ := bR_e h
  refine r_getr hx hb hts (fun w h => List.mem_cons_of_mem _ (List.mem_append_left _ (List.mem_append_left _ (List.mem_append_left _ (List.mem_append_right _ (h)))))) hown hK hd hk_a0 hb1 rfl fs_9_10 (hts (.fieldLink RX9 74 "LevelVotes" "hill" "LLevelVotes$Hill;") (List.mem_of_getElem? (i := 1) rfl)) dX9_restsByWay_1 (fun hq => ?_)
  have hk_b1 : kd b1 = 2 := hq
  refine lv_aload_n hx hb dX9_restsByWay_4 rfl (lv_at hl 0 rfl) ?_
  obtain ⟨b2, hb2, h⟩ := bR_e h
  refine r_getr hx hb hts (fun w h => List.mem_cons_of_mem _ (List.mem_append_left _ (List.mem_append_left _ (List.mem_append_left _ (List.mem_append_right _ (h)))))) hown hK hd hk_a0 hb2 rfl fs_9_1 (hts (.fieldLink RX9 19 "LevelVotes" "plan" "LLevelVotes$House;") (List.mem_of_getElem? (i := 2) rfl)) dX9_restsByWay_5 (fun hq => ?_)
  have hk_b2 : kd b2 = 4 := hq
  refine lv_aload_n hx hb dX9_restsByWay_8 rfl (lv_at hl 0 rfl) ?_
  obtain ⟨b3, hb3, h⟩ := bR_e h
  refine r_getr hx hb hts (fun w h => List.mem_cons_of_mem _ (List.mem_append_left _ (List.mem_append_left _ (List.mem_append_left _ (List.mem_append_right _ (h)))))) hown hK hd hk_a0 hb3 rfl fs_9_9 (hts (.fieldLink RX9 67 "LevelVotes" "way" "LLevelVotes$Way;") (List.mem_of_getElem? (i := 3) rfl)) dX9_restsByWay_9 (fun hq => ?_)
  have hk_b3 : kd b3 = 8 := hq
  obtain ⟨μ4, hc6, h⟩ := bV_e h
  refine rc_Vv (rest := []) [.ref (z + b2), .ref (z + b3)] ⟨hx, hb, hml, hown, hts⟩ hK hd hS (c_X2_shape hk_b1 hk_b2 hk_b3 hc6) (cwV 2 hts gX9_restsByWay_X2_shape rfl rfl rfl hv_X2_shape ⟨Nat.le_of_ble_eq_true rfl, Nat.le_of_ble_eq_true rfl⟩) hk_b1 rfl rfl rfl rfl hl.1 rfl (Nat.le_of_ble_eq_true rfl) dX9_restsByWay_12 ⟨Nat.zero_le _, Nat.zero_le _⟩ (fun H locs hd hS => ?_)
  refine lv_aload_n hx hb dX9_restsByWay_15 rfl (lv_at hl 0 rfl) ?_
  obtain ⟨b7, hb7, h⟩ := bR_e h
  refine r_getr hx hb hts (fun w h => List.mem_cons_of_mem _ (List.mem_append_left _ (List.mem_append_left _ (List.mem_append_left _ (List.mem_append_right _ (h)))))) hown hK hd hk_a0 hb7 rfl fs_9_10 (hts (.fieldLink RX9 74 "LevelVotes" "hill" "LLevelVotes$Hill;") (List.mem_of_getElem? (i := 1) rfl)) dX9_restsByWay_16 (fun hq => ?_)
  have hk_b7 : kd b7 = 2 := hq
  refine lv_iload_n hx hb dX9_restsByWay_19 rfl (lv_at hl 1 rfl) ?_
  obtain ⟨r9, μ8, hc10, h⟩ := bC_e h
  refine rc_Vi (rest := []) [.int x1] ⟨hx, hb, hml, hown, hts⟩ hK hd hS (c_X2_restFrom hk_b7 hc10) (cwV 1 hts gX9_restsByWay_X2_restFrom rfl rfl rfl hv_X2_restFrom ⟨Nat.le_of_ble_eq_true rfl, Nat.le_of_ble_eq_true rfl⟩) hk_b7 rfl rfl rfl rfl hl.1 rfl (Nat.le_of_ble_eq_true rfl) dX9_restsByWay_20 ⟨Nat.zero_le _, Nat.zero_le _⟩ (fun H locs hd hS => ?_)
  refine lv_iload_n hx hb dX9_restsByWay_23 rfl (lv_at hl 2 rfl) ?_
  refine lv_icmp_ne (tgt := 31) hx hb dX9_restsByWay_24 (by decide) (fun q11 => ?_) (fun q11 => ?_)
  · have h := if_n q11 h
    refine lv_iconst (v := 0) hx hb dX9_restsByWay_31 (by decide) ?_
    obtain ⟨rfl, rfl⟩ := so_e h
    exact rt_z hx hb hr rfl hlk hd hS dX9_restsByWay_32
  · have h := if_y q11 h
    refine lv_iconst (v := 1) hx hb dX9_restsByWay_27 (by decide) ?_
    refine lv_goto (tgt := 32) hx hb dX9_restsByWay_28 (by decide) ?_
    obtain ⟨rfl, rfl⟩ := so_e h
    exact rt_z hx hb hr rfl hlk hd hS dX9_restsByWay_32
theorem hv_X9_fewest : yX9_fewest.cls = RX9 ∧ yX9_fewest.cls ≠ "java/lang/invoke/MethodHandle" ∧ yX9_fewest.cls ≠ "java/lang/invoke/VarHandle" ∧ (parseMethodDescriptor yX9_fewest.desc).map (fun d => d.parameters.length) = some 3 := by decide +kernel
abbrev HL_X9_fewest_68 (l : Launch) (D : va_G) (cA : Nat → ClassId) (z : Nat) (av : List Value) (r : Int32) (μ' : Mm) (p : Program) (e : Env) (s : State) (m : MethodId) (below : List Frame) (meth : Method) (c : Code) (rc : Mm → Nat → Int32 → Int32 → Int32 → Int32 → Int32 → Int32 → Int32 → Option (Int32 × Mm)) : Prop := ∀ (μ : Mm) (H : Heap) (locs : List Loc) (ls : Array Slot) (a0 : Nat) (x1 : Int32) (x2 : Int32) (x3 : Int32) (x4 : Int32) (x5 : Int32) (x6 : Int32) (x7 : Int32), kd a0 = 9 → Wd D cA z μ H → va_S (Az z) s.heap H locs → lv_has ls 9 [(0, .ref (z + a0)), (1, .int x1), (2, .int x2), (3, .int x3), (4, .int x4), (5, .int x5), (6, .int x6), (7, .int x7)] → rc μ a0 x1 x2 x3 x4 x5 x6 x7 = some (r, μ') → WG l D cA z wsX9_fewest 5 113 av (some (.int r)) μ' p e s m below meth c H locs (F0 m 68 ls [])
def f_X9_fewest_j126 (rc68 : Mm → Nat → Int32 → Int32 → Int32 → Int32 → Int32 → Int32 → Int32 → Option (Int32 × Mm)) (μ : Mm) (a0 : Nat) (x1 : Int32) (x2 : Int32) (x3 : Int32) (x4 : Int32) (x5 : Int32) (x6 : Int32) (x7 : Int32) : Option (Int32 × Mm) := rc68 μ a0 x1 x2 x3 x4 x5 x6 (x7 + (1 : Int32))
set_option maxRecDepth 100000 in
theorem k_f_X9_fewest_j126 {l : Launch} {D : va_G} {cA : Nat → ClassId} {z : Nat} {av : List Value} {p : Program} {e : Env} {s : State} {m : MethodId} {below : List Frame} {meth : Method} {c : Code} {r : Int32} {μ' : Mm} (X : Fx D cA RX9 wsX9_fewest cX9_fewest 9 (some .int) p s m av.toArray meth c) {rc68 : Mm → Nat → Int32 → Int32 → Int32 → Int32 → Int32 → Int32 → Int32 → Option (Int32 × Mm)} (hrc68 : HL_X9_fewest_68 l D cA z av r μ' p e s m below meth c rc68) {μ : Mm} {a0 : Nat} {x1 : Int32} {x2 : Int32} {x3 : Int32} {x4 : Int32} {x5 : Int32} {x6 : Int32} {x7 : Int32} (hk_a0 : kd a0 = 9) {H : Heap} {locs : List Loc} {ls : Array Slot} (hd : Wd D cA z μ H) (hS : va_S (Az z) s.heap H locs) (hl : lv_has ls 9 [(0, .ref (z + a0)), (1, .int x1), (2, .int x2), (3, .int x3), (4, .int x4), (5, .int x5), (6, .int x6), (7, .int x7)]) (h : f_X9_fewest_j126 rc68 μ a0 x1 x2 x3 x4 x5 x6 x7 = some (r, μ')) : WG l D cA z wsX9_fewest 5 113 av (some (.int r)) μ' p e s m below meth c H locs (F0 m 126 ls []) := by
  obtain ⟨hx, hb, hr, hlk, hml, hown, hts, hK⟩ := id X
  unfold f_X9_fewest_j126 at h
  refine lv_iinc (v := x7 + (1 : Int32)) (lv' := [(7, .int (x7 + (1 : Int32))), (0, .ref (z + a0)), (1, .int x1), (2, .int x2), (3, .int x3), (4, .int x4), (5, .int x5), (6, .int x6)]) hx hb dX9_fewest_126 hl (k := 7) rfl rfl (by decide) rfl (fun ls hl => ?_)
  refine lv_goto (tgt := 68) hx hb dX9_fewest_129 (by decide) ?_
  exact hrc68 _ _ _ _ _ _ _ _ _ _ _ _ hk_a0 hd hS (lv_sub hl [1, 2, 3, 4, 5, 6, 7, 0] rfl) h
def f_X9_fewest_L68b (rc68 : Mm → Nat → Int32 → Int32 → Int32 → Int32 → Int32 → Int32 → Int32 → Option (Int32 × Mm)) (μ : Mm) (a0 : Nat) (x1 : Int32) (x2 : Int32) (x3 : Int32) (x4 : Int32) (x5 : Int32) (x6 : Int32) (x7 : Int32) : Option (Int32 × Mm) := if x6 ≤ x7 then (if x4 < (1000 : Int32) then (if x3 = 0 then (some (x4, μ)) else (some (x5, μ))) else (some ((-1 : Int32), μ))) else (bR (μ.2 a0 9) (fun b4 => bR (μ.2 a0 1) (fun b5 => bV (f_X8_become μ b4 x7 (μ.1 b5 3)) (fun μ6 => bC (f_X9_priceOfWay μ6 a0) (fun r10 μ9 => if x4 ≤ r10 then (f_X9_fewest_j126 rc68 μ9 a0 x1 x2 x3 x4 x5 x6 x7) else (bC (f_X9_restsByWay μ9 a0 x1 x2) (fun r14 μ13 => if r14 = 0 then (f_X9_fewest_j126 rc68 μ13 a0 x1 x2 x3 x4 x5 x6 x7) else (bR (μ13.2 a0 9) (fun b17 => bC (f_X8_figures μ13 b17) (fun r19 μ18 => f_X9_fewest_j126 rc68 μ18 a0 x1 x2 x3 r10 r19 x6 x7))))))))))
set_option maxRecDepth 100000 in
theorem k_f_X9_fewest_L68b {l : Launch} {D : va_G} {cA : Nat → ClassId} {z : Nat} {av : List Value} {p : Program} {e : Env} {s : State} {m : MethodId} {below : List Frame} {meth : Method} {c : Code} {r : Int32} {μ' : Mm} (X : Fx D cA RX9 wsX9_fewest cX9_fewest 9 (some .int) p s m av.toArray meth c) {rc68 : Mm → Nat → Int32 → Int32 → Int32 → Int32 → Int32 → Int32 → Int32 → Option (Int32 × Mm)} (hrc68 : HL_X9_fewest_68 l D cA z av r μ' p e s m below meth c rc68) {μ : Mm} {a0 : Nat} {x1 : Int32} {x2 : Int32} {x3 : Int32} {x4 : Int32} {x5 : Int32} {x6 : Int32} {x7 : Int32} (hk_a0 : kd a0 = 9) {H : Heap} {locs : List Loc} {ls : Array Slot} (hd : Wd D cA z μ H) (hS : va_S (Az z) s.heap H locs) (hl : lv_has ls 9 [(0, .ref (z + a0)), (1, .int x1), (2, .int x2), (3, .int x3), (4, .int x4), (5, .int x5), (6, .int x6), (7, .int x7)]) (h : f_X9_fewest_L68b rc68 μ a0 x1 x2 x3 x4 x5 x6 x7 = some (r, μ')) : WG l D cA z wsX9_fewest 5 113 av (some (.int r)) μ' p e s m below meth c H locs (F0 m 68 ls []) := by
  obtain ⟨hx, hb, hr, hlk, hml, hown, hts, hK⟩ := id X
  unfold f_X9_fewest_L68b at h
  refine lv_iload hx hb dX9_fewest_68 (lv_at hl 7 rfl) ?_
  refine lv_iload hx hb dX9_fewest_70 (lv_at hl 6 rfl) ?_
  refine lv_icmp_ge (tgt := 132) hx hb dX9_fewest_72 (by decide) (fun q1 => ?_) (fun q1 => ?_)
  · have h := if_y q1 h
    refine lv_iload hx hb dX9_fewest_132 (lv_at hl 4 rfl) ?_
    refine lv_sipush (v := 1000) hx hb dX9_fewest_134 (by decide) ?_
    refine lv_icmp_lt (tgt := 142) hx hb dX9_fewest_137 (by decide) (fun q2 => ?_) (fun q2 => ?_)
    · have h := if_y q2 h
      refine lv_iload_n hx hb dX9_fewest_142 rfl (lv_at hl 3 rfl) ?_
      refine lv_if_ne (tgt := 151) hx hb dX9_fewest_143 (by decide) (fun q3 => ?_) (fun q3 => ?_)
      · have h := if_n q3 h
        refine lv_iload hx hb dX9_fewest_151 (lv_at hl 5 rfl) ?_
        obtain ⟨rfl, rfl⟩ := so_e h
        exact rt_i hx hb hr hlk hd hS dX9_fewest_153
      · have h := if_y q3 h
        refine lv_iload hx hb dX9_fewest_146 (lv_at hl 4 rfl) ?_
        refine lv_goto (tgt := 153) hx hb dX9_fewest_148 (by decide) ?_
        obtain ⟨rfl, rfl⟩ := so_e h
        exact rt_i hx hb hr hlk hd hS dX9_fewest_153
    · have h := if_n q2 h
      refine lv_iconst (v := -1) hx hb dX9_fewest_140 (by decide) ?_
      obtain ⟨rfl, rfl⟩ := so_e h
      exact rt_i hx hb hr hlk hd hS dX9_fewest_141
  · have h := if_n q1 h
    refine lv_aload_n hx hb dX9_fewest_75 rfl (lv_at hl 0 rfl) ?_
    obtain ⟨b4, hb4, h⟩ := bR_e h
    refine r_getr hx hb hts (fun w h => List.mem_cons_of_mem _ (List.mem_append_left _ (List.mem_append_left _ (List.mem_append_left _ (List.mem_append_left _ (List.mem_append_right _ (h))))))) hown hK hd hk_a0 hb4 rfl fs_9_9 (hts (.fieldLink RX9 67 "LevelVotes" "way" "LLevelVotes$Way;") (List.mem_of_getElem? (i := 4) rfl)) dX9_fewest_76 (fun hq => ?_)
    have hk_b4 : kd b4 = 8 := hq
    refine lv_iload hx hb dX9_fewest_79 (lv_at hl 7 rfl) ?_
    refine lv_aload_n hx hb dX9_fewest_81 rfl (lv_at hl 0 rfl) ?_
    obtain ⟨b5, hb5, h⟩ := bR_e h
    refine r_getr hx hb hts (fun w h => List.mem_cons_of_mem _ (List.mem_append_left _ (List.mem_append_left _ (List.mem_append_left _ (List.mem_append_left _ (List.mem_append_right _ (h))))))) hown hK hd hk_a0 hb5 rfl fs_9_1 (hts (.fieldLink RX9 19 "LevelVotes" "plan" "LLevelVotes$House;") (List.mem_of_getElem? (i := 1) rfl)) dX9_fewest_82 (fun hq => ?_)
    have hk_b5 : kd b5 = 4 := hq
    refine r_geti hx hb hts (fun w h => List.mem_cons_of_mem _ (List.mem_append_left _ (List.mem_append_left _ (List.mem_append_left _ (List.mem_append_right _ (h)))))) hown hK hd hk_b5 rfl 3 fs_4_3 (hts (.fieldLink RX9 109 "LevelVotes$House" "items" "I") (List.mem_of_getElem? (i := 5) rfl)) dX9_fewest_85 ?_
    obtain ⟨μ6, hc8, h⟩ := bV_e h
    refine rc_Vv (rest := []) [.int x7, .int (μ.1 b5 3)] ⟨hx, hb, hml, hown, hts⟩ hK hd hS (c_X8_become hk_b4 hc8) (cwV 2 hts gX9_fewest_X8_become rfl rfl rfl hv_X8_become ⟨Nat.le_of_ble_eq_true rfl, Nat.le_of_ble_eq_true rfl⟩) hk_b4 rfl rfl rfl rfl hl.1 rfl (Nat.le_of_ble_eq_true rfl) dX9_fewest_88 ⟨Nat.zero_le _, Nat.zero_le _⟩ (fun H locs hd hS => ?_)
    refine lv_aload_n hx hb dX9_fewest_91 rfl (lv_at hl 0 rfl) ?_
    obtain ⟨r10, μ9, hc11, h⟩ := bC_e h
    refine rc_Vi (rest := []) [] ⟨hx, hb, hml, hown, hts⟩ hK hd hS (c_X9_priceOfWay hk_a0 hc11) (cwV 0 hts gX9_fewest_X9_priceOfWay rfl rfl rfl hv_X9_priceOfWay ⟨Nat.le_of_ble_eq_true rfl, Nat.le_of_ble_eq_true rfl⟩) hk_a0 rfl rfl rfl rfl hl.1 rfl (Nat.le_of_ble_eq_true rfl) dX9_fewest_92 ⟨Nat.zero_le _, Nat.zero_le _⟩ (fun H locs hd hS => ?_)
    refine lv_istore (lv' := [(8, .int r10), (0, .ref (z + a0)), (1, .int x1), (2, .int x2), (3, .int x3), (4, .int x4), (5, .int x5), (6, .int x6), (7, .int x7)]) hx hb dX9_fewest_95 hl (by decide) rfl (fun ls hl => ?_)
    refine lv_iload hx hb dX9_fewest_97 (lv_at hl 0 rfl) ?_
    refine lv_iload hx hb dX9_fewest_99 (lv_at hl 5 rfl) ?_
    refine lv_icmp_ge (tgt := 126) hx hb dX9_fewest_101 (by decide) (fun q12 => ?_) (fun q12 => ?_)
    · have h := if_y q12 h
      exact k_f_X9_fewest_j126 X hrc68 hk_a0 hd hS (lv_sub hl [1, 2, 3, 4, 5, 6, 7, 8] rfl) h
    · have h := if_n q12 h
      refine lv_aload_n hx hb dX9_fewest_104 rfl (lv_at hl 1 rfl) ?_
      refine lv_iload_n hx hb dX9_fewest_105 rfl (lv_at hl 2 rfl) ?_
      refine lv_iload_n hx hb dX9_fewest_106 rfl (lv_at hl 3 rfl) ?_
      obtain ⟨r14, μ13, hc15, h⟩ := bC_e h
      refine rc_Vi (rest := []) [.int x1, .int x2] ⟨hx, hb, hml, hown, hts⟩ hK hd hS (c_X9_restsByWay hk_a0 hc15) (cwV 2 hts gX9_fewest_X9_restsByWay rfl rfl rfl hv_X9_restsByWay ⟨Nat.le_of_ble_eq_true rfl, Nat.le_of_ble_eq_true rfl⟩) hk_a0 rfl rfl rfl rfl hl.1 rfl (Nat.le_of_ble_eq_true rfl) dX9_fewest_107 ⟨Nat.zero_le _, Nat.zero_le _⟩ (fun H locs hd hS => ?_)
      refine lv_if_eq (tgt := 126) hx hb dX9_fewest_110 (by decide) (fun q16 => ?_) (fun q16 => ?_)
      · have h := if_y q16 h
        exact k_f_X9_fewest_j126 X hrc68 hk_a0 hd hS (lv_sub hl [1, 2, 3, 4, 5, 6, 7, 8] rfl) h
      · have h := if_n q16 h
        refine lv_iload hx hb dX9_fewest_113 (lv_at hl 0 rfl) ?_
        refine lv_istore (lv' := [(4, .int r10), (8, .int r10), (0, .ref (z + a0)), (1, .int x1), (2, .int x2), (3, .int x3), (5, .int x5), (6, .int x6), (7, .int x7)]) hx hb dX9_fewest_115 hl (by decide) rfl (fun ls hl => ?_)
        refine lv_aload_n hx hb dX9_fewest_117 rfl (lv_at hl 2 rfl) ?_
        obtain ⟨b17, hb17, h⟩ := bR_e h
        refine r_getr hx hb hts (fun w h => List.mem_cons_of_mem _ (List.mem_append_left _ (List.mem_append_left _ (List.mem_append_left _ (List.mem_append_left _ (List.mem_append_right _ (h))))))) hown hK hd hk_a0 hb17 rfl fs_9_9 (hts (.fieldLink RX9 67 "LevelVotes" "way" "LLevelVotes$Way;") (List.mem_of_getElem? (i := 4) rfl)) dX9_fewest_118 (fun hq => ?_)
        have hk_b17 : kd b17 = 8 := hq
        obtain ⟨r19, μ18, hc20, h⟩ := bC_e h
        refine rc_Vi (rest := []) [] ⟨hx, hb, hml, hown, hts⟩ hK hd hS (c_X8_figures hk_b17 hc20) (cwV 0 hts gX9_fewest_X8_figures rfl rfl rfl hv_X8_figures ⟨Nat.le_of_ble_eq_true rfl, Nat.le_of_ble_eq_true rfl⟩) hk_b17 rfl rfl rfl rfl hl.1 rfl (Nat.le_of_ble_eq_true rfl) dX9_fewest_121 ⟨Nat.zero_le _, Nat.zero_le _⟩ (fun H locs hd hS => ?_)
        refine lv_istore (lv' := [(5, .int r19), (4, .int r10), (8, .int r10), (0, .ref (z + a0)), (1, .int x1), (2, .int x2), (3, .int x3), (6, .int x6), (7, .int x7)]) hx hb dX9_fewest_124 hl (by decide) rfl (fun ls hl => ?_)
        exact k_f_X9_fewest_j126 X hrc68 hk_a0 hd hS (lv_sub hl [3, 4, 5, 6, 1, 0, 7, 8] rfl) h
def f_X9_fewest_L68 : Nat → Mm → Nat → Int32 → Int32 → Int32 → Int32 → Int32 → Int32 → Int32 → Option (Int32 × Mm)
  | 0 => fun _ _ _ _ _ _ _ _ _ => none
  | n + 1 => fun μ a0 x1 x2 x3 x4 x5 x6 x7 => f_X9_fewest_L68b (f_X9_fewest_L68 n) μ a0 x1 x2 x3 x4 x5 x6 x7
theorem k_f_X9_fewest_L68 {l : Launch} {D : va_G} {cA : Nat → ClassId} {z : Nat} {av : List Value} {p : Program} {e : Env} {s : State} {m : MethodId} {below : List Frame} {meth : Method} {c : Code} {r : Int32} {μ' : Mm} (X : Fx D cA RX9 wsX9_fewest cX9_fewest 9 (some .int) p s m av.toArray meth c) (n : Nat) : HL_X9_fewest_68 l D cA z av r μ' p e s m below meth c (f_X9_fewest_L68 n) := by
  induction n with
  | zero => intro _ _ _ _ _ _ _ _ _ _ _ _ _ _ _ _ h; have h2 : (none : Option _) = some _ := h; cases h2
  | succ n ih => intro μ H locs ls a0 x1 x2 x3 x4 x5 x6 x7 hk_a0 hd hS hl h; exact k_f_X9_fewest_L68b X ih hk_a0 hd hS hl h
def f_X9_fewest (μ : Mm) (a0 : Nat) (x1 : Int32) (x2 : Int32) (x3 : Int32) : Option (Int32 × Mm) := bR (μ.2 a0 1) (fun b1 => bC (f_X4_hasCell μ b1 x1) (fun r3 μ2 => if r3 = 0 then (some ((-1000000001 : Int32), μ2)) else (bR (μ2.2 a0 1) (fun b6 => bC (f_X4_hasCell μ2 b6 x2) (fun r8 μ7 => if r8 = 0 then (some ((-1000000001 : Int32), μ7)) else (if x3 < 0 then (some ((-1000000002 : Int32), μ7)) else (if x3 ≤ (1 : Int32) then (bV (f_X9_fillPrices μ7 a0) (fun μ13 => bR (μ13.2 a0 9) (fun b16 => bR (μ13.2 a0 1) (fun b17 => bC (f_X8_countFor μ13 b16 (μ13.1 b17 3)) (fun r19 μ18 => f_X9_fewest_L68 FU μ18 a0 x1 x2 x3 (1000 : Int32) (-1 : Int32) r19 (0 : Int32)))))) else (some ((-1000000002 : Int32), μ7)))))))))
set_option maxRecDepth 100000 in
theorem c_X9_fewest {l : Launch} {D : va_G} {cA : Nat → ClassId} {z : Nat} {μ : Mm} {a0 : Nat} {x1 : Int32} {x2 : Int32} {x3 : Int32} {r : Int32} {μ' : Mm} (hk_a0 : kd a0 = 9) (h : f_X9_fewest μ a0 x1 x2 x3 = some (r, μ')) : Ct l D cA z yX9_fewest wsX9_fewest 5 113 [.ref (z + a0), .int x1, .int x2, .int x3] μ (some (.int r)) μ' := by
  refine m_in (cc := cX9_fewest) (maxL := 9) (ret := (some .int)) (own := RX9) (by decide) rfl rfl (Nat.le_of_ble_eq_true rfl) ?_
  intro p e s m below meth c ls X hd hS hl
  obtain ⟨hx, hb, hr, hlk, hml, hown, hts, hK⟩ := id X
  have hl : lv_has ls 9 [(0, .ref (z + a0)), (1, .int x1), (2, .int x2), (3, .int x3)] := hl
  unfold f_X9_fewest at h
  refine lv_aload_n hx hb dX9_fewest_0 rfl (lv_at hl 0 rfl) ?_
  obtain ⟨b1, hb1, h⟩ := bR_e h
  refine r_getr hx hb hts (fun w h => List.mem_cons_of_mem _ (List.mem_append_left _ (List.mem_append_left _ (List.mem_append_left _ (List.mem_append_left _ (List.mem_append_right _ (h))))))) hown hK hd hk_a0 hb1 rfl fs_9_1 (hts (.fieldLink RX9 19 "LevelVotes" "plan" "LLevelVotes$House;") (List.mem_of_getElem? (i := 1) rfl)) dX9_fewest_1 (fun hq => ?_)
  have hk_b1 : kd b1 = 4 := hq
  refine lv_iload_n hx hb dX9_fewest_4 rfl (lv_at hl 1 rfl) ?_
  obtain ⟨r3, μ2, hc4, h⟩ := bC_e h
  refine rc_Vi (rest := []) [.int x1] ⟨hx, hb, hml, hown, hts⟩ hK hd hS (c_X4_hasCell hk_b1 hc4) (cwV 1 hts gX9_fewest_X4_hasCell rfl rfl rfl hv_X4_hasCell ⟨Nat.le_of_ble_eq_true rfl, Nat.le_of_ble_eq_true rfl⟩) hk_b1 rfl rfl rfl rfl hl.1 rfl (Nat.le_of_ble_eq_true rfl) dX9_fewest_5 ⟨Nat.zero_le _, Nat.zero_le _⟩ (fun H locs hd hS => ?_)
  refine lv_if_eq (tgt := 22) hx hb dX9_fewest_8 (by decide) (fun q5 => ?_) (fun q5 => ?_)
  · have h := if_y q5 h
    refine lv_ldc (v := -1000000001) hx hb hown (hts (.constant RX9 150 (-1000000001)) (List.mem_of_getElem? (i := 2) rfl)) dX9_fewest_22 ?_
    obtain ⟨rfl, rfl⟩ := so_e h
    exact rt_i hx hb hr hlk hd hS dX9_fewest_24
  · have h := if_n q5 h
    refine lv_aload_n hx hb dX9_fewest_11 rfl (lv_at hl 0 rfl) ?_
    obtain ⟨b6, hb6, h⟩ := bR_e h
    refine r_getr hx hb hts (fun w h => List.mem_cons_of_mem _ (List.mem_append_left _ (List.mem_append_left _ (List.mem_append_left _ (List.mem_append_left _ (List.mem_append_right _ (h))))))) hown hK hd hk_a0 hb6 rfl fs_9_1 (hts (.fieldLink RX9 19 "LevelVotes" "plan" "LLevelVotes$House;") (List.mem_of_getElem? (i := 1) rfl)) dX9_fewest_12 (fun hq => ?_)
    have hk_b6 : kd b6 = 4 := hq
    refine lv_iload_n hx hb dX9_fewest_15 rfl (lv_at hl 2 rfl) ?_
    obtain ⟨r8, μ7, hc9, h⟩ := bC_e h
    refine rc_Vi (rest := []) [.int x2] ⟨hx, hb, hml, hown, hts⟩ hK hd hS (c_X4_hasCell hk_b6 hc9) (cwV 1 hts gX9_fewest_X4_hasCell rfl rfl rfl hv_X4_hasCell ⟨Nat.le_of_ble_eq_true rfl, Nat.le_of_ble_eq_true rfl⟩) hk_b6 rfl rfl rfl rfl hl.1 rfl (Nat.le_of_ble_eq_true rfl) dX9_fewest_16 ⟨Nat.zero_le _, Nat.zero_le _⟩ (fun H locs hd hS => ?_)
    refine lv_if_ne (tgt := 25) hx hb dX9_fewest_19 (by decide) (fun q10 => ?_) (fun q10 => ?_)
    · have h := if_n q10 h
      refine lv_iload_n hx hb dX9_fewest_25 rfl (lv_at hl 3 rfl) ?_
      refine lv_if_lt (tgt := 34) hx hb dX9_fewest_26 (by decide) (fun q11 => ?_) (fun q11 => ?_)
      · have h := if_y q11 h
        refine lv_ldc (v := -1000000002) hx hb hown (hts (.constant RX9 86 (-1000000002)) (List.mem_of_getElem? (i := 3) rfl)) dX9_fewest_34 ?_
        obtain ⟨rfl, rfl⟩ := so_e h
        exact rt_i hx hb hr hlk hd hS dX9_fewest_36
      · have h := if_n q11 h
        refine lv_iload_n hx hb dX9_fewest_29 rfl (lv_at hl 3 rfl) ?_
        refine lv_iconst (v := 1) hx hb dX9_fewest_30 (by decide) ?_
        refine lv_icmp_le (tgt := 37) hx hb dX9_fewest_31 (by decide) (fun q12 => ?_) (fun q12 => ?_)
        · have h := if_y q12 h
          refine lv_aload_n hx hb dX9_fewest_37 rfl (lv_at hl 0 rfl) ?_
          obtain ⟨μ13, hc15, h⟩ := bV_e h
          refine rc_Vv (rest := []) [] ⟨hx, hb, hml, hown, hts⟩ hK hd hS (c_X9_fillPrices hk_a0 hc15) (cwV 0 hts gX9_fewest_X9_fillPrices rfl rfl rfl hv_X9_fillPrices ⟨Nat.le_of_ble_eq_true rfl, Nat.le_of_ble_eq_true rfl⟩) hk_a0 rfl rfl rfl rfl hl.1 rfl (Nat.le_of_ble_eq_true rfl) dX9_fewest_38 ⟨Nat.zero_le _, Nat.zero_le _⟩ (fun H locs hd hS => ?_)
          refine lv_sipush (v := 1000) hx hb dX9_fewest_41 (by decide) ?_
          refine lv_istore (lv' := [(4, .int (1000 : Int32)), (0, .ref (z + a0)), (1, .int x1), (2, .int x2), (3, .int x3)]) hx hb dX9_fewest_44 hl (by decide) rfl (fun ls hl => ?_)
          refine lv_iconst (v := -1) hx hb dX9_fewest_46 (by decide) ?_
          refine lv_istore (lv' := [(5, .int (-1 : Int32)), (4, .int (1000 : Int32)), (0, .ref (z + a0)), (1, .int x1), (2, .int x2), (3, .int x3)]) hx hb dX9_fewest_47 hl (by decide) rfl (fun ls hl => ?_)
          refine lv_aload_n hx hb dX9_fewest_49 rfl (lv_at hl 2 rfl) ?_
          obtain ⟨b16, hb16, h⟩ := bR_e h
          refine r_getr hx hb hts (fun w h => List.mem_cons_of_mem _ (List.mem_append_left _ (List.mem_append_left _ (List.mem_append_left _ (List.mem_append_left _ (List.mem_append_right _ (h))))))) hown hK hd hk_a0 hb16 rfl fs_9_9 (hts (.fieldLink RX9 67 "LevelVotes" "way" "LLevelVotes$Way;") (List.mem_of_getElem? (i := 4) rfl)) dX9_fewest_50 (fun hq => ?_)
          have hk_b16 : kd b16 = 8 := hq
          refine lv_aload_n hx hb dX9_fewest_53 rfl (lv_at hl 2 rfl) ?_
          obtain ⟨b17, hb17, h⟩ := bR_e h
          refine r_getr hx hb hts (fun w h => List.mem_cons_of_mem _ (List.mem_append_left _ (List.mem_append_left _ (List.mem_append_left _ (List.mem_append_left _ (List.mem_append_right _ (h))))))) hown hK hd hk_a0 hb17 rfl fs_9_1 (hts (.fieldLink RX9 19 "LevelVotes" "plan" "LLevelVotes$House;") (List.mem_of_getElem? (i := 1) rfl)) dX9_fewest_54 (fun hq => ?_)
          have hk_b17 : kd b17 = 4 := hq
          refine r_geti hx hb hts (fun w h => List.mem_cons_of_mem _ (List.mem_append_left _ (List.mem_append_left _ (List.mem_append_left _ (List.mem_append_right _ (h)))))) hown hK hd hk_b17 rfl 3 fs_4_3 (hts (.fieldLink RX9 109 "LevelVotes$House" "items" "I") (List.mem_of_getElem? (i := 5) rfl)) dX9_fewest_57 ?_
          obtain ⟨r19, μ18, hc20, h⟩ := bC_e h
          refine rc_Vi (rest := []) [.int (μ13.1 b17 3)] ⟨hx, hb, hml, hown, hts⟩ hK hd hS (c_X8_countFor hk_b16 hc20) (cwV 1 hts gX9_fewest_X8_countFor rfl rfl rfl hv_X8_countFor ⟨Nat.le_of_ble_eq_true rfl, Nat.le_of_ble_eq_true rfl⟩) hk_b16 rfl rfl rfl rfl hl.1 rfl (Nat.le_of_ble_eq_true rfl) dX9_fewest_60 ⟨Nat.zero_le _, Nat.zero_le _⟩ (fun H locs hd hS => ?_)
          refine lv_istore (lv' := [(6, .int r19), (5, .int (-1 : Int32)), (4, .int (1000 : Int32)), (0, .ref (z + a0)), (1, .int x1), (2, .int x2), (3, .int x3)]) hx hb dX9_fewest_63 hl (by decide) rfl (fun ls hl => ?_)
          refine lv_iconst (v := 0) hx hb dX9_fewest_65 (by decide) ?_
          refine lv_istore (lv' := [(7, .int (0 : Int32)), (6, .int r19), (5, .int (-1 : Int32)), (4, .int (1000 : Int32)), (0, .ref (z + a0)), (1, .int x1), (2, .int x2), (3, .int x3)]) hx hb dX9_fewest_66 hl (by decide) rfl (fun ls hl => ?_)
          exact k_f_X9_fewest_L68 X FU _ _ _ _ _ _ _ _ _ _ _ _ hk_a0 hd hS (lv_sub hl [4, 5, 6, 7, 3, 2, 1, 0] rfl) h
        · have h := if_n q12 h
          refine lv_ldc (v := -1000000002) hx hb hown (hts (.constant RX9 86 (-1000000002)) (List.mem_of_getElem? (i := 3) rfl)) dX9_fewest_34 ?_
          obtain ⟨rfl, rfl⟩ := so_e h
          exact rt_i hx hb hr hlk hd hS dX9_fewest_36
    · have h := if_y q10 h
      refine lv_ldc (v := -1000000001) hx hb hown (hts (.constant RX9 150 (-1000000001)) (List.mem_of_getElem? (i := 2) rfl)) dX9_fewest_22 ?_
      obtain ⟨rfl, rfl⟩ := so_e h
      exact rt_i hx hb hr hlk hd hS dX9_fewest_24
theorem hv_X9_carriesAll : yX9_carriesAll.cls = RX9 ∧ yX9_carriesAll.cls ≠ "java/lang/invoke/MethodHandle" ∧ yX9_carriesAll.cls ≠ "java/lang/invoke/VarHandle" ∧ (parseMethodDescriptor yX9_carriesAll.desc).map (fun d => d.parameters.length) = some 1 := by decide +kernel
abbrev HL_X9_carriesAll_2 (l : Launch) (D : va_G) (cA : Nat → ClassId) (z : Nat) (av : List Value) (r : Int32) (μ' : Mm) (p : Program) (e : Env) (s : State) (m : MethodId) (below : List Frame) (meth : Method) (c : Code) (rc : Mm → Nat → Int32 → Int32 → Option (Int32 × Mm)) : Prop := ∀ (μ : Mm) (H : Heap) (locs : List Loc) (ls : Array Slot) (a0 : Nat) (x1 : Int32) (x2 : Int32), kd a0 = 9 → Wd D cA z μ H → va_S (Az z) s.heap H locs → lv_has ls 5 [(0, .ref (z + a0)), (1, .int x1), (2, .int x2)] → rc μ a0 x1 x2 = some (r, μ') → WG l D cA z wsX9_carriesAll 1 21 av (some (.int r)) μ' p e s m below meth c H locs (F0 m 2 ls [])
def f_X9_carriesAll_L2b (rc2 : Mm → Nat → Int32 → Int32 → Option (Int32 × Mm)) (μ : Mm) (a0 : Nat) (x1 : Int32) (x2 : Int32) : Option (Int32 × Mm) := bR (μ.2 a0 1) (fun b1 => if (μ.1 b1 3) ≤ x2 then (some ((1 : Int32), μ)) else (bR (μ.2 a0 4) (fun b3 => bC (f_X0_yesOf μ b3 x2) (fun r5 μ4 => bC (f_J6_bitCount_0f7a4 μ4 (r5 ||| x1)) (fun r8 μ7 => bR (μ7.2 a0 4) (fun b10 => bC (f_X0_noOf μ7 b10 x2) (fun r12 μ11 => bC (f_J6_bitCount_0f7a4 μ11 (r12 &&& (x1 ^^^ (-1 : Int32)))) (fun r15 μ14 => bC (f_X9_standBy μ14 (r8 - r15)) (fun r18 μ17 => if r18 = (2 : Int32) then (rc2 μ17 a0 x1 (x2 + (1 : Int32))) else (some ((0 : Int32), μ17)))))))))))
set_option maxRecDepth 100000 in
theorem k_f_X9_carriesAll_L2b {l : Launch} {D : va_G} {cA : Nat → ClassId} {z : Nat} {av : List Value} {p : Program} {e : Env} {s : State} {m : MethodId} {below : List Frame} {meth : Method} {c : Code} {r : Int32} {μ' : Mm} (X : Fx D cA RX9 wsX9_carriesAll cX9_carriesAll 5 (some .boolean) p s m av.toArray meth c) {rc2 : Mm → Nat → Int32 → Int32 → Option (Int32 × Mm)} (hrc2 : HL_X9_carriesAll_2 l D cA z av r μ' p e s m below meth c rc2) {μ : Mm} {a0 : Nat} {x1 : Int32} {x2 : Int32} (hk_a0 : kd a0 = 9) {H : Heap} {locs : List Loc} {ls : Array Slot} (hd : Wd D cA z μ H) (hS : va_S (Az z) s.heap H locs) (hl : lv_has ls 5 [(0, .ref (z + a0)), (1, .int x1), (2, .int x2)]) (h : f_X9_carriesAll_L2b rc2 μ a0 x1 x2 = some (r, μ')) : WG l D cA z wsX9_carriesAll 1 21 av (some (.int r)) μ' p e s m below meth c H locs (F0 m 2 ls []) := by
  obtain ⟨hx, hb, hr, hlk, hml, hown, hts, hK⟩ := id X
  unfold f_X9_carriesAll_L2b at h
  refine lv_iload_n hx hb dX9_carriesAll_2 rfl (lv_at hl 2 rfl) ?_
  refine lv_aload_n hx hb dX9_carriesAll_3 rfl (lv_at hl 0 rfl) ?_
  obtain ⟨b1, hb1, h⟩ := bR_e h
  refine r_getr hx hb hts (fun w h => List.mem_cons_of_mem _ (List.mem_append_left _ (List.mem_append_left _ (List.mem_append_right _ (h))))) hown hK hd hk_a0 hb1 rfl fs_9_1 (hts (.fieldLink RX9 19 "LevelVotes" "plan" "LLevelVotes$House;") (List.mem_of_getElem? (i := 1) rfl)) dX9_carriesAll_4 (fun hq => ?_)
  have hk_b1 : kd b1 = 4 := hq
  refine r_geti hx hb hts (fun w h => List.mem_cons_of_mem _ (List.mem_append_left _ (List.mem_append_right _ (h)))) hown hK hd hk_b1 rfl 3 fs_4_3 (hts (.fieldLink RX9 109 "LevelVotes$House" "items" "I") (List.mem_of_getElem? (i := 2) rfl)) dX9_carriesAll_7 ?_
  refine lv_icmp_ge (tgt := 63) hx hb dX9_carriesAll_10 (by decide) (fun q2 => ?_) (fun q2 => ?_)
  · have h := if_y q2 h
    refine lv_iconst (v := 1) hx hb dX9_carriesAll_63 (by decide) ?_
    obtain ⟨rfl, rfl⟩ := so_e h
    exact rt_z hx hb hr rfl hlk hd hS dX9_carriesAll_64
  · have h := if_n q2 h
    refine lv_aload_n hx hb dX9_carriesAll_13 rfl (lv_at hl 0 rfl) ?_
    obtain ⟨b3, hb3, h⟩ := bR_e h
    refine r_getr hx hb hts (fun w h => List.mem_cons_of_mem _ (List.mem_append_left _ (List.mem_append_left _ (List.mem_append_right _ (h))))) hown hK hd hk_a0 hb3 rfl fs_9_4 (hts (.fieldLink RX9 33 "LevelVotes" "now" "LLevelVotes$Ballot;") (List.mem_of_getElem? (i := 3) rfl)) dX9_carriesAll_14 (fun hq => ?_)
    have hk_b3 : kd b3 = 0 := hq
    refine lv_iload_n hx hb dX9_carriesAll_17 rfl (lv_at hl 2 rfl) ?_
    obtain ⟨r5, μ4, hc6, h⟩ := bC_e h
    refine rc_Vi (rest := []) [.int x2] ⟨hx, hb, hml, hown, hts⟩ hK hd hS (c_X0_yesOf hk_b3 hc6) (cwV 1 hts gX9_carriesAll_X0_yesOf rfl rfl rfl hv_X0_yesOf ⟨Nat.le_of_ble_eq_true rfl, Nat.le_of_ble_eq_true rfl⟩) hk_b3 rfl rfl rfl rfl hl.1 rfl (Nat.le_of_ble_eq_true rfl) dX9_carriesAll_18 ⟨Nat.zero_le _, Nat.zero_le _⟩ (fun H locs hd hS => ?_)
    refine lv_iload_n hx hb dX9_carriesAll_21 rfl (lv_at hl 1 rfl) ?_
    refine lv_ior hx hb dX9_carriesAll_22 ?_
    obtain ⟨r8, μ7, hc9, h⟩ := bC_e h
    refine rc_Si (rest := []) [.int (r5 ||| x1)] ⟨hx, hb, hml, hown, hts⟩ hK hd hS (c_J6_bitCount_0f7a4  hc9) (va_cwS 1 hts gX9_carriesAll_J6_bitCount_0f7a4 rfl rfl rfl hn_J6_bitCount_0f7a4 ⟨Nat.le_of_ble_eq_true rfl, Nat.le_of_ble_eq_true rfl⟩) rfl hl.1 rfl (Nat.le_of_ble_eq_true rfl) dX9_carriesAll_23 ⟨Nat.zero_le _, Nat.zero_le _⟩ (fun H locs hd hS => ?_)
    refine lv_istore_n (lv' := [(3, .int r8), (0, .ref (z + a0)), (1, .int x1), (2, .int x2)]) hx hb dX9_carriesAll_26 rfl hl (by decide) rfl (fun ls hl => ?_)
    refine lv_aload_n hx hb dX9_carriesAll_27 rfl (lv_at hl 1 rfl) ?_
    obtain ⟨b10, hb10, h⟩ := bR_e h
    refine r_getr hx hb hts (fun w h => List.mem_cons_of_mem _ (List.mem_append_left _ (List.mem_append_left _ (List.mem_append_right _ (h))))) hown hK hd hk_a0 hb10 rfl fs_9_4 (hts (.fieldLink RX9 33 "LevelVotes" "now" "LLevelVotes$Ballot;") (List.mem_of_getElem? (i := 3) rfl)) dX9_carriesAll_28 (fun hq => ?_)
    have hk_b10 : kd b10 = 0 := hq
    refine lv_iload_n hx hb dX9_carriesAll_31 rfl (lv_at hl 3 rfl) ?_
    obtain ⟨r12, μ11, hc13, h⟩ := bC_e h
    refine rc_Vi (rest := []) [.int x2] ⟨hx, hb, hml, hown, hts⟩ hK hd hS (c_X0_noOf hk_b10 hc13) (cwV 1 hts gX9_carriesAll_X0_noOf rfl rfl rfl hv_X0_noOf ⟨Nat.le_of_ble_eq_true rfl, Nat.le_of_ble_eq_true rfl⟩) hk_b10 rfl rfl rfl rfl hl.1 rfl (Nat.le_of_ble_eq_true rfl) dX9_carriesAll_32 ⟨Nat.zero_le _, Nat.zero_le _⟩ (fun H locs hd hS => ?_)
    refine lv_iload_n hx hb dX9_carriesAll_35 rfl (lv_at hl 2 rfl) ?_
    refine lv_iconst (v := -1) hx hb dX9_carriesAll_36 (by decide) ?_
    refine lv_ixor hx hb dX9_carriesAll_37 ?_
    refine lv_iand hx hb dX9_carriesAll_38 ?_
    obtain ⟨r15, μ14, hc16, h⟩ := bC_e h
    refine rc_Si (rest := []) [.int (r12 &&& (x1 ^^^ (-1 : Int32)))] ⟨hx, hb, hml, hown, hts⟩ hK hd hS (c_J6_bitCount_0f7a4  hc16) (va_cwS 1 hts gX9_carriesAll_J6_bitCount_0f7a4 rfl rfl rfl hn_J6_bitCount_0f7a4 ⟨Nat.le_of_ble_eq_true rfl, Nat.le_of_ble_eq_true rfl⟩) rfl hl.1 rfl (Nat.le_of_ble_eq_true rfl) dX9_carriesAll_39 ⟨Nat.zero_le _, Nat.zero_le _⟩ (fun H locs hd hS => ?_)
    refine lv_istore (lv' := [(4, .int r15), (3, .int r8), (0, .ref (z + a0)), (1, .int x1), (2, .int x2)]) hx hb dX9_carriesAll_42 hl (by decide) rfl (fun ls hl => ?_)
    refine lv_iload_n hx hb dX9_carriesAll_44 rfl (lv_at hl 1 rfl) ?_
    refine lv_iload hx hb dX9_carriesAll_45 (lv_at hl 0 rfl) ?_
    refine lv_isub hx hb dX9_carriesAll_47 ?_
    obtain ⟨r18, μ17, hc19, h⟩ := bC_e h
    refine rc_Si (rest := []) [.int (r8 - r15)] ⟨hx, hb, hml, hown, hts⟩ hK hd hS (c_X9_standBy  hc19) (va_cwS 1 hts gX9_carriesAll_X9_standBy rfl rfl rfl hn_X9_standBy ⟨Nat.le_of_ble_eq_true rfl, Nat.le_of_ble_eq_true rfl⟩) rfl hl.1 rfl (Nat.le_of_ble_eq_true rfl) dX9_carriesAll_48 ⟨Nat.zero_le _, Nat.zero_le _⟩ (fun H locs hd hS => ?_)
    refine lv_iconst (v := 2) hx hb dX9_carriesAll_51 (by decide) ?_
    refine lv_icmp_eq (tgt := 57) hx hb dX9_carriesAll_52 (by decide) (fun q20 => ?_) (fun q20 => ?_)
    · have h := if_y q20 h
      refine lv_iinc (v := x2 + (1 : Int32)) (lv' := [(2, .int (x2 + (1 : Int32))), (4, .int r15), (3, .int r8), (0, .ref (z + a0)), (1, .int x1)]) hx hb dX9_carriesAll_57 hl (k := 4) rfl rfl (by decide) rfl (fun ls hl => ?_)
      refine lv_goto (tgt := 2) hx hb dX9_carriesAll_60 (by decide) ?_
      exact hrc2 _ _ _ _ _ _ _ hk_a0 hd hS (lv_sub hl [3, 4, 0] rfl) h
    · have h := if_n q20 h
      refine lv_iconst (v := 0) hx hb dX9_carriesAll_55 (by decide) ?_
      obtain ⟨rfl, rfl⟩ := so_e h
      exact rt_z hx hb hr rfl hlk hd hS dX9_carriesAll_56
def f_X9_carriesAll_L2 : Nat → Mm → Nat → Int32 → Int32 → Option (Int32 × Mm)
  | 0 => fun _ _ _ _ => none
  | n + 1 => fun μ a0 x1 x2 => f_X9_carriesAll_L2b (f_X9_carriesAll_L2 n) μ a0 x1 x2
theorem k_f_X9_carriesAll_L2 {l : Launch} {D : va_G} {cA : Nat → ClassId} {z : Nat} {av : List Value} {p : Program} {e : Env} {s : State} {m : MethodId} {below : List Frame} {meth : Method} {c : Code} {r : Int32} {μ' : Mm} (X : Fx D cA RX9 wsX9_carriesAll cX9_carriesAll 5 (some .boolean) p s m av.toArray meth c) (n : Nat) : HL_X9_carriesAll_2 l D cA z av r μ' p e s m below meth c (f_X9_carriesAll_L2 n) := by
  induction n with
  | zero => intro _ _ _ _ _ _ _ _ _ _ _ h; have h2 : (none : Option _) = some _ := h; cases h2
  | succ n ih => intro μ H locs ls a0 x1 x2 hk_a0 hd hS hl h; exact k_f_X9_carriesAll_L2b X ih hk_a0 hd hS hl h
def f_X9_carriesAll (μ : Mm) (a0 : Nat) (x1 : Int32) : Option (Int32 × Mm) := f_X9_carriesAll_L2 FU μ a0 x1 (0 : Int32)
set_option maxRecDepth 100000 in
theorem c_X9_carriesAll {l : Launch} {D : va_G} {cA : Nat → ClassId} {z : Nat} {μ : Mm} {a0 : Nat} {x1 : Int32} {r : Int32} {μ' : Mm} (hk_a0 : kd a0 = 9) (h : f_X9_carriesAll μ a0 x1 = some (r, μ')) : Ct l D cA z yX9_carriesAll wsX9_carriesAll 1 21 [.ref (z + a0), .int x1] μ (some (.int r)) μ' := by
  refine m_in (cc := cX9_carriesAll) (maxL := 5) (ret := (some .boolean)) (own := RX9) (by decide) rfl rfl (Nat.le_of_ble_eq_true rfl) ?_
  intro p e s m below meth c ls X hd hS hl
  obtain ⟨hx, hb, hr, hlk, hml, hown, hts, hK⟩ := id X
  have hl : lv_has ls 5 [(0, .ref (z + a0)), (1, .int x1)] := hl
  unfold f_X9_carriesAll at h
  refine lv_iconst (v := 0) hx hb dX9_carriesAll_0 (by decide) ?_
  refine lv_istore_n (lv' := [(2, .int (0 : Int32)), (0, .ref (z + a0)), (1, .int x1)]) hx hb dX9_carriesAll_1 rfl hl (by decide) rfl (fun ls hl => ?_)
  exact k_f_X9_carriesAll_L2 X FU _ _ _ _ _ _ _ hk_a0 hd hS (lv_sub hl [1, 2, 0] rfl) h
theorem hv_X9_carry : yX9_carry.cls = RX9 ∧ yX9_carry.cls ≠ "java/lang/invoke/MethodHandle" ∧ yX9_carry.cls ≠ "java/lang/invoke/VarHandle" ∧ (parseMethodDescriptor yX9_carry.desc).map (fun d => d.parameters.length) = some 0 := by decide +kernel
abbrev HL_X9_carry_7 (l : Launch) (D : va_G) (cA : Nat → ClassId) (z : Nat) (av : List Value) (r : Int32) (μ' : Mm) (p : Program) (e : Env) (s : State) (m : MethodId) (below : List Frame) (meth : Method) (c : Code) (rc : Mm → Nat → Int32 → Int32 → Int32 → Option (Int32 × Mm)) : Prop := ∀ (μ : Mm) (H : Heap) (locs : List Loc) (ls : Array Slot) (a0 : Nat) (x1 : Int32) (x2 : Int32) (x3 : Int32), kd a0 = 9 → Wd D cA z μ H → va_S (Az z) s.heap H locs → lv_has ls 5 [(0, .ref (z + a0)), (1, .int x1), (2, .int x2), (3, .int x3)] → rc μ a0 x1 x2 x3 = some (r, μ') → WG l D cA z wsX9_carry 2 45 av (some (.int r)) μ' p e s m below meth c H locs (F0 m 7 ls [])
def f_X9_carry_j45 (rc7 : Mm → Nat → Int32 → Int32 → Int32 → Option (Int32 × Mm)) (μ : Mm) (a0 : Nat) (x1 : Int32) (x2 : Int32) (x3 : Int32) : Option (Int32 × Mm) := rc7 μ a0 x1 x2 (x3 + (1 : Int32))
set_option maxRecDepth 100000 in
theorem k_f_X9_carry_j45 {l : Launch} {D : va_G} {cA : Nat → ClassId} {z : Nat} {av : List Value} {p : Program} {e : Env} {s : State} {m : MethodId} {below : List Frame} {meth : Method} {c : Code} {r : Int32} {μ' : Mm} (X : Fx D cA RX9 wsX9_carry cX9_carry 5 (some .int) p s m av.toArray meth c) {rc7 : Mm → Nat → Int32 → Int32 → Int32 → Option (Int32 × Mm)} (hrc7 : HL_X9_carry_7 l D cA z av r μ' p e s m below meth c rc7) {μ : Mm} {a0 : Nat} {x1 : Int32} {x2 : Int32} {x3 : Int32} (hk_a0 : kd a0 = 9) {H : Heap} {locs : List Loc} {ls : Array Slot} (hd : Wd D cA z μ H) (hS : va_S (Az z) s.heap H locs) (hl : lv_has ls 5 [(0, .ref (z + a0)), (1, .int x1), (2, .int x2), (3, .int x3)]) (h : f_X9_carry_j45 rc7 μ a0 x1 x2 x3 = some (r, μ')) : WG l D cA z wsX9_carry 2 45 av (some (.int r)) μ' p e s m below meth c H locs (F0 m 45 ls []) := by
  obtain ⟨hx, hb, hr, hlk, hml, hown, hts, hK⟩ := id X
  unfold f_X9_carry_j45 at h
  refine lv_iinc (v := x3 + (1 : Int32)) (lv' := [(3, .int (x3 + (1 : Int32))), (0, .ref (z + a0)), (1, .int x1), (2, .int x2)]) hx hb dX9_carry_45 hl (k := 3) rfl rfl (by decide) rfl (fun ls hl => ?_)
  refine lv_goto (tgt := 7) hx hb dX9_carry_48 (by decide) ?_
  exact hrc7 _ _ _ _ _ _ _ _ hk_a0 hd hS (lv_sub hl [1, 2, 3, 0] rfl) h
def f_X9_carry_L7b (rc7 : Mm → Nat → Int32 → Int32 → Int32 → Option (Int32 × Mm)) (μ : Mm) (a0 : Nat) (x1 : Int32) (x2 : Int32) (x3 : Int32) : Option (Int32 × Mm) := bR (μ.2 a0 1) (fun b1 => if ((1 : Int32) <<< ((μ.1 b1 4) &&& 31)) ≤ x3 then (some (x1, μ)) else (bC (f_J6_bitCount_0f7a4 μ x3) (fun r4 μ3 => if x2 ≤ r4 then (f_X9_carry_j45 rc7 μ3 a0 x1 x2 x3) else (bC (f_X9_carriesAll μ3 a0 x3) (fun r8 μ7 => if r8 = 0 then (f_X9_carry_j45 rc7 μ7 a0 x1 x2 x3) else (f_X9_carry_j45 rc7 μ7 a0 x3 r4 x3))))))
set_option maxRecDepth 100000 in
theorem k_f_X9_carry_L7b {l : Launch} {D : va_G} {cA : Nat → ClassId} {z : Nat} {av : List Value} {p : Program} {e : Env} {s : State} {m : MethodId} {below : List Frame} {meth : Method} {c : Code} {r : Int32} {μ' : Mm} (X : Fx D cA RX9 wsX9_carry cX9_carry 5 (some .int) p s m av.toArray meth c) {rc7 : Mm → Nat → Int32 → Int32 → Int32 → Option (Int32 × Mm)} (hrc7 : HL_X9_carry_7 l D cA z av r μ' p e s m below meth c rc7) {μ : Mm} {a0 : Nat} {x1 : Int32} {x2 : Int32} {x3 : Int32} (hk_a0 : kd a0 = 9) {H : Heap} {locs : List Loc} {ls : Array Slot} (hd : Wd D cA z μ H) (hS : va_S (Az z) s.heap H locs) (hl : lv_has ls 5 [(0, .ref (z + a0)), (1, .int x1), (2, .int x2), (3, .int x3)]) (h : f_X9_carry_L7b rc7 μ a0 x1 x2 x3 = some (r, μ')) : WG l D cA z wsX9_carry 2 45 av (some (.int r)) μ' p e s m below meth c H locs (F0 m 7 ls []) := by
  obtain ⟨hx, hb, hr, hlk, hml, hown, hts, hK⟩ := id X
  unfold f_X9_carry_L7b at h
  refine lv_iload_n hx hb dX9_carry_7 rfl (lv_at hl 3 rfl) ?_
  refine lv_iconst (v := 1) hx hb dX9_carry_8 (by decide) ?_
  refine lv_aload_n hx hb dX9_carry_9 rfl (lv_at hl 0 rfl) ?_
  obtain ⟨b1, hb1, h⟩ := bR_e h
  refine r_getr hx hb hts (fun w h => List.mem_cons_of_mem _ (List.mem_append_left _ (List.mem_append_left _ (List.mem_append_right _ (h))))) hown hK hd hk_a0 hb1 rfl fs_9_1 (hts (.fieldLink RX9 19 "LevelVotes" "plan" "LLevelVotes$House;") (List.mem_of_getElem? (i := 1) rfl)) dX9_carry_10 (fun hq => ?_)
  have hk_b1 : kd b1 = 4 := hq
  refine r_geti hx hb hts (fun w h => List.mem_cons_of_mem _ (List.mem_append_left _ (List.mem_append_right _ (h)))) hown hK hd hk_b1 rfl 4 fs_4_4 (hts (.fieldLink RX9 118 "LevelVotes$House" "persons" "I") (List.mem_of_getElem? (i := 2) rfl)) dX9_carry_13 ?_
  refine lv_ishl hx hb dX9_carry_16 ?_
  refine lv_icmp_ge (tgt := 51) hx hb dX9_carry_17 (by decide) (fun q2 => ?_) (fun q2 => ?_)
  · have h := if_y q2 h
    refine lv_iload_n hx hb dX9_carry_51 rfl (lv_at hl 1 rfl) ?_
    obtain ⟨rfl, rfl⟩ := so_e h
    exact rt_i hx hb hr hlk hd hS dX9_carry_52
  · have h := if_n q2 h
    refine lv_iload_n hx hb dX9_carry_20 rfl (lv_at hl 3 rfl) ?_
    obtain ⟨r4, μ3, hc5, h⟩ := bC_e h
    refine rc_Si (rest := []) [.int x3] ⟨hx, hb, hml, hown, hts⟩ hK hd hS (c_J6_bitCount_0f7a4  hc5) (va_cwS 1 hts gX9_carry_J6_bitCount_0f7a4 rfl rfl rfl hn_J6_bitCount_0f7a4 ⟨Nat.le_of_ble_eq_true rfl, Nat.le_of_ble_eq_true rfl⟩) rfl hl.1 rfl (Nat.le_of_ble_eq_true rfl) dX9_carry_21 ⟨Nat.zero_le _, Nat.zero_le _⟩ (fun H locs hd hS => ?_)
    refine lv_istore (lv' := [(4, .int r4), (0, .ref (z + a0)), (1, .int x1), (2, .int x2), (3, .int x3)]) hx hb dX9_carry_24 hl (by decide) rfl (fun ls hl => ?_)
    refine lv_iload hx hb dX9_carry_26 (lv_at hl 0 rfl) ?_
    refine lv_iload_n hx hb dX9_carry_28 rfl (lv_at hl 3 rfl) ?_
    refine lv_icmp_ge (tgt := 45) hx hb dX9_carry_29 (by decide) (fun q6 => ?_) (fun q6 => ?_)
    · have h := if_y q6 h
      exact k_f_X9_carry_j45 X hrc7 hk_a0 hd hS (lv_sub hl [1, 2, 3, 4] rfl) h
    · have h := if_n q6 h
      refine lv_aload_n hx hb dX9_carry_32 rfl (lv_at hl 1 rfl) ?_
      refine lv_iload_n hx hb dX9_carry_33 rfl (lv_at hl 4 rfl) ?_
      obtain ⟨r8, μ7, hc9, h⟩ := bC_e h
      refine rc_Vi (rest := []) [.int x3] ⟨hx, hb, hml, hown, hts⟩ hK hd hS (c_X9_carriesAll hk_a0 hc9) (cwV 1 hts gX9_carry_X9_carriesAll rfl rfl rfl hv_X9_carriesAll ⟨Nat.le_of_ble_eq_true rfl, Nat.le_of_ble_eq_true rfl⟩) hk_a0 rfl rfl rfl rfl hl.1 rfl (Nat.le_of_ble_eq_true rfl) dX9_carry_34 ⟨Nat.zero_le _, Nat.zero_le _⟩ (fun H locs hd hS => ?_)
      refine lv_if_eq (tgt := 45) hx hb dX9_carry_37 (by decide) (fun q10 => ?_) (fun q10 => ?_)
      · have h := if_y q10 h
        exact k_f_X9_carry_j45 X hrc7 hk_a0 hd hS (lv_sub hl [1, 2, 3, 4] rfl) h
      · have h := if_n q10 h
        refine lv_iload hx hb dX9_carry_40 (lv_at hl 0 rfl) ?_
        refine lv_istore_n (lv' := [(2, .int r4), (4, .int r4), (0, .ref (z + a0)), (1, .int x1), (3, .int x3)]) hx hb dX9_carry_42 rfl hl (by decide) rfl (fun ls hl => ?_)
        refine lv_iload_n hx hb dX9_carry_43 rfl (lv_at hl 4 rfl) ?_
        refine lv_istore_n (lv' := [(1, .int x3), (2, .int r4), (4, .int r4), (0, .ref (z + a0)), (3, .int x3)]) hx hb dX9_carry_44 rfl hl (by decide) rfl (fun ls hl => ?_)
        exact k_f_X9_carry_j45 X hrc7 hk_a0 hd hS (lv_sub hl [3, 0, 1, 4] rfl) h
def f_X9_carry_L7 : Nat → Mm → Nat → Int32 → Int32 → Int32 → Option (Int32 × Mm)
  | 0 => fun _ _ _ _ _ => none
  | n + 1 => fun μ a0 x1 x2 x3 => f_X9_carry_L7b (f_X9_carry_L7 n) μ a0 x1 x2 x3
theorem k_f_X9_carry_L7 {l : Launch} {D : va_G} {cA : Nat → ClassId} {z : Nat} {av : List Value} {p : Program} {e : Env} {s : State} {m : MethodId} {below : List Frame} {meth : Method} {c : Code} {r : Int32} {μ' : Mm} (X : Fx D cA RX9 wsX9_carry cX9_carry 5 (some .int) p s m av.toArray meth c) (n : Nat) : HL_X9_carry_7 l D cA z av r μ' p e s m below meth c (f_X9_carry_L7 n) := by
  induction n with
  | zero => intro _ _ _ _ _ _ _ _ _ _ _ _ h; have h2 : (none : Option _) = some _ := h; cases h2
  | succ n ih => intro μ H locs ls a0 x1 x2 x3 hk_a0 hd hS hl h; exact k_f_X9_carry_L7b X ih hk_a0 hd hS hl h
def f_X9_carry (μ : Mm) (a0 : Nat) : Option (Int32 × Mm) := f_X9_carry_L7 FU μ a0 (-1 : Int32) (8 : Int32) (0 : Int32)
set_option maxRecDepth 100000 in
theorem c_X9_carry {l : Launch} {D : va_G} {cA : Nat → ClassId} {z : Nat} {μ : Mm} {a0 : Nat} {r : Int32} {μ' : Mm} (hk_a0 : kd a0 = 9) (h : f_X9_carry μ a0 = some (r, μ')) : Ct l D cA z yX9_carry wsX9_carry 2 45 [.ref (z + a0)] μ (some (.int r)) μ' := by
  refine m_in (cc := cX9_carry) (maxL := 5) (ret := (some .int)) (own := RX9) (by decide) rfl rfl (Nat.le_of_ble_eq_true rfl) ?_
  intro p e s m below meth c ls X hd hS hl
  obtain ⟨hx, hb, hr, hlk, hml, hown, hts, hK⟩ := id X
  have hl : lv_has ls 5 [(0, .ref (z + a0))] := hl
  unfold f_X9_carry at h
  refine lv_iconst (v := -1) hx hb dX9_carry_0 (by decide) ?_
  refine lv_istore_n (lv' := [(1, .int (-1 : Int32)), (0, .ref (z + a0))]) hx hb dX9_carry_1 rfl hl (by decide) rfl (fun ls hl => ?_)
  refine lv_bipush (v := 8) hx hb dX9_carry_2 (by decide) ?_
  refine lv_istore_n (lv' := [(2, .int (8 : Int32)), (1, .int (-1 : Int32)), (0, .ref (z + a0))]) hx hb dX9_carry_4 rfl hl (by decide) rfl (fun ls hl => ?_)
  refine lv_iconst (v := 0) hx hb dX9_carry_5 (by decide) ?_
  refine lv_istore_n (lv' := [(3, .int (0 : Int32)), (2, .int (8 : Int32)), (1, .int (-1 : Int32)), (0, .ref (z + a0))]) hx hb dX9_carry_6 rfl hl (by decide) rfl (fun ls hl => ?_)
  exact k_f_X9_carry_L7 X FU _ _ _ _ _ _ _ _ hk_a0 hd hS (lv_sub hl [3, 2, 1, 0] rfl) h
theorem hv_X9_waltz : yX9_waltz.cls = RX9 ∧ yX9_waltz.cls ≠ "java/lang/invoke/MethodHandle" ∧ yX9_waltz.cls ≠ "java/lang/invoke/VarHandle" ∧ (parseMethodDescriptor yX9_waltz.desc).map (fun d => d.parameters.length) = some 1 := by decide +kernel
def f_X9_waltz (μ : Mm) (a0 : Nat) (x1 : Int32) : Option (Int32 × Mm) := bR (μ.2 a0 1) (fun b1 => bC (f_X4_allCells μ b1) (fun r3 μ2 => if (x1 &&& (r3 ^^^ (-1 : Int32))) = 0 then (bV (f_X9_shapeNow μ2 a0) (fun μ6 => bC (f_X9_spread μ6 a0 x1) (fun r10 μ9 => some (r10, μ9)))) else (some ((-1000000001 : Int32), μ2))))
set_option maxRecDepth 100000 in
theorem c_X9_waltz {l : Launch} {D : va_G} {cA : Nat → ClassId} {z : Nat} {μ : Mm} {a0 : Nat} {x1 : Int32} {r : Int32} {μ' : Mm} (hk_a0 : kd a0 = 9) (h : f_X9_waltz μ a0 x1 = some (r, μ')) : Ct l D cA z yX9_waltz wsX9_waltz 5 106 [.ref (z + a0), .int x1] μ (some (.int r)) μ' := by
  refine m_in (cc := cX9_waltz) (maxL := 2) (ret := (some .int)) (own := RX9) (by decide) rfl rfl (Nat.le_of_ble_eq_true rfl) ?_
  intro p e s m below meth c ls X hd hS hl
  obtain ⟨hx, hb, hr, hlk, hml, hown, hts, hK⟩ := id X
  have hl : lv_has ls 2 [(0, .ref (z + a0)), (1, .int x1)] := hl
  unfold f_X9_waltz at h
  refine lv_iload_n hx hb dX9_waltz_0 rfl (lv_at hl 1 rfl) ?_
  refine lv_aload_n hx hb dX9_waltz_1 rfl (lv_at hl 0 rfl) ?_
  obtain ⟨b1, hb1, h⟩ := bR_e h
  refine r_getr hx hb hts (fun w h => List.mem_cons_of_mem _ (List.mem_append_left _ (List.mem_append_left _ (List.mem_append_left _ (List.mem_append_left _ (List.mem_append_right _ (h))))))) hown hK hd hk_a0 hb1 rfl fs_9_1 (hts (.fieldLink RX9 19 "LevelVotes" "plan" "LLevelVotes$House;") (List.mem_of_getElem? (i := 1) rfl)) dX9_waltz_2 (fun hq => ?_)
  have hk_b1 : kd b1 = 4 := hq
  obtain ⟨r3, μ2, hc4, h⟩ := bC_e h
  refine rc_Vi (rest := [.int x1]) [] ⟨hx, hb, hml, hown, hts⟩ hK hd hS (c_X4_allCells hk_b1 hc4) (cwV 0 hts gX9_waltz_X4_allCells rfl rfl rfl hv_X4_allCells ⟨Nat.le_of_ble_eq_true rfl, Nat.le_of_ble_eq_true rfl⟩) hk_b1 rfl rfl rfl rfl hl.1 rfl (Nat.le_of_ble_eq_true rfl) dX9_waltz_5 ⟨Nat.zero_le _, Nat.zero_le _⟩ (fun H locs hd hS => ?_)
  refine lv_iconst (v := -1) hx hb dX9_waltz_8 (by decide) ?_
  refine lv_ixor hx hb dX9_waltz_9 ?_
  refine lv_iand hx hb dX9_waltz_10 ?_
  refine lv_if_eq (tgt := 17) hx hb dX9_waltz_11 (by decide) (fun q5 => ?_) (fun q5 => ?_)
  · have h := if_y q5 h
    refine lv_aload_n hx hb dX9_waltz_17 rfl (lv_at hl 0 rfl) ?_
    obtain ⟨μ6, hc8, h⟩ := bV_e h
    refine rc_Vv (rest := []) [] ⟨hx, hb, hml, hown, hts⟩ hK hd hS (c_X9_shapeNow hk_a0 hc8) (cwV 0 hts gX9_waltz_X9_shapeNow rfl rfl rfl hv_X9_shapeNow ⟨Nat.le_of_ble_eq_true rfl, Nat.le_of_ble_eq_true rfl⟩) hk_a0 rfl rfl rfl rfl hl.1 rfl (Nat.le_of_ble_eq_true rfl) dX9_waltz_18 ⟨Nat.zero_le _, Nat.zero_le _⟩ (fun H locs hd hS => ?_)
    refine lv_aload_n hx hb dX9_waltz_21 rfl (lv_at hl 0 rfl) ?_
    refine lv_iload_n hx hb dX9_waltz_22 rfl (lv_at hl 1 rfl) ?_
    obtain ⟨r10, μ9, hc11, h⟩ := bC_e h
    refine rc_Vi (rest := []) [.int x1] ⟨hx, hb, hml, hown, hts⟩ hK hd hS (c_X9_spread hk_a0 hc11) (cwV 1 hts gX9_waltz_X9_spread rfl rfl rfl hv_X9_spread ⟨Nat.le_of_ble_eq_true rfl, Nat.le_of_ble_eq_true rfl⟩) hk_a0 rfl rfl rfl rfl hl.1 rfl (Nat.le_of_ble_eq_true rfl) dX9_waltz_23 ⟨Nat.zero_le _, Nat.zero_le _⟩ (fun H locs hd hS => ?_)
    obtain ⟨rfl, rfl⟩ := so_e h
    exact rt_i hx hb hr hlk hd hS dX9_waltz_26
  · have h := if_n q5 h
    refine lv_ldc (v := -1000000001) hx hb hown (hts (.constant RX9 150 (-1000000001)) (List.mem_of_getElem? (i := 2) rfl)) dX9_waltz_14 ?_
    obtain ⟨rfl, rfl⟩ := so_e h
    exact rt_i hx hb hr hlk hd hS dX9_waltz_16
theorem hv_X9_recount : yX9_recount.cls = RX9 ∧ yX9_recount.cls ≠ "java/lang/invoke/MethodHandle" ∧ yX9_recount.cls ≠ "java/lang/invoke/VarHandle" ∧ (parseMethodDescriptor yX9_recount.desc).map (fun d => d.parameters.length) = some 2 := by decide +kernel
abbrev HL_X9_recount_30 (l : Launch) (D : va_G) (cA : Nat → ClassId) (z : Nat) (av : List Value) (r : Int32) (μ' : Mm) (p : Program) (e : Env) (s : State) (m : MethodId) (below : List Frame) (meth : Method) (c : Code) (rc : Mm → Int32 → Int32 → Int64 → Int32 → Option (Int32 × Mm)) : Prop := ∀ (μ : Mm) (H : Heap) (locs : List Loc) (ls : Array Slot) (x1 : Int32) (x2 : Int32) (x3 : Int64) (x5 : Int32), Wd D cA z μ H → va_S (Az z) s.heap H locs → lv_has ls 6 [(1, .int x1), (2, .int x2), (3, .long x3), (5, .int x5)] → rc μ x1 x2 x3 x5 = some (r, μ') → WG l D cA z wsX9_recount 0 0 av (some (.int r)) μ' p e s m below meth c H locs (F0 m 30 ls [])
def f_X9_recount_L30b (rc30 : Mm → Int32 → Int32 → Int64 → Int32 → Option (Int32 × Mm)) (μ : Mm) (x1 : Int32) (x2 : Int32) (x3 : Int64) (x5 : Int32) : Option (Int32 × Mm) := if x1 ≤ x5 then (some (x3.toInt32, μ)) else (bL ((x3 * (((100 : Int32) - x2).toInt64)) / (100 : Int64)) (fun v2 => rc30 μ x1 x2 v2 (x5 + (1 : Int32))))
set_option maxRecDepth 100000 in
theorem k_f_X9_recount_L30b {l : Launch} {D : va_G} {cA : Nat → ClassId} {z : Nat} {av : List Value} {p : Program} {e : Env} {s : State} {m : MethodId} {below : List Frame} {meth : Method} {c : Code} {r : Int32} {μ' : Mm} (X : Fx D cA RX9 wsX9_recount cX9_recount 6 (some .int) p s m av.toArray meth c) {rc30 : Mm → Int32 → Int32 → Int64 → Int32 → Option (Int32 × Mm)} (hrc30 : HL_X9_recount_30 l D cA z av r μ' p e s m below meth c rc30) {μ : Mm} {x1 : Int32} {x2 : Int32} {x3 : Int64} {x5 : Int32} {H : Heap} {locs : List Loc} {ls : Array Slot} (hd : Wd D cA z μ H) (hS : va_S (Az z) s.heap H locs) (hl : lv_has ls 6 [(1, .int x1), (2, .int x2), (3, .long x3), (5, .int x5)]) (h : f_X9_recount_L30b rc30 μ x1 x2 x3 x5 = some (r, μ')) : WG l D cA z wsX9_recount 0 0 av (some (.int r)) μ' p e s m below meth c H locs (F0 m 30 ls []) := by
  obtain ⟨hx, hb, hr, hlk, hml, hown, hts, hK⟩ := id X
  unfold f_X9_recount_L30b at h
  refine lv_iload hx hb dX9_recount_30 (lv_at hl 3 rfl) ?_
  refine lv_iload_n hx hb dX9_recount_32 rfl (lv_at hl 0 rfl) ?_
  refine lv_icmp_ge (tgt := 54) hx hb dX9_recount_33 (by decide) (fun q1 => ?_) (fun q1 => ?_)
  · have h := if_y q1 h
    refine lv_lload_n hx hb dX9_recount_54 rfl (lv_at hl 2 rfl) ?_
    refine lv_l2i hx hb dX9_recount_55 rfl ?_
    obtain ⟨rfl, rfl⟩ := so_e h
    exact rt_i hx hb hr hlk hd hS dX9_recount_56
  · have h := if_n q1 h
    refine lv_lload_n hx hb dX9_recount_36 rfl (lv_at hl 2 rfl) ?_
    refine lv_bipush (v := 100) hx hb dX9_recount_37 (by decide) ?_
    refine lv_iload_n hx hb dX9_recount_39 rfl (lv_at hl 1 rfl) ?_
    refine lv_isub hx hb dX9_recount_40 ?_
    refine lv_i2l hx hb dX9_recount_41 rfl ?_
    refine lv_lmul hx hb dX9_recount_42 ?_
    refine lv_ldc2 (v := 100) hx hb hown (hts (.constantLong RX9 264 (100)) (List.mem_of_getElem? (i := 3) rfl)) dX9_recount_43 ?_
    refine lv_ldiv hx hb dX9_recount_46 (by decide) ?_
    refine lv_topl (fun v2 ev2 => ?_)
    have h := bL_e ev2 h
    refine lv_lstore_n (lv' := [(3, .long v2), (1, .int x1), (2, .int x2), (5, .int x5)]) hx hb dX9_recount_47 rfl hl (by decide) rfl (fun ls hl => ?_)
    refine lv_iinc (v := x5 + (1 : Int32)) (lv' := [(5, .int (x5 + (1 : Int32))), (3, .long v2), (1, .int x1), (2, .int x2)]) hx hb dX9_recount_48 hl (k := 3) rfl rfl (by decide) rfl (fun ls hl => ?_)
    refine lv_goto (tgt := 30) hx hb dX9_recount_51 (by decide) ?_
    exact hrc30 _ _ _ _ _ _ _ _  hd hS (lv_sub hl [2, 3, 1, 0] rfl) h
def f_X9_recount_L30 : Nat → Mm → Int32 → Int32 → Int64 → Int32 → Option (Int32 × Mm)
  | 0 => fun _ _ _ _ _ => none
  | n + 1 => fun μ x1 x2 x3 x5 => f_X9_recount_L30b (f_X9_recount_L30 n) μ x1 x2 x3 x5
theorem k_f_X9_recount_L30 {l : Launch} {D : va_G} {cA : Nat → ClassId} {z : Nat} {av : List Value} {p : Program} {e : Env} {s : State} {m : MethodId} {below : List Frame} {meth : Method} {c : Code} {r : Int32} {μ' : Mm} (X : Fx D cA RX9 wsX9_recount cX9_recount 6 (some .int) p s m av.toArray meth c) (n : Nat) : HL_X9_recount_30 l D cA z av r μ' p e s m below meth c (f_X9_recount_L30 n) := by
  induction n with
  | zero => intro _ _ _ _ _ _ _ _ _ _ _ h; have h2 : (none : Option _) = some _ := h; cases h2
  | succ n ih => intro μ H locs ls x1 x2 x3 x5  hd hS hl h; exact k_f_X9_recount_L30b X ih  hd hS hl h
def f_X9_recount (μ : Mm) (a0 : Nat) (x1 : Int32) (x2 : Int32) : Option (Int32 × Mm) := if x1 < 0 then (some ((-1000000002 : Int32), μ)) else (if (60 : Int32) < x1 then (some ((-1000000002 : Int32), μ)) else (if x2 < 0 then (some ((-1000000002 : Int32), μ)) else (if x2 ≤ (100 : Int32) then (f_X9_recount_L30 FU μ x1 x2 (1000000000 : Int64) (0 : Int32)) else (some ((-1000000002 : Int32), μ)))))
set_option maxRecDepth 100000 in
theorem c_X9_recount {l : Launch} {D : va_G} {cA : Nat → ClassId} {z : Nat} {μ : Mm} {a0 : Nat} {x1 : Int32} {x2 : Int32} {r : Int32} {μ' : Mm} (hk_a0 : kd a0 = 9) (h : f_X9_recount μ a0 x1 x2 = some (r, μ')) : Ct l D cA z yX9_recount wsX9_recount 0 0 [.ref (z + a0), .int x1, .int x2] μ (some (.int r)) μ' := by
  refine m_in (cc := cX9_recount) (maxL := 6) (ret := (some .int)) (own := RX9) (by decide) rfl rfl (Nat.le_of_ble_eq_true rfl) ?_
  intro p e s m below meth c ls X hd hS hl
  obtain ⟨hx, hb, hr, hlk, hml, hown, hts, hK⟩ := id X
  have hl : lv_has ls 6 [(0, .ref (z + a0)), (1, .int x1), (2, .int x2)] := hl
  unfold f_X9_recount at h
  refine lv_iload_n hx hb dX9_recount_0 rfl (lv_at hl 1 rfl) ?_
  refine lv_if_lt (tgt := 20) hx hb dX9_recount_1 (by decide) (fun q1 => ?_) (fun q1 => ?_)
  · have h := if_y q1 h
    refine lv_ldc (v := -1000000002) hx hb hown (hts (.constant RX9 86 (-1000000002)) (List.mem_of_getElem? (i := 1) rfl)) dX9_recount_20 ?_
    obtain ⟨rfl, rfl⟩ := so_e h
    exact rt_i hx hb hr hlk hd hS dX9_recount_22
  · have h := if_n q1 h
    refine lv_iload_n hx hb dX9_recount_4 rfl (lv_at hl 1 rfl) ?_
    refine lv_bipush (v := 60) hx hb dX9_recount_5 (by decide) ?_
    refine lv_icmp_gt (tgt := 20) hx hb dX9_recount_7 (by decide) (fun q2 => ?_) (fun q2 => ?_)
    · have h := if_y q2 h
      refine lv_ldc (v := -1000000002) hx hb hown (hts (.constant RX9 86 (-1000000002)) (List.mem_of_getElem? (i := 1) rfl)) dX9_recount_20 ?_
      obtain ⟨rfl, rfl⟩ := so_e h
      exact rt_i hx hb hr hlk hd hS dX9_recount_22
    · have h := if_n q2 h
      refine lv_iload_n hx hb dX9_recount_10 rfl (lv_at hl 2 rfl) ?_
      refine lv_if_lt (tgt := 20) hx hb dX9_recount_11 (by decide) (fun q3 => ?_) (fun q3 => ?_)
      · have h := if_y q3 h
        refine lv_ldc (v := -1000000002) hx hb hown (hts (.constant RX9 86 (-1000000002)) (List.mem_of_getElem? (i := 1) rfl)) dX9_recount_20 ?_
        obtain ⟨rfl, rfl⟩ := so_e h
        exact rt_i hx hb hr hlk hd hS dX9_recount_22
      · have h := if_n q3 h
        refine lv_iload_n hx hb dX9_recount_14 rfl (lv_at hl 2 rfl) ?_
        refine lv_bipush (v := 100) hx hb dX9_recount_15 (by decide) ?_
        refine lv_icmp_le (tgt := 23) hx hb dX9_recount_17 (by decide) (fun q4 => ?_) (fun q4 => ?_)
        · have h := if_y q4 h
          refine lv_ldc2 (v := 1000000000) hx hb hown (hts (.constantLong RX9 262 (1000000000)) (List.mem_of_getElem? (i := 2) rfl)) dX9_recount_23 ?_
          refine lv_lstore_n (lv' := [(3, .long (1000000000 : Int64)), (0, .ref (z + a0)), (1, .int x1), (2, .int x2)]) hx hb dX9_recount_26 rfl hl (by decide) rfl (fun ls hl => ?_)
          refine lv_iconst (v := 0) hx hb dX9_recount_27 (by decide) ?_
          refine lv_istore (lv' := [(5, .int (0 : Int32)), (3, .long (1000000000 : Int64)), (0, .ref (z + a0)), (1, .int x1), (2, .int x2)]) hx hb dX9_recount_28 hl (by decide) rfl (fun ls hl => ?_)
          exact k_f_X9_recount_L30 X FU _ _ _ _ _ _ _ _  hd hS (lv_sub hl [3, 4, 1, 0] rfl) h
        · have h := if_n q4 h
          refine lv_ldc (v := -1000000002) hx hb hown (hts (.constant RX9 86 (-1000000002)) (List.mem_of_getElem? (i := 1) rfl)) dX9_recount_20 ?_
          obtain ⟨rfl, rfl⟩ := so_e h
          exact rt_i hx hb hr hlk hd hS dX9_recount_22
