theorem hv_X3_remember : yX3_remember.cls = RX3 ∧ yX3_remember.cls ≠ "java/lang/invoke/MethodHandle" ∧ yX3_remember.cls ≠ "java/lang/invoke/VarHandle" ∧ (parseMethodDescriptor yX3_remember.desc).map (fun d => d.parameters.length) = some 1 := by decide +kernel
def f_X3_remember (μ : Mm) (a0 : Nat) (a1 : Nat) : Option Mm := bC (f_X3_rowAt μ a0 (μ.1 a0 2)) (fun r2 μ1 => bN r2 (some μ1) (fun b4 => bV (f_X0_copy μ1 b4 a1) (fun μ5 => bM (up2 μ5.1 a0 2 (((μ5.1 a0 2) + (1 : Int32)) - ((μ5.1 a0 2) + (1 : Int32)) / (20 : Int32) * (20 : Int32)), μ5.2) (fun μ8 => bM (up2 μ8.1 a0 1 (if (20 : Int32) < ((μ8.1 a0 1) + (1 : Int32)) then (20 : Int32) else ((μ8.1 a0 1) + (1 : Int32))), μ8.2) (fun μ9 => some μ9)))))
set_option maxRecDepth 100000 in
theorem c_X3_remember {l : Launch} {D : va_G} {cA : Nat → ClassId} {z : Nat} {μ : Mm} {a0 : Nat} {a1 : Nat} {μ' : Mm} (hk_a0 : kd a0 = 3) (hk_a1 : kd a1 = 0) (h : f_X3_remember μ a0 a1 = some μ') : Ct l D cA z yX3_remember wsX3_remember 2 43 [.ref (z + a0), .ref (z + a1)] μ none μ' := by
  refine m_in (cc := cX3_remember) (maxL := 3) (ret := none) (own := RX3) (by decide) rfl rfl (Nat.le_of_ble_eq_true rfl) ?_
  intro p e s m below meth c ls X hd hS hl
  obtain ⟨hx, hb, hr, hlk, hml, hown, hts, hK⟩ := id X
  have hl : lv_has ls 3 [(0, .ref (z + a0)), (1, .ref (z + a1))] := hl
  unfold f_X3_remember at h
  refine lv_aload_n hx hb dX3_remember_0 rfl (lv_at hl 0 rfl) ?_
  refine lv_aload_n hx hb dX3_remember_1 rfl (lv_at hl 0 rfl) ?_
  refine r_geti hx hb hts (fun w h => List.mem_cons_of_mem _ (List.mem_append_left _ (List.mem_append_right _ (h)))) hown hK hd hk_a0 rfl 2 fs_3_2 (hts (.fieldLink RX3 22 "LevelVotes$History" "next" "I") (List.mem_of_getElem? (i := 1) rfl)) dX3_remember_2 ?_
  have hT0 := hd.1
  obtain ⟨r2, μ1, hc3, h⟩ := bC_e h
  refine rc_Vr (rest := []) [.int (μ.1 a0 2)] ⟨hx, hb, hml, hown, hts⟩ hK hd hS (c_X3_rowAt hk_a0 hc3) (cwV 1 hts gX3_remember_X3_rowAt rfl rfl rfl hv_X3_rowAt ⟨Nat.le_of_ble_eq_true rfl, Nat.le_of_ble_eq_true rfl⟩) hk_a0 rfl rfl rfl rfl hl.1 rfl (Nat.le_of_ble_eq_true rfl) dX3_remember_5 ⟨Nat.zero_le _, Nat.zero_le _⟩ (fun H locs hd hS => ?_)
  have hN := bN_e h
  clear h
  rcases hN with ⟨rfl, h⟩ | ⟨b4, rfl, h⟩
  · skip
    refine lv_astore_nN (lv' := [(2, .null), (0, .ref (z + a0)), (1, .ref (z + a1))]) hx hb dX3_remember_8 rfl hl (by decide) rfl (fun ls hl => ?_)
    refine lv_aload_nN hx hb dX3_remember_9 rfl (lv_at hl 0 rfl) ?_
    refine lv_ifnullN (tgt := 46) hx hb dX3_remember_10 (by decide) ?_
    obtain rfl := sv_e h
    exact rt_v hx hb hr hlk hd hS dX3_remember_46
  · have hk_b4 : kd b4 = 0 := ko_X3_rowAt hT0 hk_a0 hc3
    refine lv_astore_n (lv' := [(2, .ref (z + b4)), (0, .ref (z + a0)), (1, .ref (z + a1))]) hx hb dX3_remember_8 rfl hl (by decide) rfl (fun ls hl => ?_)
    refine lv_aload_n hx hb dX3_remember_9 rfl (lv_at hl 0 rfl) ?_
    refine lv_ifnull hx hb dX3_remember_10 ?_
    refine lv_aload_n hx hb dX3_remember_13 rfl (lv_at hl 0 rfl) ?_
    refine lv_aload_n hx hb dX3_remember_14 rfl (lv_at hl 2 rfl) ?_
    obtain ⟨μ5, hc7, h⟩ := bV_e h
    refine rc_Vv (rest := []) [.ref (z + a1)] ⟨hx, hb, hml, hown, hts⟩ hK hd hS (c_X0_copy hk_b4 hk_a1 hc7) (cwV 1 hts gX3_remember_X0_copy rfl rfl rfl hv_X0_copy ⟨Nat.le_of_ble_eq_true rfl, Nat.le_of_ble_eq_true rfl⟩) hk_b4 rfl rfl rfl rfl hl.1 rfl (Nat.le_of_ble_eq_true rfl) dX3_remember_15 ⟨Nat.zero_le _, Nat.zero_le _⟩ (fun H locs hd hS => ?_)
    refine lv_aload_n hx hb dX3_remember_18 rfl (lv_at hl 1 rfl) ?_
    refine lv_aload_n hx hb dX3_remember_19 rfl (lv_at hl 1 rfl) ?_
    refine r_geti hx hb hts (fun w h => List.mem_cons_of_mem _ (List.mem_append_left _ (List.mem_append_right _ (h)))) hown hK hd hk_a0 rfl 2 fs_3_2 (hts (.fieldLink RX3 22 "LevelVotes$History" "next" "I") (List.mem_of_getElem? (i := 1) rfl)) dX3_remember_20 ?_
    refine lv_iconst (v := 1) hx hb dX3_remember_23 (by decide) ?_
    refine lv_iadd hx hb dX3_remember_24 ?_
    refine lv_bipush (v := 20) hx hb dX3_remember_25 (by decide) ?_
    refine lv_irem hx hb dX3_remember_27 (by decide) ?_
    refine r_puti hx hb hts (fun w h => List.mem_cons_of_mem _ (List.mem_append_left _ (List.mem_append_right _ (h)))) tyX3 tyX3_ok nmX3 hown hK hd hS hk_a0 rfl 2 fs_3_2 rfl (hts (.fieldLink RX3 22 "LevelVotes$History" "next" "I") (List.mem_of_getElem? (i := 1) rfl)) (vp_nar_int _) rfl dX3_remember_28 (fun μ8 eμ8 H locs hd hS => ?_)
    have h := bM_e eμ8 h
    refine lv_aload_n hx hb dX3_remember_31 rfl (lv_at hl 1 rfl) ?_
    refine lv_aload_n hx hb dX3_remember_32 rfl (lv_at hl 1 rfl) ?_
    refine r_geti hx hb hts (fun w h => List.mem_cons_of_mem _ (List.mem_append_left _ (List.mem_append_right _ (h)))) hown hK hd hk_a0 rfl 1 fs_3_1 (hts (.fieldLink RX3 18 "LevelVotes$History" "count" "I") (List.mem_of_getElem? (i := 2) rfl)) dX3_remember_33 ?_
    refine lv_iconst (v := 1) hx hb dX3_remember_36 (by decide) ?_
    refine lv_iadd hx hb dX3_remember_37 ?_
    refine lv_bipush (v := 20) hx hb dX3_remember_38 (by decide) ?_
    refine va_mmin hx hb (hml.trans hl.1.symm) hown (hts (.methodLink RX3 33 Lib.Math.min.name) (List.mem_of_getElem? (i := 3) rfl)) (hts (.static Lib.Math.min.name) (List.mem_of_getElem? (i := 4) rfl)) (hts (.initialized "java/lang/Math") (List.mem_of_getElem? (i := 5) rfl)) (hts (.code Lib.Math.min.name Lib.Math.min.code 2 (some .int)) (List.mem_of_getElem? (i := 6) rfl)) (Nat.le_of_ble_eq_true rfl) (Nat.le_of_ble_eq_true rfl) (Nat.zero_le _) (Nat.zero_le _) dX3_remember_40 ?_
    refine r_puti hx hb hts (fun w h => List.mem_cons_of_mem _ (List.mem_append_left _ (List.mem_append_right _ (h)))) tyX3 tyX3_ok nmX3 hown hK hd hS hk_a0 rfl 1 fs_3_1 rfl (hts (.fieldLink RX3 18 "LevelVotes$History" "count" "I") (List.mem_of_getElem? (i := 2) rfl)) (vp_nar_int _) rfl dX3_remember_43 (fun μ9 eμ9 H locs hd hS => ?_)
    have h := bM_e eμ9 h
    obtain rfl := sv_e h
    exact rt_v hx hb hr hlk hd hS dX3_remember_46
theorem hv_X3_takeBack : yX3_takeBack.cls = RX3 ∧ yX3_takeBack.cls ≠ "java/lang/invoke/MethodHandle" ∧ yX3_takeBack.cls ≠ "java/lang/invoke/VarHandle" ∧ (parseMethodDescriptor yX3_takeBack.desc).map (fun d => d.parameters.length) = some 1 := by decide +kernel
def f_X3_takeBack (μ : Mm) (a0 : Nat) (a1 : Nat) : Option Mm := bI ((((μ.1 a0 2) + (20 : Int32)) - (1 : Int32)) - (((μ.1 a0 2) + (20 : Int32)) - (1 : Int32)) / (20 : Int32) * (20 : Int32)) (fun v1 => bC (f_X3_rowAt μ a0 v1) (fun r3 μ2 => bN r3 (some μ2) (fun b5 => if (μ2.1 a0 1) ≤ 0 then (some μ2) else (bV (f_X0_copy μ2 a1 b5) (fun μ7 => bM (up2 μ7.1 a0 2 v1, μ7.2) (fun μ10 => bM (up2 μ10.1 a0 1 ((μ10.1 a0 1) - (1 : Int32)), μ10.2) (fun μ11 => some μ11)))))))
set_option maxRecDepth 100000 in
theorem c_X3_takeBack {l : Launch} {D : va_G} {cA : Nat → ClassId} {z : Nat} {μ : Mm} {a0 : Nat} {a1 : Nat} {μ' : Mm} (hk_a0 : kd a0 = 3) (hk_a1 : kd a1 = 0) (h : f_X3_takeBack μ a0 a1 = some μ') : Ct l D cA z yX3_takeBack wsX3_takeBack 2 43 [.ref (z + a0), .ref (z + a1)] μ none μ' := by
  refine m_in (cc := cX3_takeBack) (maxL := 4) (ret := none) (own := RX3) (by decide) rfl rfl (Nat.le_of_ble_eq_true rfl) ?_
  intro p e s m below meth c ls X hd hS hl
  obtain ⟨hx, hb, hr, hlk, hml, hown, hts, hK⟩ := id X
  have hl : lv_has ls 4 [(0, .ref (z + a0)), (1, .ref (z + a1))] := hl
  unfold f_X3_takeBack at h
  refine lv_aload_n hx hb dX3_takeBack_0 rfl (lv_at hl 0 rfl) ?_
  refine r_geti hx hb hts (fun w h => List.mem_cons_of_mem _ (List.mem_append_left _ (List.mem_append_right _ (h)))) hown hK hd hk_a0 rfl 2 fs_3_2 (hts (.fieldLink RX3 22 "LevelVotes$History" "next" "I") (List.mem_of_getElem? (i := 1) rfl)) dX3_takeBack_1 ?_
  refine lv_bipush (v := 20) hx hb dX3_takeBack_4 (by decide) ?_
  refine lv_iadd hx hb dX3_takeBack_6 ?_
  refine lv_iconst (v := 1) hx hb dX3_takeBack_7 (by decide) ?_
  refine lv_isub hx hb dX3_takeBack_8 ?_
  refine lv_bipush (v := 20) hx hb dX3_takeBack_9 (by decide) ?_
  refine lv_irem hx hb dX3_takeBack_11 (by decide) ?_
  refine lv_topi (fun v1 ev1 => ?_)
  have h := bI_e ev1 h
  refine lv_istore_n (lv' := [(2, .int v1), (0, .ref (z + a0)), (1, .ref (z + a1))]) hx hb dX3_takeBack_12 rfl hl (by decide) rfl (fun ls hl => ?_)
  refine lv_aload_n hx hb dX3_takeBack_13 rfl (lv_at hl 1 rfl) ?_
  refine lv_iload_n hx hb dX3_takeBack_14 rfl (lv_at hl 0 rfl) ?_
  have hT0 := hd.1
  obtain ⟨r3, μ2, hc4, h⟩ := bC_e h
  refine rc_Vr (rest := []) [.int v1] ⟨hx, hb, hml, hown, hts⟩ hK hd hS (c_X3_rowAt hk_a0 hc4) (cwV 1 hts gX3_takeBack_X3_rowAt rfl rfl rfl hv_X3_rowAt ⟨Nat.le_of_ble_eq_true rfl, Nat.le_of_ble_eq_true rfl⟩) hk_a0 rfl rfl rfl rfl hl.1 rfl (Nat.le_of_ble_eq_true rfl) dX3_takeBack_15 ⟨Nat.zero_le _, Nat.zero_le _⟩ (fun H locs hd hS => ?_)
  have hN := bN_e h
  clear h
  rcases hN with ⟨rfl, h⟩ | ⟨b5, rfl, h⟩
  · skip
    refine lv_astore_nN (lv' := [(3, .null), (2, .int v1), (0, .ref (z + a0)), (1, .ref (z + a1))]) hx hb dX3_takeBack_18 rfl hl (by decide) rfl (fun ls hl => ?_)
    refine lv_aload_nN hx hb dX3_takeBack_19 rfl (lv_at hl 0 rfl) ?_
    refine lv_ifnullN (tgt := 50) hx hb dX3_takeBack_20 (by decide) ?_
    obtain rfl := sv_e h
    exact rt_v hx hb hr hlk hd hS dX3_takeBack_50
  · have hk_b5 : kd b5 = 0 := ko_X3_rowAt hT0 hk_a0 hc4
    refine lv_astore_n (lv' := [(3, .ref (z + b5)), (2, .int v1), (0, .ref (z + a0)), (1, .ref (z + a1))]) hx hb dX3_takeBack_18 rfl hl (by decide) rfl (fun ls hl => ?_)
    refine lv_aload_n hx hb dX3_takeBack_19 rfl (lv_at hl 0 rfl) ?_
    refine lv_ifnull hx hb dX3_takeBack_20 ?_
    refine lv_aload_n hx hb dX3_takeBack_23 rfl (lv_at hl 2 rfl) ?_
    refine r_geti hx hb hts (fun w h => List.mem_cons_of_mem _ (List.mem_append_left _ (List.mem_append_right _ (h)))) hown hK hd hk_a0 rfl 1 fs_3_1 (hts (.fieldLink RX3 18 "LevelVotes$History" "count" "I") (List.mem_of_getElem? (i := 2) rfl)) dX3_takeBack_24 ?_
    refine lv_if_le (tgt := 50) hx hb dX3_takeBack_27 (by decide) (fun q6 => ?_) (fun q6 => ?_)
    · have h := if_y q6 h
      obtain rfl := sv_e h
      exact rt_v hx hb hr hlk hd hS dX3_takeBack_50
    · have h := if_n q6 h
      refine lv_aload_n hx hb dX3_takeBack_30 rfl (lv_at hl 3 rfl) ?_
      refine lv_aload_n hx hb dX3_takeBack_31 rfl (lv_at hl 0 rfl) ?_
      obtain ⟨μ7, hc9, h⟩ := bV_e h
      refine rc_Vv (rest := []) [.ref (z + b5)] ⟨hx, hb, hml, hown, hts⟩ hK hd hS (c_X0_copy hk_a1 hk_b5 hc9) (cwV 1 hts gX3_takeBack_X0_copy rfl rfl rfl hv_X0_copy ⟨Nat.le_of_ble_eq_true rfl, Nat.le_of_ble_eq_true rfl⟩) hk_a1 rfl rfl rfl rfl hl.1 rfl (Nat.le_of_ble_eq_true rfl) dX3_takeBack_32 ⟨Nat.zero_le _, Nat.zero_le _⟩ (fun H locs hd hS => ?_)
      refine lv_aload_n hx hb dX3_takeBack_35 rfl (lv_at hl 2 rfl) ?_
      refine lv_iload_n hx hb dX3_takeBack_36 rfl (lv_at hl 1 rfl) ?_
      refine r_puti hx hb hts (fun w h => List.mem_cons_of_mem _ (List.mem_append_left _ (List.mem_append_right _ (h)))) tyX3 tyX3_ok nmX3 hown hK hd hS hk_a0 rfl 2 fs_3_2 rfl (hts (.fieldLink RX3 22 "LevelVotes$History" "next" "I") (List.mem_of_getElem? (i := 1) rfl)) (vp_nar_int _) rfl dX3_takeBack_37 (fun μ10 eμ10 H locs hd hS => ?_)
      have h := bM_e eμ10 h
      refine lv_aload_n hx hb dX3_takeBack_40 rfl (lv_at hl 2 rfl) ?_
      refine lv_dup hx hb dX3_takeBack_41 rfl ?_
      refine r_geti hx hb hts (fun w h => List.mem_cons_of_mem _ (List.mem_append_left _ (List.mem_append_right _ (h)))) hown hK hd hk_a0 rfl 1 fs_3_1 (hts (.fieldLink RX3 18 "LevelVotes$History" "count" "I") (List.mem_of_getElem? (i := 2) rfl)) dX3_takeBack_42 ?_
      refine lv_iconst (v := 1) hx hb dX3_takeBack_45 (by decide) ?_
      refine lv_isub hx hb dX3_takeBack_46 ?_
      refine r_puti hx hb hts (fun w h => List.mem_cons_of_mem _ (List.mem_append_left _ (List.mem_append_right _ (h)))) tyX3 tyX3_ok nmX3 hown hK hd hS hk_a0 rfl 1 fs_3_1 rfl (hts (.fieldLink RX3 18 "LevelVotes$History" "count" "I") (List.mem_of_getElem? (i := 2) rfl)) (vp_nar_int _) rfl dX3_takeBack_47 (fun μ11 eμ11 H locs hd hS => ?_)
      have h := bM_e eμ11 h
      obtain rfl := sv_e h
      exact rt_v hx hb hr hlk hd hS dX3_takeBack_50
theorem hv_X4_clear : yX4_clear.cls = RX4 ∧ yX4_clear.cls ≠ "java/lang/invoke/MethodHandle" ∧ yX4_clear.cls ≠ "java/lang/invoke/VarHandle" ∧ (parseMethodDescriptor yX4_clear.desc).map (fun d => d.parameters.length) = some 0 := by decide +kernel
def f_X4_clear (μ : Mm) (a0 : Nat) : Option Mm := bM (up2 μ.1 a0 0 (0 : Int32), μ.2) (fun μ1 => bM (up2 μ1.1 a0 1 (0 : Int32), μ1.2) (fun μ2 => bM (up2 μ2.1 a0 2 (0 : Int32), μ2.2) (fun μ3 => bM (up2 μ3.1 a0 3 (0 : Int32), μ3.2) (fun μ4 => bM (up2 μ4.1 a0 4 (0 : Int32), μ4.2) (fun μ5 => bM (up2 μ5.1 a0 5 (0 : Int32), μ5.2) (fun μ6 => bR (μ6.2 a0 10) (fun b7 => bV (f_X0_clear μ6 b7) (fun μ8 => some μ8))))))))
set_option maxRecDepth 100000 in
theorem c_X4_clear {l : Launch} {D : va_G} {cA : Nat → ClassId} {z : Nat} {μ : Mm} {a0 : Nat} {μ' : Mm} (hk_a0 : kd a0 = 4) (h : f_X4_clear μ a0 = some μ') : Ct l D cA z yX4_clear wsX4_clear 2 43 [.ref (z + a0)] μ none μ' := by
  refine m_in (cc := cX4_clear) (maxL := 1) (ret := none) (own := RX4) (by decide) rfl rfl (Nat.le_of_ble_eq_true rfl) ?_
  intro p e s m below meth c ls X hd hS hl
  obtain ⟨hx, hb, hr, hlk, hml, hown, hts, hK⟩ := id X
  have hl : lv_has ls 1 [(0, .ref (z + a0))] := hl
  unfold f_X4_clear at h
  refine lv_aload_n hx hb dX4_clear_0 rfl (lv_at hl 0 rfl) ?_
  refine lv_iconst (v := 0) hx hb dX4_clear_1 (by decide) ?_
  refine r_puti hx hb hts (fun w h => List.mem_cons_of_mem _ (List.mem_append_left _ (List.mem_append_right _ (h)))) tyX4 tyX4_ok nmX4 hown hK hd hS hk_a0 rfl 0 fs_4_0 rfl (hts (.fieldLink RX4 31 "LevelVotes$House" "columns" "I") (List.mem_of_getElem? (i := 1) rfl)) (vp_nar_int _) rfl dX4_clear_2 (fun μ1 eμ1 H locs hd hS => ?_)
  have h := bM_e eμ1 h
  refine lv_aload_n hx hb dX4_clear_5 rfl (lv_at hl 0 rfl) ?_
  refine lv_iconst (v := 0) hx hb dX4_clear_6 (by decide) ?_
  refine r_puti hx hb hts (fun w h => List.mem_cons_of_mem _ (List.mem_append_left _ (List.mem_append_right _ (h)))) tyX4 tyX4_ok nmX4 hown hK hd hS hk_a0 rfl 1 fs_4_1 rfl (hts (.fieldLink RX4 35 "LevelVotes$House" "rows" "I") (List.mem_of_getElem? (i := 2) rfl)) (vp_nar_int _) rfl dX4_clear_7 (fun μ2 eμ2 H locs hd hS => ?_)
  have h := bM_e eμ2 h
  refine lv_aload_n hx hb dX4_clear_10 rfl (lv_at hl 0 rfl) ?_
  refine lv_iconst (v := 0) hx hb dX4_clear_11 (by decide) ?_
  refine r_puti hx hb hts (fun w h => List.mem_cons_of_mem _ (List.mem_append_left _ (List.mem_append_right _ (h)))) tyX4 tyX4_ok nmX4 hown hK hd hS hk_a0 rfl 2 fs_4_2 rfl (hts (.fieldLink RX4 38 "LevelVotes$House" "cells" "I") (List.mem_of_getElem? (i := 3) rfl)) (vp_nar_int _) rfl dX4_clear_12 (fun μ3 eμ3 H locs hd hS => ?_)
  have h := bM_e eμ3 h
  refine lv_aload_n hx hb dX4_clear_15 rfl (lv_at hl 0 rfl) ?_
  refine lv_iconst (v := 0) hx hb dX4_clear_16 (by decide) ?_
  refine r_puti hx hb hts (fun w h => List.mem_cons_of_mem _ (List.mem_append_left _ (List.mem_append_right _ (h)))) tyX4 tyX4_ok nmX4 hown hK hd hS hk_a0 rfl 3 fs_4_3 rfl (hts (.fieldLink RX4 41 "LevelVotes$House" "items" "I") (List.mem_of_getElem? (i := 4) rfl)) (vp_nar_int _) rfl dX4_clear_17 (fun μ4 eμ4 H locs hd hS => ?_)
  have h := bM_e eμ4 h
  refine lv_aload_n hx hb dX4_clear_20 rfl (lv_at hl 0 rfl) ?_
  refine lv_iconst (v := 0) hx hb dX4_clear_21 (by decide) ?_
  refine r_puti hx hb hts (fun w h => List.mem_cons_of_mem _ (List.mem_append_left _ (List.mem_append_right _ (h)))) tyX4 tyX4_ok nmX4 hown hK hd hS hk_a0 rfl 4 fs_4_4 rfl (hts (.fieldLink RX4 44 "LevelVotes$House" "persons" "I") (List.mem_of_getElem? (i := 5) rfl)) (vp_nar_int _) rfl dX4_clear_22 (fun μ5 eμ5 H locs hd hS => ?_)
  have h := bM_e eμ5 h
  refine lv_aload_n hx hb dX4_clear_25 rfl (lv_at hl 0 rfl) ?_
  refine lv_iconst (v := 0) hx hb dX4_clear_26 (by decide) ?_
  refine r_puti hx hb hts (fun w h => List.mem_cons_of_mem _ (List.mem_append_left _ (List.mem_append_right _ (h)))) tyX4 tyX4_ok nmX4 hown hK hd hS hk_a0 rfl 5 fs_4_5 rfl (hts (.fieldLink RX4 47 "LevelVotes$House" "heightsTold" "I") (List.mem_of_getElem? (i := 6) rfl)) (vp_nar_int _) rfl dX4_clear_27 (fun μ6 eμ6 H locs hd hS => ?_)
  have h := bM_e eμ6 h
  refine lv_aload_n hx hb dX4_clear_30 rfl (lv_at hl 0 rfl) ?_
  obtain ⟨b7, hb7, h⟩ := bR_e h
  refine r_getr hx hb hts (fun w h => List.mem_cons_of_mem _ (List.mem_append_left _ (List.mem_append_right _ (h)))) hown hK hd hk_a0 hb7 rfl fs_4_10 (hts (.fieldLink RX4 27 "LevelVotes$House" "toldVotes" "LLevelVotes$Ballot;") (List.mem_of_getElem? (i := 7) rfl)) dX4_clear_31 (fun hq => ?_)
  have hk_b7 : kd b7 = 0 := hq
  obtain ⟨μ8, hc10, h⟩ := bV_e h
  refine rc_Vv (rest := []) [] ⟨hx, hb, hml, hown, hts⟩ hK hd hS (c_X0_clear hk_b7 hc10) (cwV 0 hts gX4_clear_X0_clear rfl rfl rfl hv_X0_clear ⟨Nat.le_of_ble_eq_true rfl, Nat.le_of_ble_eq_true rfl⟩) hk_b7 rfl rfl rfl rfl hl.1 rfl (Nat.le_of_ble_eq_true rfl) dX4_clear_34 ⟨Nat.zero_le _, Nat.zero_le _⟩ (fun H locs hd hS => ?_)
  obtain rfl := sv_e h
  exact rt_v hx hb hr hlk hd hS dX4_clear_37
theorem hv_X4_setSize : yX4_setSize.cls = RX4 ∧ yX4_setSize.cls ≠ "java/lang/invoke/MethodHandle" ∧ yX4_setSize.cls ≠ "java/lang/invoke/VarHandle" ∧ (parseMethodDescriptor yX4_setSize.desc).map (fun d => d.parameters.length) = some 2 := by decide +kernel
def f_X4_setSize (μ : Mm) (a0 : Nat) (x1 : Int32) (x2 : Int32) : Option Mm := bM (up2 μ.1 a0 0 x1, μ.2) (fun μ1 => bM (up2 μ1.1 a0 1 x2, μ1.2) (fun μ2 => bM (up2 μ2.1 a0 2 (x1 * x2), μ2.2) (fun μ3 => some μ3)))
set_option maxRecDepth 100000 in
theorem c_X4_setSize {l : Launch} {D : va_G} {cA : Nat → ClassId} {z : Nat} {μ : Mm} {a0 : Nat} {x1 : Int32} {x2 : Int32} {μ' : Mm} (hk_a0 : kd a0 = 4) (h : f_X4_setSize μ a0 x1 x2 = some μ') : Ct l D cA z yX4_setSize wsX4_setSize 0 0 [.ref (z + a0), .int x1, .int x2] μ none μ' := by
  refine m_in (cc := cX4_setSize) (maxL := 3) (ret := none) (own := RX4) (by decide) rfl rfl (Nat.le_of_ble_eq_true rfl) ?_
  intro p e s m below meth c ls X hd hS hl
  obtain ⟨hx, hb, hr, hlk, hml, hown, hts, hK⟩ := id X
  have hl : lv_has ls 3 [(0, .ref (z + a0)), (1, .int x1), (2, .int x2)] := hl
  unfold f_X4_setSize at h
  refine lv_aload_n hx hb dX4_setSize_0 rfl (lv_at hl 0 rfl) ?_
  refine lv_iload_n hx hb dX4_setSize_1 rfl (lv_at hl 1 rfl) ?_
  refine r_puti hx hb hts (fun w h => List.mem_cons_of_mem _ (List.mem_append_right _ (h))) tyX4 tyX4_ok nmX4 hown hK hd hS hk_a0 rfl 0 fs_4_0 rfl (hts (.fieldLink RX4 31 "LevelVotes$House" "columns" "I") (List.mem_of_getElem? (i := 1) rfl)) (vp_nar_int _) rfl dX4_setSize_2 (fun μ1 eμ1 H locs hd hS => ?_)
  have h := bM_e eμ1 h
  refine lv_aload_n hx hb dX4_setSize_5 rfl (lv_at hl 0 rfl) ?_
  refine lv_iload_n hx hb dX4_setSize_6 rfl (lv_at hl 2 rfl) ?_
  refine r_puti hx hb hts (fun w h => List.mem_cons_of_mem _ (List.mem_append_right _ (h))) tyX4 tyX4_ok nmX4 hown hK hd hS hk_a0 rfl 1 fs_4_1 rfl (hts (.fieldLink RX4 35 "LevelVotes$House" "rows" "I") (List.mem_of_getElem? (i := 2) rfl)) (vp_nar_int _) rfl dX4_setSize_7 (fun μ2 eμ2 H locs hd hS => ?_)
  have h := bM_e eμ2 h
  refine lv_aload_n hx hb dX4_setSize_10 rfl (lv_at hl 0 rfl) ?_
  refine lv_iload_n hx hb dX4_setSize_11 rfl (lv_at hl 1 rfl) ?_
  refine lv_iload_n hx hb dX4_setSize_12 rfl (lv_at hl 2 rfl) ?_
  refine lv_imul hx hb dX4_setSize_13 ?_
  refine r_puti hx hb hts (fun w h => List.mem_cons_of_mem _ (List.mem_append_right _ (h))) tyX4 tyX4_ok nmX4 hown hK hd hS hk_a0 rfl 2 fs_4_2 rfl (hts (.fieldLink RX4 38 "LevelVotes$House" "cells" "I") (List.mem_of_getElem? (i := 3) rfl)) (vp_nar_int _) rfl dX4_setSize_14 (fun μ3 eμ3 H locs hd hS => ?_)
  have h := bM_e eμ3 h
  obtain rfl := sv_e h
  exact rt_v hx hb hr hlk hd hS dX4_setSize_17
theorem hv_X4_addHeight : yX4_addHeight.cls = RX4 ∧ yX4_addHeight.cls ≠ "java/lang/invoke/MethodHandle" ∧ yX4_addHeight.cls ≠ "java/lang/invoke/VarHandle" ∧ (parseMethodDescriptor yX4_addHeight.desc).map (fun d => d.parameters.length) = some 1 := by decide +kernel
def f_X4_addHeight (μ : Mm) (a0 : Nat) (x1 : Int32) : Option Mm := if (μ.1 a0 5) < 0 then (some μ) else (bR (μ.2 a0 6) (fun b2 => if (Int32.ofNat (ln b2)) ≤ (μ.1 a0 5) then (some μ) else (bR (μ.2 a0 6) (fun b4 => gd (ckb (μ.1 a0 5) (ln b4)) (bM (up2 μ.1 b4 (μ.1 a0 5).toNatClampNeg x1, μ.2) (fun μ6 => bM (up2 μ6.1 a0 5 ((μ6.1 a0 5) + (1 : Int32)), μ6.2) (fun μ7 => some μ7)))))))
set_option maxRecDepth 100000 in
theorem c_X4_addHeight {l : Launch} {D : va_G} {cA : Nat → ClassId} {z : Nat} {μ : Mm} {a0 : Nat} {x1 : Int32} {μ' : Mm} (hk_a0 : kd a0 = 4) (h : f_X4_addHeight μ a0 x1 = some μ') : Ct l D cA z yX4_addHeight wsX4_addHeight 0 0 [.ref (z + a0), .int x1] μ none μ' := by
  refine m_in (cc := cX4_addHeight) (maxL := 2) (ret := none) (own := RX4) (by decide) rfl rfl (Nat.le_of_ble_eq_true rfl) ?_
  intro p e s m below meth c ls X hd hS hl
  obtain ⟨hx, hb, hr, hlk, hml, hown, hts, hK⟩ := id X
  have hl : lv_has ls 2 [(0, .ref (z + a0)), (1, .int x1)] := hl
  unfold f_X4_addHeight at h
  refine lv_aload_n hx hb dX4_addHeight_0 rfl (lv_at hl 0 rfl) ?_
  refine r_geti hx hb hts (fun w h => List.mem_cons_of_mem _ (List.mem_append_right _ (h))) hown hK hd hk_a0 rfl 5 fs_4_5 (hts (.fieldLink RX4 47 "LevelVotes$House" "heightsTold" "I") (List.mem_of_getElem? (i := 1) rfl)) dX4_addHeight_1 ?_
  refine lv_if_lt (tgt := 39) hx hb dX4_addHeight_4 (by decide) (fun q1 => ?_) (fun q1 => ?_)
  · have h := if_y q1 h
    obtain rfl := sv_e h
    exact rt_v hx hb hr hlk hd hS dX4_addHeight_39
  · have h := if_n q1 h
    refine lv_aload_n hx hb dX4_addHeight_7 rfl (lv_at hl 0 rfl) ?_
    refine r_geti hx hb hts (fun w h => List.mem_cons_of_mem _ (List.mem_append_right _ (h))) hown hK hd hk_a0 rfl 5 fs_4_5 (hts (.fieldLink RX4 47 "LevelVotes$House" "heightsTold" "I") (List.mem_of_getElem? (i := 1) rfl)) dX4_addHeight_8 ?_
    refine lv_aload_n hx hb dX4_addHeight_11 rfl (lv_at hl 0 rfl) ?_
    obtain ⟨b2, hb2, h⟩ := bR_e h
    refine r_getr hx hb hts (fun w h => List.mem_cons_of_mem _ (List.mem_append_right _ (h))) hown hK hd hk_a0 hb2 rfl fs_4_6 (hts (.fieldLink RX4 9 "LevelVotes$House" "heights" "[I") (List.mem_of_getElem? (i := 2) rfl)) dX4_addHeight_12 (fun hq => ?_)
    have hk_b2 : kd b2 = 11 := hq
    refine r_alen hx hb hK hd hk_b2 rfl dX4_addHeight_15 ?_
    refine lv_icmp_ge (tgt := 39) hx hb dX4_addHeight_16 (by decide) (fun q3 => ?_) (fun q3 => ?_)
    · have h := if_y q3 h
      obtain rfl := sv_e h
      exact rt_v hx hb hr hlk hd hS dX4_addHeight_39
    · have h := if_n q3 h
      refine lv_aload_n hx hb dX4_addHeight_19 rfl (lv_at hl 0 rfl) ?_
      obtain ⟨b4, hb4, h⟩ := bR_e h
      refine r_getr hx hb hts (fun w h => List.mem_cons_of_mem _ (List.mem_append_right _ (h))) hown hK hd hk_a0 hb4 rfl fs_4_6 (hts (.fieldLink RX4 9 "LevelVotes$House" "heights" "[I") (List.mem_of_getElem? (i := 2) rfl)) dX4_addHeight_20 (fun hq => ?_)
      have hk_b4 : kd b4 = 11 := hq
      refine lv_aload_n hx hb dX4_addHeight_23 rfl (lv_at hl 0 rfl) ?_
      refine r_geti hx hb hts (fun w h => List.mem_cons_of_mem _ (List.mem_append_right _ (h))) hown hK hd hk_a0 rfl 5 fs_4_5 (hts (.fieldLink RX4 47 "LevelVotes$House" "heightsTold" "I") (List.mem_of_getElem? (i := 1) rfl)) dX4_addHeight_24 ?_
      refine lv_iload_n hx hb dX4_addHeight_27 rfl (lv_at hl 1 rfl) ?_
      obtain ⟨g5, h⟩ := gd_e h
      refine r_iast hx hb hK hd hS hk_b4 (ckb_in g5) dX4_addHeight_28 (fun μ6 eμ6 H locs hd hS => ?_)
      have h := bM_e eμ6 h
      refine lv_aload_n hx hb dX4_addHeight_29 rfl (lv_at hl 0 rfl) ?_
      refine lv_dup hx hb dX4_addHeight_30 rfl ?_
      refine r_geti hx hb hts (fun w h => List.mem_cons_of_mem _ (List.mem_append_right _ (h))) hown hK hd hk_a0 rfl 5 fs_4_5 (hts (.fieldLink RX4 47 "LevelVotes$House" "heightsTold" "I") (List.mem_of_getElem? (i := 1) rfl)) dX4_addHeight_31 ?_
      refine lv_iconst (v := 1) hx hb dX4_addHeight_34 (by decide) ?_
      refine lv_iadd hx hb dX4_addHeight_35 ?_
      refine r_puti hx hb hts (fun w h => List.mem_cons_of_mem _ (List.mem_append_right _ (h))) tyX4 tyX4_ok nmX4 hown hK hd hS hk_a0 rfl 5 fs_4_5 rfl (hts (.fieldLink RX4 47 "LevelVotes$House" "heightsTold" "I") (List.mem_of_getElem? (i := 1) rfl)) (vp_nar_int _) rfl dX4_addHeight_36 (fun μ7 eμ7 H locs hd hS => ?_)
      have h := bM_e eμ7 h
      obtain rfl := sv_e h
      exact rt_v hx hb hr hlk hd hS dX4_addHeight_39
theorem hv_X4_rowOf : yX4_rowOf.cls = RX4 ∧ yX4_rowOf.cls ≠ "java/lang/invoke/MethodHandle" ∧ yX4_rowOf.cls ≠ "java/lang/invoke/VarHandle" ∧ (parseMethodDescriptor yX4_rowOf.desc).map (fun d => d.parameters.length) = some 1 := by decide +kernel
def f_X4_rowOf (μ : Mm) (a0 : Nat) (x1 : Int32) : Option (Int32 × Mm) := if (μ.1 a0 0) ≤ 0 then (some ((0 : Int32), μ)) else (gd (ck0 (μ.1 a0 0)) (some (x1 / (μ.1 a0 0), μ)))
set_option maxRecDepth 100000 in
theorem c_X4_rowOf {l : Launch} {D : va_G} {cA : Nat → ClassId} {z : Nat} {μ : Mm} {a0 : Nat} {x1 : Int32} {r : Int32} {μ' : Mm} (hk_a0 : kd a0 = 4) (h : f_X4_rowOf μ a0 x1 = some (r, μ')) : Ct l D cA z yX4_rowOf wsX4_rowOf 0 0 [.ref (z + a0), .int x1] μ (some (.int r)) μ' := by
  refine m_in (cc := cX4_rowOf) (maxL := 2) (ret := (some .int)) (own := RX4) (by decide) rfl rfl (Nat.le_of_ble_eq_true rfl) ?_
  intro p e s m below meth c ls X hd hS hl
  obtain ⟨hx, hb, hr, hlk, hml, hown, hts, hK⟩ := id X
  have hl : lv_has ls 2 [(0, .ref (z + a0)), (1, .int x1)] := hl
  unfold f_X4_rowOf at h
  refine lv_aload_n hx hb dX4_rowOf_0 rfl (lv_at hl 0 rfl) ?_
  refine r_geti hx hb hts (fun w h => List.mem_cons_of_mem _ (List.mem_append_right _ (h))) hown hK hd hk_a0 rfl 0 fs_4_0 (hts (.fieldLink RX4 31 "LevelVotes$House" "columns" "I") (List.mem_of_getElem? (i := 1) rfl)) dX4_rowOf_1 ?_
  refine lv_if_le (tgt := 16) hx hb dX4_rowOf_4 (by decide) (fun q1 => ?_) (fun q1 => ?_)
  · have h := if_y q1 h
    refine lv_iconst (v := 0) hx hb dX4_rowOf_16 (by decide) ?_
    obtain ⟨rfl, rfl⟩ := so_e h
    exact rt_i hx hb hr hlk hd hS dX4_rowOf_17
  · have h := if_n q1 h
    refine lv_iload_n hx hb dX4_rowOf_7 rfl (lv_at hl 1 rfl) ?_
    refine lv_aload_n hx hb dX4_rowOf_8 rfl (lv_at hl 0 rfl) ?_
    refine r_geti hx hb hts (fun w h => List.mem_cons_of_mem _ (List.mem_append_right _ (h))) hown hK hd hk_a0 rfl 0 fs_4_0 (hts (.fieldLink RX4 31 "LevelVotes$House" "columns" "I") (List.mem_of_getElem? (i := 1) rfl)) dX4_rowOf_9 ?_
    obtain ⟨g2, h⟩ := gd_e h
    refine lv_idiv hx hb dX4_rowOf_12 (ck0_ne g2) ?_
    refine lv_goto (tgt := 17) hx hb dX4_rowOf_13 (by decide) ?_
    obtain ⟨rfl, rfl⟩ := so_e h
    exact rt_i hx hb hr hlk hd hS dX4_rowOf_17
theorem hv_X4_isBehind : yX4_isBehind.cls = RX4 ∧ yX4_isBehind.cls ≠ "java/lang/invoke/MethodHandle" ∧ yX4_isBehind.cls ≠ "java/lang/invoke/VarHandle" ∧ (parseMethodDescriptor yX4_isBehind.desc).map (fun d => d.parameters.length) = some 2 := by decide +kernel
def f_X4_isBehind_j26 (μ : Mm) : Option (Int32 × Mm) := some ((1 : Int32), μ)
set_option maxRecDepth 100000 in
theorem k_f_X4_isBehind_j26 {l : Launch} {D : va_G} {cA : Nat → ClassId} {z : Nat} {av : List Value} {p : Program} {e : Env} {s : State} {m : MethodId} {below : List Frame} {meth : Method} {c : Code} {r : Int32} {μ' : Mm} (X : Fx D cA RX4 wsX4_isBehind cX4_isBehind 3 (some .boolean) p s m av.toArray meth c) {μ : Mm} {H : Heap} {locs : List Loc} {ls : Array Slot} (hd : Wd D cA z μ H) (hS : va_S (Az z) s.heap H locs) (hl : lv_has ls 3 []) (h : f_X4_isBehind_j26 μ  = some (r, μ')) : WG l D cA z wsX4_isBehind 1 21 av (some (.int r)) μ' p e s m below meth c H locs (F0 m 26 ls []) := by
  obtain ⟨hx, hb, hr, hlk, hml, hown, hts, hK⟩ := id X
  unfold f_X4_isBehind_j26 at h
  refine lv_iconst (v := 1) hx hb dX4_isBehind_26 (by decide) ?_
  refine lv_goto (tgt := 31) hx hb dX4_isBehind_27 (by decide) ?_
  obtain ⟨rfl, rfl⟩ := so_e h
  exact rt_z hx hb hr rfl hlk hd hS dX4_isBehind_31
def f_X4_isBehind (μ : Mm) (a0 : Nat) (x1 : Int32) (x2 : Int32) : Option (Int32 × Mm) := bC (f_X4_rowOf μ a0 x2) (fun r2 μ1 => bC (f_X4_rowOf μ1 a0 x1) (fun r5 μ4 => if r2 < r5 then (f_X4_isBehind_j26 μ4 ) else (bC (f_X4_columnOf μ4 a0 x2) (fun r9 μ8 => bC (f_X4_columnOf μ8 a0 x1) (fun r12 μ11 => if r12 ≤ r9 then (some ((0 : Int32), μ11)) else (f_X4_isBehind_j26 μ11 ))))))
set_option maxRecDepth 100000 in
theorem c_X4_isBehind {l : Launch} {D : va_G} {cA : Nat → ClassId} {z : Nat} {μ : Mm} {a0 : Nat} {x1 : Int32} {x2 : Int32} {r : Int32} {μ' : Mm} (hk_a0 : kd a0 = 4) (h : f_X4_isBehind μ a0 x1 x2 = some (r, μ')) : Ct l D cA z yX4_isBehind wsX4_isBehind 1 21 [.ref (z + a0), .int x1, .int x2] μ (some (.int r)) μ' := by
  refine m_in (cc := cX4_isBehind) (maxL := 3) (ret := (some .boolean)) (own := RX4) (by decide) rfl rfl (Nat.le_of_ble_eq_true rfl) ?_
  intro p e s m below meth c ls X hd hS hl
  obtain ⟨hx, hb, hr, hlk, hml, hown, hts, hK⟩ := id X
  have hl : lv_has ls 3 [(0, .ref (z + a0)), (1, .int x1), (2, .int x2)] := hl
  unfold f_X4_isBehind at h
  refine lv_aload_n hx hb dX4_isBehind_0 rfl (lv_at hl 0 rfl) ?_
  refine lv_iload_n hx hb dX4_isBehind_1 rfl (lv_at hl 2 rfl) ?_
  obtain ⟨r2, μ1, hc3, h⟩ := bC_e h
  refine rc_Vi (rest := []) [.int x2] ⟨hx, hb, hml, hown, hts⟩ hK hd hS (c_X4_rowOf hk_a0 hc3) (cwV 1 hts gX4_isBehind_X4_rowOf rfl rfl rfl hv_X4_rowOf ⟨Nat.le_of_ble_eq_true rfl, Nat.le_of_ble_eq_true rfl⟩) hk_a0 rfl rfl rfl rfl hl.1 rfl (Nat.le_of_ble_eq_true rfl) dX4_isBehind_2 ⟨Nat.zero_le _, Nat.zero_le _⟩ (fun H locs hd hS => ?_)
  refine lv_aload_n hx hb dX4_isBehind_5 rfl (lv_at hl 0 rfl) ?_
  refine lv_iload_n hx hb dX4_isBehind_6 rfl (lv_at hl 1 rfl) ?_
  obtain ⟨r5, μ4, hc6, h⟩ := bC_e h
  refine rc_Vi (rest := [.int r2]) [.int x1] ⟨hx, hb, hml, hown, hts⟩ hK hd hS (c_X4_rowOf hk_a0 hc6) (cwV 1 hts gX4_isBehind_X4_rowOf rfl rfl rfl hv_X4_rowOf ⟨Nat.le_of_ble_eq_true rfl, Nat.le_of_ble_eq_true rfl⟩) hk_a0 rfl rfl rfl rfl hl.1 rfl (Nat.le_of_ble_eq_true rfl) dX4_isBehind_7 ⟨Nat.zero_le _, Nat.zero_le _⟩ (fun H locs hd hS => ?_)
  refine lv_icmp_lt (tgt := 26) hx hb dX4_isBehind_10 (by decide) (fun q7 => ?_) (fun q7 => ?_)
  · have h := if_y q7 h
    exact k_f_X4_isBehind_j26 X  hd hS (lv_sub hl [] rfl) h
  · have h := if_n q7 h
    refine lv_aload_n hx hb dX4_isBehind_13 rfl (lv_at hl 0 rfl) ?_
    refine lv_iload_n hx hb dX4_isBehind_14 rfl (lv_at hl 2 rfl) ?_
    obtain ⟨r9, μ8, hc10, h⟩ := bC_e h
    refine rc_Vi (rest := []) [.int x2] ⟨hx, hb, hml, hown, hts⟩ hK hd hS (c_X4_columnOf hk_a0 hc10) (cwV 1 hts gX4_isBehind_X4_columnOf rfl rfl rfl hv_X4_columnOf ⟨Nat.le_of_ble_eq_true rfl, Nat.le_of_ble_eq_true rfl⟩) hk_a0 rfl rfl rfl rfl hl.1 rfl (Nat.le_of_ble_eq_true rfl) dX4_isBehind_15 ⟨Nat.zero_le _, Nat.zero_le _⟩ (fun H locs hd hS => ?_)
    refine lv_aload_n hx hb dX4_isBehind_18 rfl (lv_at hl 0 rfl) ?_
    refine lv_iload_n hx hb dX4_isBehind_19 rfl (lv_at hl 1 rfl) ?_
    obtain ⟨r12, μ11, hc13, h⟩ := bC_e h
    refine rc_Vi (rest := [.int r9]) [.int x1] ⟨hx, hb, hml, hown, hts⟩ hK hd hS (c_X4_columnOf hk_a0 hc13) (cwV 1 hts gX4_isBehind_X4_columnOf rfl rfl rfl hv_X4_columnOf ⟨Nat.le_of_ble_eq_true rfl, Nat.le_of_ble_eq_true rfl⟩) hk_a0 rfl rfl rfl rfl hl.1 rfl (Nat.le_of_ble_eq_true rfl) dX4_isBehind_20 ⟨Nat.zero_le _, Nat.zero_le _⟩ (fun H locs hd hS => ?_)
    refine lv_icmp_ge (tgt := 30) hx hb dX4_isBehind_23 (by decide) (fun q14 => ?_) (fun q14 => ?_)
    · have h := if_y q14 h
      refine lv_iconst (v := 0) hx hb dX4_isBehind_30 (by decide) ?_
      obtain ⟨rfl, rfl⟩ := so_e h
      exact rt_z hx hb hr rfl hlk hd hS dX4_isBehind_31
    · have h := if_n q14 h
      exact k_f_X4_isBehind_j26 X  hd hS (lv_sub hl [] rfl) h
theorem hv_X4_addItem : yX4_addItem.cls = RX4 ∧ yX4_addItem.cls ≠ "java/lang/invoke/MethodHandle" ∧ yX4_addItem.cls ≠ "java/lang/invoke/VarHandle" ∧ (parseMethodDescriptor yX4_addItem.desc).map (fun d => d.parameters.length) = some 3 := by decide +kernel
abbrev HL_X4_addItem_22 (l : Launch) (D : va_G) (cA : Nat → ClassId) (z : Nat) (av : List Value) (μ' : Mm) (p : Program) (e : Env) (s : State) (m : MethodId) (below : List Frame) (meth : Method) (c : Code) (rc : Mm → Nat → Int32 → Int32 → Int32 → Int32 → Int32 → Option Mm) : Prop := ∀ (μ : Mm) (H : Heap) (locs : List Loc) (ls : Array Slot) (a0 : Nat) (x1 : Int32) (x2 : Int32) (x3 : Int32) (x4 : Int32) (x5 : Int32), kd a0 = 4 → Wd D cA z μ H → va_S (Az z) s.heap H locs → lv_has ls 6 [(0, .ref (z + a0)), (1, .int x1), (2, .int x2), (3, .int x3), (4, .int x4), (5, .int x5)] → rc μ a0 x1 x2 x3 x4 x5 = some μ' → WG l D cA z wsX4_addItem 2 43 av none μ' p e s m below meth c H locs (F0 m 22 ls [])
def f_X4_addItem_j60 (rc22 : Mm → Nat → Int32 → Int32 → Int32 → Int32 → Int32 → Option Mm) (μ : Mm) (a0 : Nat) (x1 : Int32) (x2 : Int32) (x3 : Int32) (x4 : Int32) (x5 : Int32) : Option Mm := rc22 μ a0 x1 x2 x3 x4 (x5 + (1 : Int32))
set_option maxRecDepth 100000 in
theorem k_f_X4_addItem_j60 {l : Launch} {D : va_G} {cA : Nat → ClassId} {z : Nat} {av : List Value} {p : Program} {e : Env} {s : State} {m : MethodId} {below : List Frame} {meth : Method} {c : Code} {μ' : Mm} (X : Fx D cA RX4 wsX4_addItem cX4_addItem 6 none p s m av.toArray meth c) {rc22 : Mm → Nat → Int32 → Int32 → Int32 → Int32 → Int32 → Option Mm} (hrc22 : HL_X4_addItem_22 l D cA z av μ' p e s m below meth c rc22) {μ : Mm} {a0 : Nat} {x1 : Int32} {x2 : Int32} {x3 : Int32} {x4 : Int32} {x5 : Int32} (hk_a0 : kd a0 = 4) {H : Heap} {locs : List Loc} {ls : Array Slot} (hd : Wd D cA z μ H) (hS : va_S (Az z) s.heap H locs) (hl : lv_has ls 6 [(0, .ref (z + a0)), (1, .int x1), (2, .int x2), (3, .int x3), (4, .int x4), (5, .int x5)]) (h : f_X4_addItem_j60 rc22 μ a0 x1 x2 x3 x4 x5 = some μ') : WG l D cA z wsX4_addItem 2 43 av none μ' p e s m below meth c H locs (F0 m 60 ls []) := by
  obtain ⟨hx, hb, hr, hlk, hml, hown, hts, hK⟩ := id X
  unfold f_X4_addItem_j60 at h
  refine lv_iinc (v := x5 + (1 : Int32)) (lv' := [(5, .int (x5 + (1 : Int32))), (0, .ref (z + a0)), (1, .int x1), (2, .int x2), (3, .int x3), (4, .int x4)]) hx hb dX4_addItem_60 hl (k := 5) rfl rfl (by decide) rfl (fun ls hl => ?_)
  refine lv_goto (tgt := 22) hx hb dX4_addItem_63 (by decide) ?_
  exact hrc22 _ _ _ _ _ _ _ _ _ _ hk_a0 hd hS (lv_sub hl [1, 2, 3, 4, 5, 0] rfl) h
def f_X4_addItem_L22b (rc22 : Mm → Nat → Int32 → Int32 → Int32 → Int32 → Int32 → Option Mm) (μ : Mm) (a0 : Nat) (x1 : Int32) (x2 : Int32) (x3 : Int32) (x4 : Int32) (x5 : Int32) : Option Mm := if (μ.1 a0 2) ≤ x5 then (bR (μ.2 a0 7) (fun b2 => gd (ckb (μ.1 a0 3) (ln b2)) (bM (up2 μ.1 b2 (μ.1 a0 3).toNatClampNeg x4, μ.2) (fun μ4 => bR (μ4.2 a0 8) (fun b5 => gd (ckb (μ4.1 a0 3) (ln b5)) (bM (up2 μ4.1 b5 (μ4.1 a0 3).toNatClampNeg x3, μ4.2) (fun μ7 => bR (μ7.2 a0 9) (fun b8 => bC (f_X4_columnOf μ7 a0 x1) (fun r10 μ9 => gd (ckb (μ7.1 a0 3) (ln b8)) (bM (up2 μ9.1 b8 (μ7.1 a0 3).toNatClampNeg r10, μ9.2) (fun μ13 => bM (up2 μ13.1 a0 3 ((μ13.1 a0 3) + (1 : Int32)), μ13.2) (fun μ14 => some μ14)))))))))))) else (bC (f_X4_isBehind μ a0 x1 x5) (fun r16 μ15 => if r16 = 0 then (bC (f_X4_isBehind μ15 a0 x5 x2) (fun r20 μ19 => if r20 = 0 then (bI (x4 ||| ((1 : Int32) <<< (x5 &&& 31))) (fun v23 => f_X4_addItem_j60 rc22 μ19 a0 x1 x2 x3 v23 x5)) else (f_X4_addItem_j60 rc22 μ19 a0 x1 x2 x3 x4 x5))) else (f_X4_addItem_j60 rc22 μ15 a0 x1 x2 x3 x4 x5)))
set_option maxRecDepth 100000 in
theorem k_f_X4_addItem_L22b {l : Launch} {D : va_G} {cA : Nat → ClassId} {z : Nat} {av : List Value} {p : Program} {e : Env} {s : State} {m : MethodId} {below : List Frame} {meth : Method} {c : Code} {μ' : Mm} (X : Fx D cA RX4 wsX4_addItem cX4_addItem 6 none p s m av.toArray meth c) {rc22 : Mm → Nat → Int32 → Int32 → Int32 → Int32 → Int32 → Option Mm} (hrc22 : HL_X4_addItem_22 l D cA z av μ' p e s m below meth c rc22) {μ : Mm} {a0 : Nat} {x1 : Int32} {x2 : Int32} {x3 : Int32} {x4 : Int32} {x5 : Int32} (hk_a0 : kd a0 = 4) {H : Heap} {locs : List Loc} {ls : Array Slot} (hd : Wd D cA z μ H) (hS : va_S (Az z) s.heap H locs) (hl : lv_has ls 6 [(0, .ref (z + a0)), (1, .int x1), (2, .int x2), (3, .int x3), (4, .int x4), (5, .int x5)]) (h : f_X4_addItem_L22b rc22 μ a0 x1 x2 x3 x4 x5 = some μ') : WG l D cA z wsX4_addItem 2 43 av none μ' p e s m below meth c H locs (F0 m 22 ls []) := by
  obtain ⟨hx, hb, hr, hlk, hml, hown, hts, hK⟩ := id X
  unfold f_X4_addItem_L22b at h
  refine lv_iload hx hb dX4_addItem_22 (lv_at hl 5 rfl) ?_
  refine lv_aload_n hx hb dX4_addItem_24 rfl (lv_at hl 0 rfl) ?_
  refine r_geti hx hb hts (fun w h => List.mem_cons_of_mem _ (List.mem_append_right _ (h))) hown hK hd hk_a0 rfl 2 fs_4_2 (hts (.fieldLink RX4 38 "LevelVotes$House" "cells" "I") (List.mem_of_getElem? (i := 2) rfl)) dX4_addItem_25 ?_
  refine lv_icmp_ge (tgt := 66) hx hb dX4_addItem_28 (by decide) (fun q1 => ?_) (fun q1 => ?_)
  · have h := if_y q1 h
    refine lv_aload_n hx hb dX4_addItem_66 rfl (lv_at hl 0 rfl) ?_
    obtain ⟨b2, hb2, h⟩ := bR_e h
    refine r_getr hx hb hts (fun w h => List.mem_cons_of_mem _ (List.mem_append_right _ (h))) hown hK hd hk_a0 hb2 rfl fs_4_7 (hts (.fieldLink RX4 15 "LevelVotes$House" "sets" "[I") (List.mem_of_getElem? (i := 3) rfl)) dX4_addItem_67 (fun hq => ?_)
    have hk_b2 : kd b2 = 11 := hq
    refine lv_aload_n hx hb dX4_addItem_70 rfl (lv_at hl 0 rfl) ?_
    refine r_geti hx hb hts (fun w h => List.mem_cons_of_mem _ (List.mem_append_right _ (h))) hown hK hd hk_a0 rfl 3 fs_4_3 (hts (.fieldLink RX4 41 "LevelVotes$House" "items" "I") (List.mem_of_getElem? (i := 1) rfl)) dX4_addItem_71 ?_
    refine lv_iload hx hb dX4_addItem_74 (lv_at hl 4 rfl) ?_
    obtain ⟨g3, h⟩ := gd_e h
    refine r_iast hx hb hK hd hS hk_b2 (ckb_in g3) dX4_addItem_76 (fun μ4 eμ4 H locs hd hS => ?_)
    have h := bM_e eμ4 h
    refine lv_aload_n hx hb dX4_addItem_77 rfl (lv_at hl 0 rfl) ?_
    obtain ⟨b5, hb5, h⟩ := bR_e h
    refine r_getr hx hb hts (fun w h => List.mem_cons_of_mem _ (List.mem_append_right _ (h))) hown hK hd hk_a0 hb5 rfl fs_4_8 (hts (.fieldLink RX4 18 "LevelVotes$House" "levels" "[I") (List.mem_of_getElem? (i := 4) rfl)) dX4_addItem_78 (fun hq => ?_)
    have hk_b5 : kd b5 = 11 := hq
    refine lv_aload_n hx hb dX4_addItem_81 rfl (lv_at hl 0 rfl) ?_
    refine r_geti hx hb hts (fun w h => List.mem_cons_of_mem _ (List.mem_append_right _ (h))) hown hK hd hk_a0 rfl 3 fs_4_3 (hts (.fieldLink RX4 41 "LevelVotes$House" "items" "I") (List.mem_of_getElem? (i := 1) rfl)) dX4_addItem_82 ?_
    refine lv_iload_n hx hb dX4_addItem_85 rfl (lv_at hl 3 rfl) ?_
    obtain ⟨g6, h⟩ := gd_e h
    refine r_iast hx hb hK hd hS hk_b5 (ckb_in g6) dX4_addItem_86 (fun μ7 eμ7 H locs hd hS => ?_)
    have h := bM_e eμ7 h
    refine lv_aload_n hx hb dX4_addItem_87 rfl (lv_at hl 0 rfl) ?_
    obtain ⟨b8, hb8, h⟩ := bR_e h
    refine r_getr hx hb hts (fun w h => List.mem_cons_of_mem _ (List.mem_append_right _ (h))) hown hK hd hk_a0 hb8 rfl fs_4_9 (hts (.fieldLink RX4 21 "LevelVotes$House" "firstColumns" "[I") (List.mem_of_getElem? (i := 5) rfl)) dX4_addItem_88 (fun hq => ?_)
    have hk_b8 : kd b8 = 11 := hq
    refine lv_aload_n hx hb dX4_addItem_91 rfl (lv_at hl 0 rfl) ?_
    refine r_geti hx hb hts (fun w h => List.mem_cons_of_mem _ (List.mem_append_right _ (h))) hown hK hd hk_a0 rfl 3 fs_4_3 (hts (.fieldLink RX4 41 "LevelVotes$House" "items" "I") (List.mem_of_getElem? (i := 1) rfl)) dX4_addItem_92 ?_
    refine lv_aload_n hx hb dX4_addItem_95 rfl (lv_at hl 0 rfl) ?_
    refine lv_iload_n hx hb dX4_addItem_96 rfl (lv_at hl 1 rfl) ?_
    obtain ⟨r10, μ9, hc11, h⟩ := bC_e h
    refine rc_Vi (rest := [.int (μ7.1 a0 3), .ref (z + b8)]) [.int x1] ⟨hx, hb, hml, hown, hts⟩ hK hd hS (c_X4_columnOf hk_a0 hc11) (cwV 1 hts gX4_addItem_X4_columnOf rfl rfl rfl hv_X4_columnOf ⟨Nat.le_of_ble_eq_true rfl, Nat.le_of_ble_eq_true rfl⟩) hk_a0 rfl rfl rfl rfl hl.1 rfl (Nat.le_of_ble_eq_true rfl) dX4_addItem_97 ⟨Nat.zero_le _, Nat.zero_le _⟩ (fun H locs hd hS => ?_)
    obtain ⟨g12, h⟩ := gd_e h
    refine r_iast hx hb hK hd hS hk_b8 (ckb_in g12) dX4_addItem_100 (fun μ13 eμ13 H locs hd hS => ?_)
    have h := bM_e eμ13 h
    refine lv_aload_n hx hb dX4_addItem_101 rfl (lv_at hl 0 rfl) ?_
    refine lv_dup hx hb dX4_addItem_102 rfl ?_
    refine r_geti hx hb hts (fun w h => List.mem_cons_of_mem _ (List.mem_append_right _ (h))) hown hK hd hk_a0 rfl 3 fs_4_3 (hts (.fieldLink RX4 41 "LevelVotes$House" "items" "I") (List.mem_of_getElem? (i := 1) rfl)) dX4_addItem_103 ?_
    refine lv_iconst (v := 1) hx hb dX4_addItem_106 (by decide) ?_
    refine lv_iadd hx hb dX4_addItem_107 ?_
    refine r_puti hx hb hts (fun w h => List.mem_cons_of_mem _ (List.mem_append_right _ (h))) tyX4 tyX4_ok nmX4 hown hK hd hS hk_a0 rfl 3 fs_4_3 rfl (hts (.fieldLink RX4 41 "LevelVotes$House" "items" "I") (List.mem_of_getElem? (i := 1) rfl)) (vp_nar_int _) rfl dX4_addItem_108 (fun μ14 eμ14 H locs hd hS => ?_)
    have h := bM_e eμ14 h
    obtain rfl := sv_e h
    exact rt_v hx hb hr hlk hd hS dX4_addItem_111
  · have h := if_n q1 h
    refine lv_aload_n hx hb dX4_addItem_31 rfl (lv_at hl 0 rfl) ?_
    refine lv_iload_n hx hb dX4_addItem_32 rfl (lv_at hl 1 rfl) ?_
    refine lv_iload hx hb dX4_addItem_33 (lv_at hl 5 rfl) ?_
    obtain ⟨r16, μ15, hc17, h⟩ := bC_e h
    refine rc_Vi (rest := []) [.int x1, .int x5] ⟨hx, hb, hml, hown, hts⟩ hK hd hS (c_X4_isBehind hk_a0 hc17) (cwV 2 hts gX4_addItem_X4_isBehind rfl rfl rfl hv_X4_isBehind ⟨Nat.le_of_ble_eq_true rfl, Nat.le_of_ble_eq_true rfl⟩) hk_a0 rfl rfl rfl rfl hl.1 rfl (Nat.le_of_ble_eq_true rfl) dX4_addItem_35 ⟨Nat.zero_le _, Nat.zero_le _⟩ (fun H locs hd hS => ?_)
    refine lv_if_ne (tgt := 60) hx hb dX4_addItem_38 (by decide) (fun q18 => ?_) (fun q18 => ?_)
    · have h := if_n q18 h
      exact k_f_X4_addItem_j60 X hrc22 hk_a0 hd hS (lv_sub hl [0, 1, 2, 3, 4, 5] rfl) h
    · have h := if_y q18 h
      refine lv_aload_n hx hb dX4_addItem_41 rfl (lv_at hl 0 rfl) ?_
      refine lv_iload hx hb dX4_addItem_42 (lv_at hl 5 rfl) ?_
      refine lv_iload_n hx hb dX4_addItem_44 rfl (lv_at hl 2 rfl) ?_
      obtain ⟨r20, μ19, hc21, h⟩ := bC_e h
      refine rc_Vi (rest := []) [.int x5, .int x2] ⟨hx, hb, hml, hown, hts⟩ hK hd hS (c_X4_isBehind hk_a0 hc21) (cwV 2 hts gX4_addItem_X4_isBehind rfl rfl rfl hv_X4_isBehind ⟨Nat.le_of_ble_eq_true rfl, Nat.le_of_ble_eq_true rfl⟩) hk_a0 rfl rfl rfl rfl hl.1 rfl (Nat.le_of_ble_eq_true rfl) dX4_addItem_45 ⟨Nat.zero_le _, Nat.zero_le _⟩ (fun H locs hd hS => ?_)
      refine lv_if_ne (tgt := 60) hx hb dX4_addItem_48 (by decide) (fun q22 => ?_) (fun q22 => ?_)
      · have h := if_n q22 h
        exact k_f_X4_addItem_j60 X hrc22 hk_a0 hd hS (lv_sub hl [0, 1, 2, 3, 4, 5] rfl) h
      · have h := if_y q22 h
        refine lv_iload hx hb dX4_addItem_51 (lv_at hl 4 rfl) ?_
        refine lv_iconst (v := 1) hx hb dX4_addItem_53 (by decide) ?_
        refine lv_iload hx hb dX4_addItem_54 (lv_at hl 5 rfl) ?_
        refine lv_ishl hx hb dX4_addItem_56 ?_
        refine lv_ior hx hb dX4_addItem_57 ?_
        refine lv_topi (fun v23 ev23 => ?_)
        have h := bI_e ev23 h
        refine lv_istore (lv' := [(4, .int v23), (0, .ref (z + a0)), (1, .int x1), (2, .int x2), (3, .int x3), (5, .int x5)]) hx hb dX4_addItem_58 hl (by decide) rfl (fun ls hl => ?_)
        exact k_f_X4_addItem_j60 X hrc22 hk_a0 hd hS (lv_sub hl [1, 2, 3, 4, 0, 5] rfl) h
def f_X4_addItem_L22 : Nat → Mm → Nat → Int32 → Int32 → Int32 → Int32 → Int32 → Option Mm
  | 0 => fun _ _ _ _ _ _ _ => none
  | n + 1 => fun μ a0 x1 x2 x3 x4 x5 => f_X4_addItem_L22b (f_X4_addItem_L22 n) μ a0 x1 x2 x3 x4 x5
theorem k_f_X4_addItem_L22 {l : Launch} {D : va_G} {cA : Nat → ClassId} {z : Nat} {av : List Value} {p : Program} {e : Env} {s : State} {m : MethodId} {below : List Frame} {meth : Method} {c : Code} {μ' : Mm} (X : Fx D cA RX4 wsX4_addItem cX4_addItem 6 none p s m av.toArray meth c) (n : Nat) : HL_X4_addItem_22 l D cA z av μ' p e s m below meth c (f_X4_addItem_L22 n) := by
  induction n with
  | zero => intro _ _ _ _ _ _ _ _ _ _ _ _ _ _ h; have h2 : (none : Option _) = some _ := h; cases h2
  | succ n ih => intro μ H locs ls a0 x1 x2 x3 x4 x5 hk_a0 hd hS hl h; exact k_f_X4_addItem_L22b X ih hk_a0 hd hS hl h
def f_X4_addItem (μ : Mm) (a0 : Nat) (x1 : Int32) (x2 : Int32) (x3 : Int32) : Option Mm := if (μ.1 a0 3) < 0 then (some μ) else (if (μ.1 a0 3) < (5 : Int32) then (f_X4_addItem_L22 FU μ a0 x1 x2 x3 (0 : Int32) (0 : Int32)) else (some μ))
set_option maxRecDepth 100000 in
theorem c_X4_addItem {l : Launch} {D : va_G} {cA : Nat → ClassId} {z : Nat} {μ : Mm} {a0 : Nat} {x1 : Int32} {x2 : Int32} {x3 : Int32} {μ' : Mm} (hk_a0 : kd a0 = 4) (h : f_X4_addItem μ a0 x1 x2 x3 = some μ') : Ct l D cA z yX4_addItem wsX4_addItem 2 43 [.ref (z + a0), .int x1, .int x2, .int x3] μ none μ' := by
  refine m_in (cc := cX4_addItem) (maxL := 6) (ret := none) (own := RX4) (by decide) rfl rfl (Nat.le_of_ble_eq_true rfl) ?_
  intro p e s m below meth c ls X hd hS hl
  obtain ⟨hx, hb, hr, hlk, hml, hown, hts, hK⟩ := id X
  have hl : lv_has ls 6 [(0, .ref (z + a0)), (1, .int x1), (2, .int x2), (3, .int x3)] := hl
  unfold f_X4_addItem at h
  refine lv_aload_n hx hb dX4_addItem_0 rfl (lv_at hl 0 rfl) ?_
  refine r_geti hx hb hts (fun w h => List.mem_cons_of_mem _ (List.mem_append_right _ (h))) hown hK hd hk_a0 rfl 3 fs_4_3 (hts (.fieldLink RX4 41 "LevelVotes$House" "items" "I") (List.mem_of_getElem? (i := 1) rfl)) dX4_addItem_1 ?_
  refine lv_if_lt (tgt := 15) hx hb dX4_addItem_4 (by decide) (fun q1 => ?_) (fun q1 => ?_)
  · have h := if_y q1 h
    obtain rfl := sv_e h
    exact rt_v hx hb hr hlk hd hS dX4_addItem_15
  · have h := if_n q1 h
    refine lv_aload_n hx hb dX4_addItem_7 rfl (lv_at hl 0 rfl) ?_
    refine r_geti hx hb hts (fun w h => List.mem_cons_of_mem _ (List.mem_append_right _ (h))) hown hK hd hk_a0 rfl 3 fs_4_3 (hts (.fieldLink RX4 41 "LevelVotes$House" "items" "I") (List.mem_of_getElem? (i := 1) rfl)) dX4_addItem_8 ?_
    refine lv_iconst (v := 5) hx hb dX4_addItem_11 (by decide) ?_
    refine lv_icmp_lt (tgt := 16) hx hb dX4_addItem_12 (by decide) (fun q2 => ?_) (fun q2 => ?_)
    · have h := if_y q2 h
      refine lv_iconst (v := 0) hx hb dX4_addItem_16 (by decide) ?_
      refine lv_istore (lv' := [(4, .int (0 : Int32)), (0, .ref (z + a0)), (1, .int x1), (2, .int x2), (3, .int x3)]) hx hb dX4_addItem_17 hl (by decide) rfl (fun ls hl => ?_)
      refine lv_iconst (v := 0) hx hb dX4_addItem_19 (by decide) ?_
      refine lv_istore (lv' := [(5, .int (0 : Int32)), (4, .int (0 : Int32)), (0, .ref (z + a0)), (1, .int x1), (2, .int x2), (3, .int x3)]) hx hb dX4_addItem_20 hl (by decide) rfl (fun ls hl => ?_)
      exact k_f_X4_addItem_L22 X FU _ _ _ _ _ _ _ _ _ _ hk_a0 hd hS (lv_sub hl [2, 3, 4, 5, 1, 0] rfl) h
    · have h := if_n q2 h
      obtain rfl := sv_e h
      exact rt_v hx hb hr hlk hd hS dX4_addItem_15
theorem hv_X4_isThere : yX4_isThere.cls = RX4 ∧ yX4_isThere.cls ≠ "java/lang/invoke/MethodHandle" ∧ yX4_isThere.cls ≠ "java/lang/invoke/VarHandle" ∧ (parseMethodDescriptor yX4_isThere.desc).map (fun d => d.parameters.length) = some 0 := by decide +kernel
def f_X4_isThere (μ : Mm) (a0 : Nat) : Option (Int32 × Mm) := if (μ.1 a0 0) ≤ 0 then (some ((0 : Int32), μ)) else (some ((1 : Int32), μ))
set_option maxRecDepth 100000 in
theorem c_X4_isThere {l : Launch} {D : va_G} {cA : Nat → ClassId} {z : Nat} {μ : Mm} {a0 : Nat} {r : Int32} {μ' : Mm} (hk_a0 : kd a0 = 4) (h : f_X4_isThere μ a0 = some (r, μ')) : Ct l D cA z yX4_isThere wsX4_isThere 0 0 [.ref (z + a0)] μ (some (.int r)) μ' := by
  refine m_in (cc := cX4_isThere) (maxL := 1) (ret := (some .boolean)) (own := RX4) (by decide) rfl rfl (Nat.le_of_ble_eq_true rfl) ?_
  intro p e s m below meth c ls X hd hS hl
  obtain ⟨hx, hb, hr, hlk, hml, hown, hts, hK⟩ := id X
  have hl : lv_has ls 1 [(0, .ref (z + a0))] := hl
  unfold f_X4_isThere at h
  refine lv_aload_n hx hb dX4_isThere_0 rfl (lv_at hl 0 rfl) ?_
  refine r_geti hx hb hts (fun w h => List.mem_cons_of_mem _ (List.mem_append_right _ (h))) hown hK hd hk_a0 rfl 0 fs_4_0 (hts (.fieldLink RX4 31 "LevelVotes$House" "columns" "I") (List.mem_of_getElem? (i := 1) rfl)) dX4_isThere_1 ?_
  refine lv_if_le (tgt := 11) hx hb dX4_isThere_4 (by decide) (fun q1 => ?_) (fun q1 => ?_)
  · have h := if_y q1 h
    refine lv_iconst (v := 0) hx hb dX4_isThere_11 (by decide) ?_
    obtain ⟨rfl, rfl⟩ := so_e h
    exact rt_z hx hb hr rfl hlk hd hS dX4_isThere_12
  · have h := if_n q1 h
    refine lv_iconst (v := 1) hx hb dX4_isThere_7 (by decide) ?_
    refine lv_goto (tgt := 12) hx hb dX4_isThere_8 (by decide) ?_
    obtain ⟨rfl, rfl⟩ := so_e h
    exact rt_z hx hb hr rfl hlk hd hS dX4_isThere_12
theorem hv_X4_hasVotes : yX4_hasVotes.cls = RX4 ∧ yX4_hasVotes.cls ≠ "java/lang/invoke/MethodHandle" ∧ yX4_hasVotes.cls ≠ "java/lang/invoke/VarHandle" ∧ (parseMethodDescriptor yX4_hasVotes.desc).map (fun d => d.parameters.length) = some 0 := by decide +kernel
def f_X4_hasVotes (μ : Mm) (a0 : Nat) : Option (Int32 × Mm) := if (μ.1 a0 4) ≤ 0 then (some ((0 : Int32), μ)) else (if (μ.1 a0 3) ≤ 0 then (some ((0 : Int32), μ)) else (some ((1 : Int32), μ)))
set_option maxRecDepth 100000 in
theorem c_X4_hasVotes {l : Launch} {D : va_G} {cA : Nat → ClassId} {z : Nat} {μ : Mm} {a0 : Nat} {r : Int32} {μ' : Mm} (hk_a0 : kd a0 = 4) (h : f_X4_hasVotes μ a0 = some (r, μ')) : Ct l D cA z yX4_hasVotes wsX4_hasVotes 0 0 [.ref (z + a0)] μ (some (.int r)) μ' := by
  refine m_in (cc := cX4_hasVotes) (maxL := 1) (ret := (some .boolean)) (own := RX4) (by decide) rfl rfl (Nat.le_of_ble_eq_true rfl) ?_
  intro p e s m below meth c ls X hd hS hl
  obtain ⟨hx, hb, hr, hlk, hml, hown, hts, hK⟩ := id X
  have hl : lv_has ls 1 [(0, .ref (z + a0))] := hl
  unfold f_X4_hasVotes at h
  refine lv_aload_n hx hb dX4_hasVotes_0 rfl (lv_at hl 0 rfl) ?_
  refine r_geti hx hb hts (fun w h => List.mem_cons_of_mem _ (List.mem_append_right _ (h))) hown hK hd hk_a0 rfl 4 fs_4_4 (hts (.fieldLink RX4 44 "LevelVotes$House" "persons" "I") (List.mem_of_getElem? (i := 1) rfl)) dX4_hasVotes_1 ?_
  refine lv_if_le (tgt := 18) hx hb dX4_hasVotes_4 (by decide) (fun q1 => ?_) (fun q1 => ?_)
  · have h := if_y q1 h
    refine lv_iconst (v := 0) hx hb dX4_hasVotes_18 (by decide) ?_
    obtain ⟨rfl, rfl⟩ := so_e h
    exact rt_z hx hb hr rfl hlk hd hS dX4_hasVotes_19
  · have h := if_n q1 h
    refine lv_aload_n hx hb dX4_hasVotes_7 rfl (lv_at hl 0 rfl) ?_
    refine r_geti hx hb hts (fun w h => List.mem_cons_of_mem _ (List.mem_append_right _ (h))) hown hK hd hk_a0 rfl 3 fs_4_3 (hts (.fieldLink RX4 41 "LevelVotes$House" "items" "I") (List.mem_of_getElem? (i := 2) rfl)) dX4_hasVotes_8 ?_
    refine lv_if_le (tgt := 18) hx hb dX4_hasVotes_11 (by decide) (fun q2 => ?_) (fun q2 => ?_)
    · have h := if_y q2 h
      refine lv_iconst (v := 0) hx hb dX4_hasVotes_18 (by decide) ?_
      obtain ⟨rfl, rfl⟩ := so_e h
      exact rt_z hx hb hr rfl hlk hd hS dX4_hasVotes_19
    · have h := if_n q2 h
      refine lv_iconst (v := 1) hx hb dX4_hasVotes_14 (by decide) ?_
      refine lv_goto (tgt := 19) hx hb dX4_hasVotes_15 (by decide) ?_
      obtain ⟨rfl, rfl⟩ := so_e h
      exact rt_z hx hb hr rfl hlk hd hS dX4_hasVotes_19
theorem hv_X4_hasCell : yX4_hasCell.cls = RX4 ∧ yX4_hasCell.cls ≠ "java/lang/invoke/MethodHandle" ∧ yX4_hasCell.cls ≠ "java/lang/invoke/VarHandle" ∧ (parseMethodDescriptor yX4_hasCell.desc).map (fun d => d.parameters.length) = some 1 := by decide +kernel
def f_X4_hasCell (μ : Mm) (a0 : Nat) (x1 : Int32) : Option (Int32 × Mm) := if x1 < 0 then (some ((0 : Int32), μ)) else (if (μ.1 a0 2) ≤ x1 then (some ((0 : Int32), μ)) else (some ((1 : Int32), μ)))
set_option maxRecDepth 100000 in
theorem c_X4_hasCell {l : Launch} {D : va_G} {cA : Nat → ClassId} {z : Nat} {μ : Mm} {a0 : Nat} {x1 : Int32} {r : Int32} {μ' : Mm} (hk_a0 : kd a0 = 4) (h : f_X4_hasCell μ a0 x1 = some (r, μ')) : Ct l D cA z yX4_hasCell wsX4_hasCell 0 0 [.ref (z + a0), .int x1] μ (some (.int r)) μ' := by
  refine m_in (cc := cX4_hasCell) (maxL := 2) (ret := (some .boolean)) (own := RX4) (by decide) rfl rfl (Nat.le_of_ble_eq_true rfl) ?_
  intro p e s m below meth c ls X hd hS hl
  obtain ⟨hx, hb, hr, hlk, hml, hown, hts, hK⟩ := id X
  have hl : lv_has ls 2 [(0, .ref (z + a0)), (1, .int x1)] := hl
  unfold f_X4_hasCell at h
  refine lv_iload_n hx hb dX4_hasCell_0 rfl (lv_at hl 1 rfl) ?_
  refine lv_if_lt (tgt := 16) hx hb dX4_hasCell_1 (by decide) (fun q1 => ?_) (fun q1 => ?_)
  · have h := if_y q1 h
    refine lv_iconst (v := 0) hx hb dX4_hasCell_16 (by decide) ?_
    obtain ⟨rfl, rfl⟩ := so_e h
    exact rt_z hx hb hr rfl hlk hd hS dX4_hasCell_17
  · have h := if_n q1 h
    refine lv_iload_n hx hb dX4_hasCell_4 rfl (lv_at hl 1 rfl) ?_
    refine lv_aload_n hx hb dX4_hasCell_5 rfl (lv_at hl 0 rfl) ?_
    refine r_geti hx hb hts (fun w h => List.mem_cons_of_mem _ (List.mem_append_right _ (h))) hown hK hd hk_a0 rfl 2 fs_4_2 (hts (.fieldLink RX4 38 "LevelVotes$House" "cells" "I") (List.mem_of_getElem? (i := 1) rfl)) dX4_hasCell_6 ?_
    refine lv_icmp_ge (tgt := 16) hx hb dX4_hasCell_9 (by decide) (fun q2 => ?_) (fun q2 => ?_)
    · have h := if_y q2 h
      refine lv_iconst (v := 0) hx hb dX4_hasCell_16 (by decide) ?_
      obtain ⟨rfl, rfl⟩ := so_e h
      exact rt_z hx hb hr rfl hlk hd hS dX4_hasCell_17
    · have h := if_n q2 h
      refine lv_iconst (v := 1) hx hb dX4_hasCell_12 (by decide) ?_
      refine lv_goto (tgt := 17) hx hb dX4_hasCell_13 (by decide) ?_
      obtain ⟨rfl, rfl⟩ := so_e h
      exact rt_z hx hb hr rfl hlk hd hS dX4_hasCell_17
theorem hv_X4_hasItem : yX4_hasItem.cls = RX4 ∧ yX4_hasItem.cls ≠ "java/lang/invoke/MethodHandle" ∧ yX4_hasItem.cls ≠ "java/lang/invoke/VarHandle" ∧ (parseMethodDescriptor yX4_hasItem.desc).map (fun d => d.parameters.length) = some 1 := by decide +kernel
def f_X4_hasItem (μ : Mm) (a0 : Nat) (x1 : Int32) : Option (Int32 × Mm) := if x1 < 0 then (some ((0 : Int32), μ)) else (if (μ.1 a0 3) ≤ x1 then (some ((0 : Int32), μ)) else (some ((1 : Int32), μ)))
set_option maxRecDepth 100000 in
theorem c_X4_hasItem {l : Launch} {D : va_G} {cA : Nat → ClassId} {z : Nat} {μ : Mm} {a0 : Nat} {x1 : Int32} {r : Int32} {μ' : Mm} (hk_a0 : kd a0 = 4) (h : f_X4_hasItem μ a0 x1 = some (r, μ')) : Ct l D cA z yX4_hasItem wsX4_hasItem 0 0 [.ref (z + a0), .int x1] μ (some (.int r)) μ' := by
  refine m_in (cc := cX4_hasItem) (maxL := 2) (ret := (some .boolean)) (own := RX4) (by decide) rfl rfl (Nat.le_of_ble_eq_true rfl) ?_
  intro p e s m below meth c ls X hd hS hl
  obtain ⟨hx, hb, hr, hlk, hml, hown, hts, hK⟩ := id X
  have hl : lv_has ls 2 [(0, .ref (z + a0)), (1, .int x1)] := hl
  unfold f_X4_hasItem at h
  refine lv_iload_n hx hb dX4_hasItem_0 rfl (lv_at hl 1 rfl) ?_
  refine lv_if_lt (tgt := 16) hx hb dX4_hasItem_1 (by decide) (fun q1 => ?_) (fun q1 => ?_)
  · have h := if_y q1 h
    refine lv_iconst (v := 0) hx hb dX4_hasItem_16 (by decide) ?_
    obtain ⟨rfl, rfl⟩ := so_e h
    exact rt_z hx hb hr rfl hlk hd hS dX4_hasItem_17
  · have h := if_n q1 h
    refine lv_iload_n hx hb dX4_hasItem_4 rfl (lv_at hl 1 rfl) ?_
    refine lv_aload_n hx hb dX4_hasItem_5 rfl (lv_at hl 0 rfl) ?_
    refine r_geti hx hb hts (fun w h => List.mem_cons_of_mem _ (List.mem_append_right _ (h))) hown hK hd hk_a0 rfl 3 fs_4_3 (hts (.fieldLink RX4 41 "LevelVotes$House" "items" "I") (List.mem_of_getElem? (i := 1) rfl)) dX4_hasItem_6 ?_
    refine lv_icmp_ge (tgt := 16) hx hb dX4_hasItem_9 (by decide) (fun q2 => ?_) (fun q2 => ?_)
    · have h := if_y q2 h
      refine lv_iconst (v := 0) hx hb dX4_hasItem_16 (by decide) ?_
      obtain ⟨rfl, rfl⟩ := so_e h
      exact rt_z hx hb hr rfl hlk hd hS dX4_hasItem_17
    · have h := if_n q2 h
      refine lv_iconst (v := 1) hx hb dX4_hasItem_12 (by decide) ?_
      refine lv_goto (tgt := 17) hx hb dX4_hasItem_13 (by decide) ?_
      obtain ⟨rfl, rfl⟩ := so_e h
      exact rt_z hx hb hr rfl hlk hd hS dX4_hasItem_17
theorem hv_X4_hasPerson : yX4_hasPerson.cls = RX4 ∧ yX4_hasPerson.cls ≠ "java/lang/invoke/MethodHandle" ∧ yX4_hasPerson.cls ≠ "java/lang/invoke/VarHandle" ∧ (parseMethodDescriptor yX4_hasPerson.desc).map (fun d => d.parameters.length) = some 1 := by decide +kernel
def f_X4_hasPerson (μ : Mm) (a0 : Nat) (x1 : Int32) : Option (Int32 × Mm) := if x1 < 0 then (some ((0 : Int32), μ)) else (if (μ.1 a0 4) ≤ x1 then (some ((0 : Int32), μ)) else (some ((1 : Int32), μ)))
set_option maxRecDepth 100000 in
theorem c_X4_hasPerson {l : Launch} {D : va_G} {cA : Nat → ClassId} {z : Nat} {μ : Mm} {a0 : Nat} {x1 : Int32} {r : Int32} {μ' : Mm} (hk_a0 : kd a0 = 4) (h : f_X4_hasPerson μ a0 x1 = some (r, μ')) : Ct l D cA z yX4_hasPerson wsX4_hasPerson 0 0 [.ref (z + a0), .int x1] μ (some (.int r)) μ' := by
  refine m_in (cc := cX4_hasPerson) (maxL := 2) (ret := (some .boolean)) (own := RX4) (by decide) rfl rfl (Nat.le_of_ble_eq_true rfl) ?_
  intro p e s m below meth c ls X hd hS hl
  obtain ⟨hx, hb, hr, hlk, hml, hown, hts, hK⟩ := id X
  have hl : lv_has ls 2 [(0, .ref (z + a0)), (1, .int x1)] := hl
  unfold f_X4_hasPerson at h
  refine lv_iload_n hx hb dX4_hasPerson_0 rfl (lv_at hl 1 rfl) ?_
  refine lv_if_lt (tgt := 16) hx hb dX4_hasPerson_1 (by decide) (fun q1 => ?_) (fun q1 => ?_)
  · have h := if_y q1 h
    refine lv_iconst (v := 0) hx hb dX4_hasPerson_16 (by decide) ?_
    obtain ⟨rfl, rfl⟩ := so_e h
    exact rt_z hx hb hr rfl hlk hd hS dX4_hasPerson_17
  · have h := if_n q1 h
    refine lv_iload_n hx hb dX4_hasPerson_4 rfl (lv_at hl 1 rfl) ?_
    refine lv_aload_n hx hb dX4_hasPerson_5 rfl (lv_at hl 0 rfl) ?_
    refine r_geti hx hb hts (fun w h => List.mem_cons_of_mem _ (List.mem_append_right _ (h))) hown hK hd hk_a0 rfl 4 fs_4_4 (hts (.fieldLink RX4 44 "LevelVotes$House" "persons" "I") (List.mem_of_getElem? (i := 1) rfl)) dX4_hasPerson_6 ?_
    refine lv_icmp_ge (tgt := 16) hx hb dX4_hasPerson_9 (by decide) (fun q2 => ?_) (fun q2 => ?_)
    · have h := if_y q2 h
      refine lv_iconst (v := 0) hx hb dX4_hasPerson_16 (by decide) ?_
      obtain ⟨rfl, rfl⟩ := so_e h
      exact rt_z hx hb hr rfl hlk hd hS dX4_hasPerson_17
    · have h := if_n q2 h
      refine lv_iconst (v := 1) hx hb dX4_hasPerson_12 (by decide) ?_
      refine lv_goto (tgt := 17) hx hb dX4_hasPerson_13 (by decide) ?_
      obtain ⟨rfl, rfl⟩ := so_e h
      exact rt_z hx hb hr rfl hlk hd hS dX4_hasPerson_17
theorem hv_X4_allCells : yX4_allCells.cls = RX4 ∧ yX4_allCells.cls ≠ "java/lang/invoke/MethodHandle" ∧ yX4_allCells.cls ≠ "java/lang/invoke/VarHandle" ∧ (parseMethodDescriptor yX4_allCells.desc).map (fun d => d.parameters.length) = some 0 := by decide +kernel
def f_X4_allCells (μ : Mm) (a0 : Nat) : Option (Int32 × Mm) := some (((1 : Int32) <<< ((μ.1 a0 2) &&& 31)) - (1 : Int32), μ)
set_option maxRecDepth 100000 in
theorem c_X4_allCells {l : Launch} {D : va_G} {cA : Nat → ClassId} {z : Nat} {μ : Mm} {a0 : Nat} {r : Int32} {μ' : Mm} (hk_a0 : kd a0 = 4) (h : f_X4_allCells μ a0 = some (r, μ')) : Ct l D cA z yX4_allCells wsX4_allCells 0 0 [.ref (z + a0)] μ (some (.int r)) μ' := by
  refine m_in (cc := cX4_allCells) (maxL := 1) (ret := (some .int)) (own := RX4) (by decide) rfl rfl (Nat.le_of_ble_eq_true rfl) ?_
  intro p e s m below meth c ls X hd hS hl
  obtain ⟨hx, hb, hr, hlk, hml, hown, hts, hK⟩ := id X
  have hl : lv_has ls 1 [(0, .ref (z + a0))] := hl
  unfold f_X4_allCells at h
  refine lv_iconst (v := 1) hx hb dX4_allCells_0 (by decide) ?_
  refine lv_aload_n hx hb dX4_allCells_1 rfl (lv_at hl 0 rfl) ?_
  refine r_geti hx hb hts (fun w h => List.mem_cons_of_mem _ (List.mem_append_right _ (h))) hown hK hd hk_a0 rfl 2 fs_4_2 (hts (.fieldLink RX4 38 "LevelVotes$House" "cells" "I") (List.mem_of_getElem? (i := 1) rfl)) dX4_allCells_2 ?_
  refine lv_ishl hx hb dX4_allCells_5 ?_
  refine lv_iconst (v := 1) hx hb dX4_allCells_6 (by decide) ?_
  refine lv_isub hx hb dX4_allCells_7 ?_
  obtain ⟨rfl, rfl⟩ := so_e h
  exact rt_i hx hb hr hlk hd hS dX4_allCells_8
theorem hv_X6_clear : yX6_clear.cls = RX6 ∧ yX6_clear.cls ≠ "java/lang/invoke/MethodHandle" ∧ yX6_clear.cls ≠ "java/lang/invoke/VarHandle" ∧ (parseMethodDescriptor yX6_clear.desc).map (fun d => d.parameters.length) = some 0 := by decide +kernel
def f_X6_clear (μ : Mm) (a0 : Nat) : Option Mm := bM (up2 μ.1 a0 4 (0 : Int32), μ.2) (fun μ1 => bM (up2 μ1.1 a0 5 (0 : Int32), μ1.2) (fun μ2 => some μ2))
set_option maxRecDepth 100000 in
theorem c_X6_clear {l : Launch} {D : va_G} {cA : Nat → ClassId} {z : Nat} {μ : Mm} {a0 : Nat} {μ' : Mm} (hk_a0 : kd a0 = 6) (h : f_X6_clear μ a0 = some μ') : Ct l D cA z yX6_clear wsX6_clear 0 0 [.ref (z + a0)] μ none μ' := by
  refine m_in (cc := cX6_clear) (maxL := 1) (ret := none) (own := RX6) (by decide) rfl rfl (Nat.le_of_ble_eq_true rfl) ?_
  intro p e s m below meth c ls X hd hS hl
  obtain ⟨hx, hb, hr, hlk, hml, hown, hts, hK⟩ := id X
  have hl : lv_has ls 1 [(0, .ref (z + a0))] := hl
  unfold f_X6_clear at h
  refine lv_aload_n hx hb dX6_clear_0 rfl (lv_at hl 0 rfl) ?_
  refine lv_iconst (v := 0) hx hb dX6_clear_1 (by decide) ?_
  refine r_puti hx hb hts (fun w h => List.mem_cons_of_mem _ (List.mem_append_right _ (h))) tyX6 tyX6_ok nmX6 hown hK hd hS hk_a0 rfl 4 fs_6_4 rfl (hts (.fieldLink RX6 24 "LevelVotes$Notebook" "seen" "I") (List.mem_of_getElem? (i := 1) rfl)) (vp_nar_int _) rfl dX6_clear_2 (fun μ1 eμ1 H locs hd hS => ?_)
  have h := bM_e eμ1 h
  refine lv_aload_n hx hb dX6_clear_5 rfl (lv_at hl 0 rfl) ?_
  refine lv_iconst (v := 0) hx hb dX6_clear_6 (by decide) ?_
  refine r_puti hx hb hts (fun w h => List.mem_cons_of_mem _ (List.mem_append_right _ (h))) tyX6 tyX6_ok nmX6 hown hK hd hS hk_a0 rfl 5 fs_6_5 rfl (hts (.fieldLink RX6 28 "LevelVotes$Notebook" "entries" "I") (List.mem_of_getElem? (i := 2) rfl)) (vp_nar_int _) rfl dX6_clear_7 (fun μ2 eμ2 H locs hd hS => ?_)
  have h := bM_e eμ2 h
  obtain rfl := sv_e h
  exact rt_v hx hb hr hlk hd hS dX6_clear_10
theorem hv_X6_addSeen : yX6_addSeen.cls = RX6 ∧ yX6_addSeen.cls ≠ "java/lang/invoke/MethodHandle" ∧ yX6_addSeen.cls ≠ "java/lang/invoke/VarHandle" ∧ (parseMethodDescriptor yX6_addSeen.desc).map (fun d => d.parameters.length) = some 2 := by decide +kernel
def f_X6_addSeen (μ : Mm) (a0 : Nat) (x1 : Int32) (x2 : Int32) : Option Mm := if (μ.1 a0 4) < 0 then (some μ) else (if (6 : Int32) ≤ (μ.1 a0 4) then (some μ) else (bR (μ.2 a0 0) (fun b3 => gd (ckb (μ.1 a0 4) (ln b3)) (bM (up2 μ.1 b3 (μ.1 a0 4).toNatClampNeg x1, μ.2) (fun μ5 => bR (μ5.2 a0 1) (fun b6 => gd (ckb (μ5.1 a0 4) (ln b6)) (bM (up2 μ5.1 b6 (μ5.1 a0 4).toNatClampNeg x2, μ5.2) (fun μ8 => bM (up2 μ8.1 a0 4 ((μ8.1 a0 4) + (1 : Int32)), μ8.2) (fun μ9 => some μ9)))))))))
set_option maxRecDepth 100000 in
theorem c_X6_addSeen {l : Launch} {D : va_G} {cA : Nat → ClassId} {z : Nat} {μ : Mm} {a0 : Nat} {x1 : Int32} {x2 : Int32} {μ' : Mm} (hk_a0 : kd a0 = 6) (h : f_X6_addSeen μ a0 x1 x2 = some μ') : Ct l D cA z yX6_addSeen wsX6_addSeen 0 0 [.ref (z + a0), .int x1, .int x2] μ none μ' := by
  refine m_in (cc := cX6_addSeen) (maxL := 3) (ret := none) (own := RX6) (by decide) rfl rfl (Nat.le_of_ble_eq_true rfl) ?_
  intro p e s m below meth c ls X hd hS hl
  obtain ⟨hx, hb, hr, hlk, hml, hown, hts, hK⟩ := id X
  have hl : lv_has ls 3 [(0, .ref (z + a0)), (1, .int x1), (2, .int x2)] := hl
  unfold f_X6_addSeen at h
  refine lv_aload_n hx hb dX6_addSeen_0 rfl (lv_at hl 0 rfl) ?_
  refine r_geti hx hb hts (fun w h => List.mem_cons_of_mem _ (List.mem_append_right _ (h))) hown hK hd hk_a0 rfl 4 fs_6_4 (hts (.fieldLink RX6 24 "LevelVotes$Notebook" "seen" "I") (List.mem_of_getElem? (i := 1) rfl)) dX6_addSeen_1 ?_
  refine lv_if_lt (tgt := 46) hx hb dX6_addSeen_4 (by decide) (fun q1 => ?_) (fun q1 => ?_)
  · have h := if_y q1 h
    obtain rfl := sv_e h
    exact rt_v hx hb hr hlk hd hS dX6_addSeen_46
  · have h := if_n q1 h
    refine lv_aload_n hx hb dX6_addSeen_7 rfl (lv_at hl 0 rfl) ?_
    refine r_geti hx hb hts (fun w h => List.mem_cons_of_mem _ (List.mem_append_right _ (h))) hown hK hd hk_a0 rfl 4 fs_6_4 (hts (.fieldLink RX6 24 "LevelVotes$Notebook" "seen" "I") (List.mem_of_getElem? (i := 1) rfl)) dX6_addSeen_8 ?_
    refine lv_bipush (v := 6) hx hb dX6_addSeen_11 (by decide) ?_
    refine lv_icmp_ge (tgt := 46) hx hb dX6_addSeen_13 (by decide) (fun q2 => ?_) (fun q2 => ?_)
    · have h := if_y q2 h
      obtain rfl := sv_e h
      exact rt_v hx hb hr hlk hd hS dX6_addSeen_46
    · have h := if_n q2 h
      refine lv_aload_n hx hb dX6_addSeen_16 rfl (lv_at hl 0 rfl) ?_
      obtain ⟨b3, hb3, h⟩ := bR_e h
      refine r_getr hx hb hts (fun w h => List.mem_cons_of_mem _ (List.mem_append_right _ (h))) hown hK hd hk_a0 hb3 rfl fs_6_0 (hts (.fieldLink RX6 9 "LevelVotes$Notebook" "from" "[I") (List.mem_of_getElem? (i := 2) rfl)) dX6_addSeen_17 (fun hq => ?_)
      have hk_b3 : kd b3 = 11 := hq
      refine lv_aload_n hx hb dX6_addSeen_20 rfl (lv_at hl 0 rfl) ?_
      refine r_geti hx hb hts (fun w h => List.mem_cons_of_mem _ (List.mem_append_right _ (h))) hown hK hd hk_a0 rfl 4 fs_6_4 (hts (.fieldLink RX6 24 "LevelVotes$Notebook" "seen" "I") (List.mem_of_getElem? (i := 1) rfl)) dX6_addSeen_21 ?_
      refine lv_iload_n hx hb dX6_addSeen_24 rfl (lv_at hl 1 rfl) ?_
      obtain ⟨g4, h⟩ := gd_e h
      refine r_iast hx hb hK hd hS hk_b3 (ckb_in g4) dX6_addSeen_25 (fun μ5 eμ5 H locs hd hS => ?_)
      have h := bM_e eμ5 h
      refine lv_aload_n hx hb dX6_addSeen_26 rfl (lv_at hl 0 rfl) ?_
      obtain ⟨b6, hb6, h⟩ := bR_e h
      refine r_getr hx hb hts (fun w h => List.mem_cons_of_mem _ (List.mem_append_right _ (h))) hown hK hd hk_a0 hb6 rfl fs_6_1 (hts (.fieldLink RX6 15 "LevelVotes$Notebook" "to" "[I") (List.mem_of_getElem? (i := 3) rfl)) dX6_addSeen_27 (fun hq => ?_)
      have hk_b6 : kd b6 = 11 := hq
      refine lv_aload_n hx hb dX6_addSeen_30 rfl (lv_at hl 0 rfl) ?_
      refine r_geti hx hb hts (fun w h => List.mem_cons_of_mem _ (List.mem_append_right _ (h))) hown hK hd hk_a0 rfl 4 fs_6_4 (hts (.fieldLink RX6 24 "LevelVotes$Notebook" "seen" "I") (List.mem_of_getElem? (i := 1) rfl)) dX6_addSeen_31 ?_
      refine lv_iload_n hx hb dX6_addSeen_34 rfl (lv_at hl 2 rfl) ?_
      obtain ⟨g7, h⟩ := gd_e h
      refine r_iast hx hb hK hd hS hk_b6 (ckb_in g7) dX6_addSeen_35 (fun μ8 eμ8 H locs hd hS => ?_)
      have h := bM_e eμ8 h
      refine lv_aload_n hx hb dX6_addSeen_36 rfl (lv_at hl 0 rfl) ?_
      refine lv_dup hx hb dX6_addSeen_37 rfl ?_
      refine r_geti hx hb hts (fun w h => List.mem_cons_of_mem _ (List.mem_append_right _ (h))) hown hK hd hk_a0 rfl 4 fs_6_4 (hts (.fieldLink RX6 24 "LevelVotes$Notebook" "seen" "I") (List.mem_of_getElem? (i := 1) rfl)) dX6_addSeen_38 ?_
      refine lv_iconst (v := 1) hx hb dX6_addSeen_41 (by decide) ?_
      refine lv_iadd hx hb dX6_addSeen_42 ?_
      refine r_puti hx hb hts (fun w h => List.mem_cons_of_mem _ (List.mem_append_right _ (h))) tyX6 tyX6_ok nmX6 hown hK hd hS hk_a0 rfl 4 fs_6_4 rfl (hts (.fieldLink RX6 24 "LevelVotes$Notebook" "seen" "I") (List.mem_of_getElem? (i := 1) rfl)) (vp_nar_int _) rfl dX6_addSeen_43 (fun μ9 eμ9 H locs hd hS => ?_)
      have h := bM_e eμ9 h
      obtain rfl := sv_e h
      exact rt_v hx hb hr hlk hd hS dX6_addSeen_46
theorem hv_X6_addEntry : yX6_addEntry.cls = RX6 ∧ yX6_addEntry.cls ≠ "java/lang/invoke/MethodHandle" ∧ yX6_addEntry.cls ≠ "java/lang/invoke/VarHandle" ∧ (parseMethodDescriptor yX6_addEntry.desc).map (fun d => d.parameters.length) = some 2 := by decide +kernel
def f_X6_addEntry (μ : Mm) (a0 : Nat) (x1 : Int32) (x2 : Int32) : Option Mm := if (μ.1 a0 5) < 0 then (some μ) else (if (15 : Int32) ≤ (μ.1 a0 5) then (some μ) else (bR (μ.2 a0 2) (fun b3 => gd (ckb (μ.1 a0 5) (ln b3)) (bM (up2 μ.1 b3 (μ.1 a0 5).toNatClampNeg x1, μ.2) (fun μ5 => bR (μ5.2 a0 3) (fun b6 => gd (ckb (μ5.1 a0 5) (ln b6)) (bM (up2 μ5.1 b6 (μ5.1 a0 5).toNatClampNeg x2, μ5.2) (fun μ8 => bM (up2 μ8.1 a0 5 ((μ8.1 a0 5) + (1 : Int32)), μ8.2) (fun μ9 => some μ9)))))))))
set_option maxRecDepth 100000 in
theorem c_X6_addEntry {l : Launch} {D : va_G} {cA : Nat → ClassId} {z : Nat} {μ : Mm} {a0 : Nat} {x1 : Int32} {x2 : Int32} {μ' : Mm} (hk_a0 : kd a0 = 6) (h : f_X6_addEntry μ a0 x1 x2 = some μ') : Ct l D cA z yX6_addEntry wsX6_addEntry 0 0 [.ref (z + a0), .int x1, .int x2] μ none μ' := by
  refine m_in (cc := cX6_addEntry) (maxL := 3) (ret := none) (own := RX6) (by decide) rfl rfl (Nat.le_of_ble_eq_true rfl) ?_
  intro p e s m below meth c ls X hd hS hl
  obtain ⟨hx, hb, hr, hlk, hml, hown, hts, hK⟩ := id X
  have hl : lv_has ls 3 [(0, .ref (z + a0)), (1, .int x1), (2, .int x2)] := hl
  unfold f_X6_addEntry at h
  refine lv_aload_n hx hb dX6_addEntry_0 rfl (lv_at hl 0 rfl) ?_
  refine r_geti hx hb hts (fun w h => List.mem_cons_of_mem _ (List.mem_append_right _ (h))) hown hK hd hk_a0 rfl 5 fs_6_5 (hts (.fieldLink RX6 28 "LevelVotes$Notebook" "entries" "I") (List.mem_of_getElem? (i := 1) rfl)) dX6_addEntry_1 ?_
  refine lv_if_lt (tgt := 46) hx hb dX6_addEntry_4 (by decide) (fun q1 => ?_) (fun q1 => ?_)
  · have h := if_y q1 h
    obtain rfl := sv_e h
    exact rt_v hx hb hr hlk hd hS dX6_addEntry_46
  · have h := if_n q1 h
    refine lv_aload_n hx hb dX6_addEntry_7 rfl (lv_at hl 0 rfl) ?_
    refine r_geti hx hb hts (fun w h => List.mem_cons_of_mem _ (List.mem_append_right _ (h))) hown hK hd hk_a0 rfl 5 fs_6_5 (hts (.fieldLink RX6 28 "LevelVotes$Notebook" "entries" "I") (List.mem_of_getElem? (i := 1) rfl)) dX6_addEntry_8 ?_
    refine lv_bipush (v := 15) hx hb dX6_addEntry_11 (by decide) ?_
    refine lv_icmp_ge (tgt := 46) hx hb dX6_addEntry_13 (by decide) (fun q2 => ?_) (fun q2 => ?_)
    · have h := if_y q2 h
      obtain rfl := sv_e h
      exact rt_v hx hb hr hlk hd hS dX6_addEntry_46
    · have h := if_n q2 h
      refine lv_aload_n hx hb dX6_addEntry_16 rfl (lv_at hl 0 rfl) ?_
      obtain ⟨b3, hb3, h⟩ := bR_e h
      refine r_getr hx hb hts (fun w h => List.mem_cons_of_mem _ (List.mem_append_right _ (h))) hown hK hd hk_a0 hb3 rfl fs_6_2 (hts (.fieldLink RX6 18 "LevelVotes$Notebook" "where" "[I") (List.mem_of_getElem? (i := 2) rfl)) dX6_addEntry_17 (fun hq => ?_)
      have hk_b3 : kd b3 = 11 := hq
      refine lv_aload_n hx hb dX6_addEntry_20 rfl (lv_at hl 0 rfl) ?_
      refine r_geti hx hb hts (fun w h => List.mem_cons_of_mem _ (List.mem_append_right _ (h))) hown hK hd hk_a0 rfl 5 fs_6_5 (hts (.fieldLink RX6 28 "LevelVotes$Notebook" "entries" "I") (List.mem_of_getElem? (i := 1) rfl)) dX6_addEntry_21 ?_
      refine lv_iload_n hx hb dX6_addEntry_24 rfl (lv_at hl 1 rfl) ?_
      obtain ⟨g4, h⟩ := gd_e h
      refine r_iast hx hb hK hd hS hk_b3 (ckb_in g4) dX6_addEntry_25 (fun μ5 eμ5 H locs hd hS => ?_)
      have h := bM_e eμ5 h
      refine lv_aload_n hx hb dX6_addEntry_26 rfl (lv_at hl 0 rfl) ?_
      obtain ⟨b6, hb6, h⟩ := bR_e h
      refine r_getr hx hb hts (fun w h => List.mem_cons_of_mem _ (List.mem_append_right _ (h))) hown hK hd hk_a0 hb6 rfl fs_6_3 (hts (.fieldLink RX6 21 "LevelVotes$Notebook" "height" "[I") (List.mem_of_getElem? (i := 3) rfl)) dX6_addEntry_27 (fun hq => ?_)
      have hk_b6 : kd b6 = 11 := hq
      refine lv_aload_n hx hb dX6_addEntry_30 rfl (lv_at hl 0 rfl) ?_
      refine r_geti hx hb hts (fun w h => List.mem_cons_of_mem _ (List.mem_append_right _ (h))) hown hK hd hk_a0 rfl 5 fs_6_5 (hts (.fieldLink RX6 28 "LevelVotes$Notebook" "entries" "I") (List.mem_of_getElem? (i := 1) rfl)) dX6_addEntry_31 ?_
      refine lv_iload_n hx hb dX6_addEntry_34 rfl (lv_at hl 2 rfl) ?_
      obtain ⟨g7, h⟩ := gd_e h
      refine r_iast hx hb hK hd hS hk_b6 (ckb_in g7) dX6_addEntry_35 (fun μ8 eμ8 H locs hd hS => ?_)
      have h := bM_e eμ8 h
      refine lv_aload_n hx hb dX6_addEntry_36 rfl (lv_at hl 0 rfl) ?_
      refine lv_dup hx hb dX6_addEntry_37 rfl ?_
      refine r_geti hx hb hts (fun w h => List.mem_cons_of_mem _ (List.mem_append_right _ (h))) hown hK hd hk_a0 rfl 5 fs_6_5 (hts (.fieldLink RX6 28 "LevelVotes$Notebook" "entries" "I") (List.mem_of_getElem? (i := 1) rfl)) dX6_addEntry_38 ?_
      refine lv_iconst (v := 1) hx hb dX6_addEntry_41 (by decide) ?_
      refine lv_iadd hx hb dX6_addEntry_42 ?_
      refine r_puti hx hb hts (fun w h => List.mem_cons_of_mem _ (List.mem_append_right _ (h))) tyX6 tyX6_ok nmX6 hown hK hd hS hk_a0 rfl 5 fs_6_5 rfl (hts (.fieldLink RX6 28 "LevelVotes$Notebook" "entries" "I") (List.mem_of_getElem? (i := 1) rfl)) (vp_nar_int _) rfl dX6_addEntry_43 (fun μ9 eμ9 H locs hd hS => ?_)
      have h := bM_e eμ9 h
      obtain rfl := sv_e h
      exact rt_v hx hb hr hlk hd hS dX6_addEntry_46
theorem hv_X6_seenFrom : yX6_seenFrom.cls = RX6 ∧ yX6_seenFrom.cls ≠ "java/lang/invoke/MethodHandle" ∧ yX6_seenFrom.cls ≠ "java/lang/invoke/VarHandle" ∧ (parseMethodDescriptor yX6_seenFrom.desc).map (fun d => d.parameters.length) = some 1 := by decide +kernel
def f_X6_seenFrom (μ : Mm) (a0 : Nat) (x1 : Int32) : Option (Int32 × Mm) := if x1 < 0 then (some ((0 : Int32), μ)) else (bR (μ.2 a0 0) (fun b2 => if (Int32.ofNat (ln b2)) ≤ x1 then (some ((0 : Int32), μ)) else (bR (μ.2 a0 0) (fun b4 => gd (ckb x1 (ln b4)) (some (μ.1 b4 (x1).toNatClampNeg, μ))))))
set_option maxRecDepth 100000 in
theorem c_X6_seenFrom {l : Launch} {D : va_G} {cA : Nat → ClassId} {z : Nat} {μ : Mm} {a0 : Nat} {x1 : Int32} {r : Int32} {μ' : Mm} (hk_a0 : kd a0 = 6) (h : f_X6_seenFrom μ a0 x1 = some (r, μ')) : Ct l D cA z yX6_seenFrom wsX6_seenFrom 0 0 [.ref (z + a0), .int x1] μ (some (.int r)) μ' := by
  refine m_in (cc := cX6_seenFrom) (maxL := 2) (ret := (some .int)) (own := RX6) (by decide) rfl rfl (Nat.le_of_ble_eq_true rfl) ?_
  intro p e s m below meth c ls X hd hS hl
  obtain ⟨hx, hb, hr, hlk, hml, hown, hts, hK⟩ := id X
  have hl : lv_has ls 2 [(0, .ref (z + a0)), (1, .int x1)] := hl
  unfold f_X6_seenFrom at h
  refine lv_iload_n hx hb dX6_seenFrom_0 rfl (lv_at hl 1 rfl) ?_
  refine lv_if_lt (tgt := 22) hx hb dX6_seenFrom_1 (by decide) (fun q1 => ?_) (fun q1 => ?_)
  · have h := if_y q1 h
    refine lv_iconst (v := 0) hx hb dX6_seenFrom_22 (by decide) ?_
    obtain ⟨rfl, rfl⟩ := so_e h
    exact rt_i hx hb hr hlk hd hS dX6_seenFrom_23
  · have h := if_n q1 h
    refine lv_iload_n hx hb dX6_seenFrom_4 rfl (lv_at hl 1 rfl) ?_
    refine lv_aload_n hx hb dX6_seenFrom_5 rfl (lv_at hl 0 rfl) ?_
    obtain ⟨b2, hb2, h⟩ := bR_e h
    refine r_getr hx hb hts (fun w h => List.mem_cons_of_mem _ (List.mem_append_right _ (h))) hown hK hd hk_a0 hb2 rfl fs_6_0 (hts (.fieldLink RX6 9 "LevelVotes$Notebook" "from" "[I") (List.mem_of_getElem? (i := 1) rfl)) dX6_seenFrom_6 (fun hq => ?_)
    have hk_b2 : kd b2 = 11 := hq
    refine r_alen hx hb hK hd hk_b2 rfl dX6_seenFrom_9 ?_
    refine lv_icmp_ge (tgt := 22) hx hb dX6_seenFrom_10 (by decide) (fun q3 => ?_) (fun q3 => ?_)
    · have h := if_y q3 h
      refine lv_iconst (v := 0) hx hb dX6_seenFrom_22 (by decide) ?_
      obtain ⟨rfl, rfl⟩ := so_e h
      exact rt_i hx hb hr hlk hd hS dX6_seenFrom_23
    · have h := if_n q3 h
      refine lv_aload_n hx hb dX6_seenFrom_13 rfl (lv_at hl 0 rfl) ?_
      obtain ⟨b4, hb4, h⟩ := bR_e h
      refine r_getr hx hb hts (fun w h => List.mem_cons_of_mem _ (List.mem_append_right _ (h))) hown hK hd hk_a0 hb4 rfl fs_6_0 (hts (.fieldLink RX6 9 "LevelVotes$Notebook" "from" "[I") (List.mem_of_getElem? (i := 1) rfl)) dX6_seenFrom_14 (fun hq => ?_)
      have hk_b4 : kd b4 = 11 := hq
      refine lv_iload_n hx hb dX6_seenFrom_17 rfl (lv_at hl 1 rfl) ?_
      obtain ⟨g5, h⟩ := gd_e h
      refine r_iald hx hb hK hd hk_b4 (ckb_in g5) dX6_seenFrom_18 ?_
      refine lv_goto (tgt := 23) hx hb dX6_seenFrom_19 (by decide) ?_
      obtain ⟨rfl, rfl⟩ := so_e h
      exact rt_i hx hb hr hlk hd hS dX6_seenFrom_23
theorem hv_X6_seenTo : yX6_seenTo.cls = RX6 ∧ yX6_seenTo.cls ≠ "java/lang/invoke/MethodHandle" ∧ yX6_seenTo.cls ≠ "java/lang/invoke/VarHandle" ∧ (parseMethodDescriptor yX6_seenTo.desc).map (fun d => d.parameters.length) = some 1 := by decide +kernel
def f_X6_seenTo (μ : Mm) (a0 : Nat) (x1 : Int32) : Option (Int32 × Mm) := if x1 < 0 then (some ((0 : Int32), μ)) else (bR (μ.2 a0 1) (fun b2 => if (Int32.ofNat (ln b2)) ≤ x1 then (some ((0 : Int32), μ)) else (bR (μ.2 a0 1) (fun b4 => gd (ckb x1 (ln b4)) (some (μ.1 b4 (x1).toNatClampNeg, μ))))))
set_option maxRecDepth 100000 in
theorem c_X6_seenTo {l : Launch} {D : va_G} {cA : Nat → ClassId} {z : Nat} {μ : Mm} {a0 : Nat} {x1 : Int32} {r : Int32} {μ' : Mm} (hk_a0 : kd a0 = 6) (h : f_X6_seenTo μ a0 x1 = some (r, μ')) : Ct l D cA z yX6_seenTo wsX6_seenTo 0 0 [.ref (z + a0), .int x1] μ (some (.int r)) μ' := by
  refine m_in (cc := cX6_seenTo) (maxL := 2) (ret := (some .int)) (own := RX6) (by decide) rfl rfl (Nat.le_of_ble_eq_true rfl) ?_
  intro p e s m below meth c ls X hd hS hl
  obtain ⟨hx, hb, hr, hlk, hml, hown, hts, hK⟩ := id X
  have hl : lv_has ls 2 [(0, .ref (z + a0)), (1, .int x1)] := hl
  unfold f_X6_seenTo at h
  refine lv_iload_n hx hb dX6_seenTo_0 rfl (lv_at hl 1 rfl) ?_
  refine lv_if_lt (tgt := 22) hx hb dX6_seenTo_1 (by decide) (fun q1 => ?_) (fun q1 => ?_)
  · have h := if_y q1 h
    refine lv_iconst (v := 0) hx hb dX6_seenTo_22 (by decide) ?_
    obtain ⟨rfl, rfl⟩ := so_e h
    exact rt_i hx hb hr hlk hd hS dX6_seenTo_23
  · have h := if_n q1 h
    refine lv_iload_n hx hb dX6_seenTo_4 rfl (lv_at hl 1 rfl) ?_
    refine lv_aload_n hx hb dX6_seenTo_5 rfl (lv_at hl 0 rfl) ?_
    obtain ⟨b2, hb2, h⟩ := bR_e h
    refine r_getr hx hb hts (fun w h => List.mem_cons_of_mem _ (List.mem_append_right _ (h))) hown hK hd hk_a0 hb2 rfl fs_6_1 (hts (.fieldLink RX6 15 "LevelVotes$Notebook" "to" "[I") (List.mem_of_getElem? (i := 1) rfl)) dX6_seenTo_6 (fun hq => ?_)
    have hk_b2 : kd b2 = 11 := hq
    refine r_alen hx hb hK hd hk_b2 rfl dX6_seenTo_9 ?_
    refine lv_icmp_ge (tgt := 22) hx hb dX6_seenTo_10 (by decide) (fun q3 => ?_) (fun q3 => ?_)
    · have h := if_y q3 h
      refine lv_iconst (v := 0) hx hb dX6_seenTo_22 (by decide) ?_
      obtain ⟨rfl, rfl⟩ := so_e h
      exact rt_i hx hb hr hlk hd hS dX6_seenTo_23
    · have h := if_n q3 h
      refine lv_aload_n hx hb dX6_seenTo_13 rfl (lv_at hl 0 rfl) ?_
      obtain ⟨b4, hb4, h⟩ := bR_e h
      refine r_getr hx hb hts (fun w h => List.mem_cons_of_mem _ (List.mem_append_right _ (h))) hown hK hd hk_a0 hb4 rfl fs_6_1 (hts (.fieldLink RX6 15 "LevelVotes$Notebook" "to" "[I") (List.mem_of_getElem? (i := 1) rfl)) dX6_seenTo_14 (fun hq => ?_)
      have hk_b4 : kd b4 = 11 := hq
      refine lv_iload_n hx hb dX6_seenTo_17 rfl (lv_at hl 1 rfl) ?_
      obtain ⟨g5, h⟩ := gd_e h
      refine r_iald hx hb hK hd hk_b4 (ckb_in g5) dX6_seenTo_18 ?_
      refine lv_goto (tgt := 23) hx hb dX6_seenTo_19 (by decide) ?_
      obtain ⟨rfl, rfl⟩ := so_e h
      exact rt_i hx hb hr hlk hd hS dX6_seenTo_23
theorem hv_X6_entryCell : yX6_entryCell.cls = RX6 ∧ yX6_entryCell.cls ≠ "java/lang/invoke/MethodHandle" ∧ yX6_entryCell.cls ≠ "java/lang/invoke/VarHandle" ∧ (parseMethodDescriptor yX6_entryCell.desc).map (fun d => d.parameters.length) = some 1 := by decide +kernel
def f_X6_entryCell (μ : Mm) (a0 : Nat) (x1 : Int32) : Option (Int32 × Mm) := if x1 < 0 then (some ((0 : Int32), μ)) else (bR (μ.2 a0 2) (fun b2 => if (Int32.ofNat (ln b2)) ≤ x1 then (some ((0 : Int32), μ)) else (bR (μ.2 a0 2) (fun b4 => gd (ckb x1 (ln b4)) (some (μ.1 b4 (x1).toNatClampNeg, μ))))))
set_option maxRecDepth 100000 in
theorem c_X6_entryCell {l : Launch} {D : va_G} {cA : Nat → ClassId} {z : Nat} {μ : Mm} {a0 : Nat} {x1 : Int32} {r : Int32} {μ' : Mm} (hk_a0 : kd a0 = 6) (h : f_X6_entryCell μ a0 x1 = some (r, μ')) : Ct l D cA z yX6_entryCell wsX6_entryCell 0 0 [.ref (z + a0), .int x1] μ (some (.int r)) μ' := by
  refine m_in (cc := cX6_entryCell) (maxL := 2) (ret := (some .int)) (own := RX6) (by decide) rfl rfl (Nat.le_of_ble_eq_true rfl) ?_
  intro p e s m below meth c ls X hd hS hl
  obtain ⟨hx, hb, hr, hlk, hml, hown, hts, hK⟩ := id X
  have hl : lv_has ls 2 [(0, .ref (z + a0)), (1, .int x1)] := hl
  unfold f_X6_entryCell at h
  refine lv_iload_n hx hb dX6_entryCell_0 rfl (lv_at hl 1 rfl) ?_
  refine lv_if_lt (tgt := 22) hx hb dX6_entryCell_1 (by decide) (fun q1 => ?_) (fun q1 => ?_)
  · have h := if_y q1 h
    refine lv_iconst (v := 0) hx hb dX6_entryCell_22 (by decide) ?_
    obtain ⟨rfl, rfl⟩ := so_e h
    exact rt_i hx hb hr hlk hd hS dX6_entryCell_23
  · have h := if_n q1 h
    refine lv_iload_n hx hb dX6_entryCell_4 rfl (lv_at hl 1 rfl) ?_
    refine lv_aload_n hx hb dX6_entryCell_5 rfl (lv_at hl 0 rfl) ?_
    obtain ⟨b2, hb2, h⟩ := bR_e h
    refine r_getr hx hb hts (fun w h => List.mem_cons_of_mem _ (List.mem_append_right _ (h))) hown hK hd hk_a0 hb2 rfl fs_6_2 (hts (.fieldLink RX6 18 "LevelVotes$Notebook" "where" "[I") (List.mem_of_getElem? (i := 1) rfl)) dX6_entryCell_6 (fun hq => ?_)
    have hk_b2 : kd b2 = 11 := hq
    refine r_alen hx hb hK hd hk_b2 rfl dX6_entryCell_9 ?_
    refine lv_icmp_ge (tgt := 22) hx hb dX6_entryCell_10 (by decide) (fun q3 => ?_) (fun q3 => ?_)
    · have h := if_y q3 h
      refine lv_iconst (v := 0) hx hb dX6_entryCell_22 (by decide) ?_
      obtain ⟨rfl, rfl⟩ := so_e h
      exact rt_i hx hb hr hlk hd hS dX6_entryCell_23
    · have h := if_n q3 h
      refine lv_aload_n hx hb dX6_entryCell_13 rfl (lv_at hl 0 rfl) ?_
      obtain ⟨b4, hb4, h⟩ := bR_e h
      refine r_getr hx hb hts (fun w h => List.mem_cons_of_mem _ (List.mem_append_right _ (h))) hown hK hd hk_a0 hb4 rfl fs_6_2 (hts (.fieldLink RX6 18 "LevelVotes$Notebook" "where" "[I") (List.mem_of_getElem? (i := 1) rfl)) dX6_entryCell_14 (fun hq => ?_)
      have hk_b4 : kd b4 = 11 := hq
      refine lv_iload_n hx hb dX6_entryCell_17 rfl (lv_at hl 1 rfl) ?_
      obtain ⟨g5, h⟩ := gd_e h
      refine r_iald hx hb hK hd hk_b4 (ckb_in g5) dX6_entryCell_18 ?_
      refine lv_goto (tgt := 23) hx hb dX6_entryCell_19 (by decide) ?_
      obtain ⟨rfl, rfl⟩ := so_e h
      exact rt_i hx hb hr hlk hd hS dX6_entryCell_23
theorem hv_X6_entryHeight : yX6_entryHeight.cls = RX6 ∧ yX6_entryHeight.cls ≠ "java/lang/invoke/MethodHandle" ∧ yX6_entryHeight.cls ≠ "java/lang/invoke/VarHandle" ∧ (parseMethodDescriptor yX6_entryHeight.desc).map (fun d => d.parameters.length) = some 1 := by decide +kernel
def f_X6_entryHeight (μ : Mm) (a0 : Nat) (x1 : Int32) : Option (Int32 × Mm) := if x1 < 0 then (some ((0 : Int32), μ)) else (bR (μ.2 a0 3) (fun b2 => if (Int32.ofNat (ln b2)) ≤ x1 then (some ((0 : Int32), μ)) else (bR (μ.2 a0 3) (fun b4 => gd (ckb x1 (ln b4)) (some (μ.1 b4 (x1).toNatClampNeg, μ))))))
set_option maxRecDepth 100000 in
theorem c_X6_entryHeight {l : Launch} {D : va_G} {cA : Nat → ClassId} {z : Nat} {μ : Mm} {a0 : Nat} {x1 : Int32} {r : Int32} {μ' : Mm} (hk_a0 : kd a0 = 6) (h : f_X6_entryHeight μ a0 x1 = some (r, μ')) : Ct l D cA z yX6_entryHeight wsX6_entryHeight 0 0 [.ref (z + a0), .int x1] μ (some (.int r)) μ' := by
  refine m_in (cc := cX6_entryHeight) (maxL := 2) (ret := (some .int)) (own := RX6) (by decide) rfl rfl (Nat.le_of_ble_eq_true rfl) ?_
  intro p e s m below meth c ls X hd hS hl
  obtain ⟨hx, hb, hr, hlk, hml, hown, hts, hK⟩ := id X
  have hl : lv_has ls 2 [(0, .ref (z + a0)), (1, .int x1)] := hl
  unfold f_X6_entryHeight at h
  refine lv_iload_n hx hb dX6_entryHeight_0 rfl (lv_at hl 1 rfl) ?_
  refine lv_if_lt (tgt := 22) hx hb dX6_entryHeight_1 (by decide) (fun q1 => ?_) (fun q1 => ?_)
  · have h := if_y q1 h
    refine lv_iconst (v := 0) hx hb dX6_entryHeight_22 (by decide) ?_
    obtain ⟨rfl, rfl⟩ := so_e h
    exact rt_i hx hb hr hlk hd hS dX6_entryHeight_23
  · have h := if_n q1 h
    refine lv_iload_n hx hb dX6_entryHeight_4 rfl (lv_at hl 1 rfl) ?_
    refine lv_aload_n hx hb dX6_entryHeight_5 rfl (lv_at hl 0 rfl) ?_
    obtain ⟨b2, hb2, h⟩ := bR_e h
    refine r_getr hx hb hts (fun w h => List.mem_cons_of_mem _ (List.mem_append_right _ (h))) hown hK hd hk_a0 hb2 rfl fs_6_3 (hts (.fieldLink RX6 21 "LevelVotes$Notebook" "height" "[I") (List.mem_of_getElem? (i := 1) rfl)) dX6_entryHeight_6 (fun hq => ?_)
    have hk_b2 : kd b2 = 11 := hq
    refine r_alen hx hb hK hd hk_b2 rfl dX6_entryHeight_9 ?_
    refine lv_icmp_ge (tgt := 22) hx hb dX6_entryHeight_10 (by decide) (fun q3 => ?_) (fun q3 => ?_)
    · have h := if_y q3 h
      refine lv_iconst (v := 0) hx hb dX6_entryHeight_22 (by decide) ?_
      obtain ⟨rfl, rfl⟩ := so_e h
      exact rt_i hx hb hr hlk hd hS dX6_entryHeight_23
    · have h := if_n q3 h
      refine lv_aload_n hx hb dX6_entryHeight_13 rfl (lv_at hl 0 rfl) ?_
      obtain ⟨b4, hb4, h⟩ := bR_e h
      refine r_getr hx hb hts (fun w h => List.mem_cons_of_mem _ (List.mem_append_right _ (h))) hown hK hd hk_a0 hb4 rfl fs_6_3 (hts (.fieldLink RX6 21 "LevelVotes$Notebook" "height" "[I") (List.mem_of_getElem? (i := 1) rfl)) dX6_entryHeight_14 (fun hq => ?_)
      have hk_b4 : kd b4 = 11 := hq
      refine lv_iload_n hx hb dX6_entryHeight_17 rfl (lv_at hl 1 rfl) ?_
      obtain ⟨g5, h⟩ := gd_e h
      refine r_iald hx hb hK hd hk_b4 (ckb_in g5) dX6_entryHeight_18 ?_
      refine lv_goto (tgt := 23) hx hb dX6_entryHeight_19 (by decide) ?_
      obtain ⟨rfl, rfl⟩ := so_e h
      exact rt_i hx hb hr hlk hd hS dX6_entryHeight_23
theorem hv_X7_isFull : yX7_isFull.cls = RX7 ∧ yX7_isFull.cls ≠ "java/lang/invoke/MethodHandle" ∧ yX7_isFull.cls ≠ "java/lang/invoke/VarHandle" ∧ (parseMethodDescriptor yX7_isFull.desc).map (fun d => d.parameters.length) = some 0 := by decide +kernel
def f_X7_isFull (μ : Mm) (a0 : Nat) : Option (Int32 × Mm) := bR (μ.2 a0 0) (fun b1 => if (μ.1 a0 1) < (Int32.ofNat (ln b1)) then (some ((0 : Int32), μ)) else (some ((1 : Int32), μ)))
set_option maxRecDepth 100000 in
theorem c_X7_isFull {l : Launch} {D : va_G} {cA : Nat → ClassId} {z : Nat} {μ : Mm} {a0 : Nat} {r : Int32} {μ' : Mm} (hk_a0 : kd a0 = 7) (h : f_X7_isFull μ a0 = some (r, μ')) : Ct l D cA z yX7_isFull wsX7_isFull 0 0 [.ref (z + a0)] μ (some (.int r)) μ' := by
  refine m_in (cc := cX7_isFull) (maxL := 1) (ret := (some .boolean)) (own := RX7) (by decide) rfl rfl (Nat.le_of_ble_eq_true rfl) ?_
  intro p e s m below meth c ls X hd hS hl
  obtain ⟨hx, hb, hr, hlk, hml, hown, hts, hK⟩ := id X
  have hl : lv_has ls 1 [(0, .ref (z + a0))] := hl
  unfold f_X7_isFull at h
  refine lv_aload_n hx hb dX7_isFull_0 rfl (lv_at hl 0 rfl) ?_
  refine r_geti hx hb hts (fun w h => List.mem_cons_of_mem _ (List.mem_append_right _ (h))) hown hK hd hk_a0 rfl 1 fs_7_1 (hts (.fieldLink RX7 19 "LevelVotes$Text" "size" "I") (List.mem_of_getElem? (i := 1) rfl)) dX7_isFull_1 ?_
  refine lv_aload_n hx hb dX7_isFull_4 rfl (lv_at hl 0 rfl) ?_
  obtain ⟨b1, hb1, h⟩ := bR_e h
  refine r_getr hx hb hts (fun w h => List.mem_cons_of_mem _ (List.mem_append_right _ (h))) hown hK hd hk_a0 hb1 rfl fs_7_0 (hts (.fieldLink RX7 9 "LevelVotes$Text" "letters" "[I") (List.mem_of_getElem? (i := 2) rfl)) dX7_isFull_5 (fun hq => ?_)
  have hk_b1 : kd b1 = 11 := hq
  refine r_alen hx hb hK hd hk_b1 rfl dX7_isFull_8 ?_
  refine lv_icmp_lt (tgt := 16) hx hb dX7_isFull_9 (by decide) (fun q2 => ?_) (fun q2 => ?_)
  · have h := if_y q2 h
    refine lv_iconst (v := 0) hx hb dX7_isFull_16 (by decide) ?_
    obtain ⟨rfl, rfl⟩ := so_e h
    exact rt_z hx hb hr rfl hlk hd hS dX7_isFull_17
  · have h := if_n q2 h
    refine lv_iconst (v := 1) hx hb dX7_isFull_12 (by decide) ?_
    refine lv_goto (tgt := 17) hx hb dX7_isFull_13 (by decide) ?_
    obtain ⟨rfl, rfl⟩ := so_e h
    exact rt_z hx hb hr rfl hlk hd hS dX7_isFull_17
theorem hv_X7_add : yX7_add.cls = RX7 ∧ yX7_add.cls ≠ "java/lang/invoke/MethodHandle" ∧ yX7_add.cls ≠ "java/lang/invoke/VarHandle" ∧ (parseMethodDescriptor yX7_add.desc).map (fun d => d.parameters.length) = some 1 := by decide +kernel
def f_X7_add (μ : Mm) (a0 : Nat) (x1 : Int32) : Option Mm := if (μ.1 a0 1) < 0 then (some μ) else (bR (μ.2 a0 0) (fun b2 => if (Int32.ofNat (ln b2)) ≤ (μ.1 a0 1) then (some μ) else (bR (μ.2 a0 0) (fun b4 => gd (ckb (μ.1 a0 1) (ln b4)) (bM (up2 μ.1 b4 (μ.1 a0 1).toNatClampNeg x1, μ.2) (fun μ6 => bM (up2 μ6.1 a0 1 ((μ6.1 a0 1) + (1 : Int32)), μ6.2) (fun μ7 => some μ7)))))))
set_option maxRecDepth 100000 in
theorem c_X7_add {l : Launch} {D : va_G} {cA : Nat → ClassId} {z : Nat} {μ : Mm} {a0 : Nat} {x1 : Int32} {μ' : Mm} (hk_a0 : kd a0 = 7) (h : f_X7_add μ a0 x1 = some μ') : Ct l D cA z yX7_add wsX7_add 0 0 [.ref (z + a0), .int x1] μ none μ' := by
  refine m_in (cc := cX7_add) (maxL := 2) (ret := none) (own := RX7) (by decide) rfl rfl (Nat.le_of_ble_eq_true rfl) ?_
  intro p e s m below meth c ls X hd hS hl
  obtain ⟨hx, hb, hr, hlk, hml, hown, hts, hK⟩ := id X
  have hl : lv_has ls 2 [(0, .ref (z + a0)), (1, .int x1)] := hl
  unfold f_X7_add at h
  refine lv_aload_n hx hb dX7_add_0 rfl (lv_at hl 0 rfl) ?_
  refine r_geti hx hb hts (fun w h => List.mem_cons_of_mem _ (List.mem_append_right _ (h))) hown hK hd hk_a0 rfl 1 fs_7_1 (hts (.fieldLink RX7 19 "LevelVotes$Text" "size" "I") (List.mem_of_getElem? (i := 1) rfl)) dX7_add_1 ?_
  refine lv_if_lt (tgt := 39) hx hb dX7_add_4 (by decide) (fun q1 => ?_) (fun q1 => ?_)
  · have h := if_y q1 h
    obtain rfl := sv_e h
    exact rt_v hx hb hr hlk hd hS dX7_add_39
  · have h := if_n q1 h
    refine lv_aload_n hx hb dX7_add_7 rfl (lv_at hl 0 rfl) ?_
    refine r_geti hx hb hts (fun w h => List.mem_cons_of_mem _ (List.mem_append_right _ (h))) hown hK hd hk_a0 rfl 1 fs_7_1 (hts (.fieldLink RX7 19 "LevelVotes$Text" "size" "I") (List.mem_of_getElem? (i := 1) rfl)) dX7_add_8 ?_
    refine lv_aload_n hx hb dX7_add_11 rfl (lv_at hl 0 rfl) ?_
    obtain ⟨b2, hb2, h⟩ := bR_e h
    refine r_getr hx hb hts (fun w h => List.mem_cons_of_mem _ (List.mem_append_right _ (h))) hown hK hd hk_a0 hb2 rfl fs_7_0 (hts (.fieldLink RX7 9 "LevelVotes$Text" "letters" "[I") (List.mem_of_getElem? (i := 2) rfl)) dX7_add_12 (fun hq => ?_)
    have hk_b2 : kd b2 = 11 := hq
    refine r_alen hx hb hK hd hk_b2 rfl dX7_add_15 ?_
    refine lv_icmp_ge (tgt := 39) hx hb dX7_add_16 (by decide) (fun q3 => ?_) (fun q3 => ?_)
    · have h := if_y q3 h
      obtain rfl := sv_e h
      exact rt_v hx hb hr hlk hd hS dX7_add_39
    · have h := if_n q3 h
      refine lv_aload_n hx hb dX7_add_19 rfl (lv_at hl 0 rfl) ?_
      obtain ⟨b4, hb4, h⟩ := bR_e h
      refine r_getr hx hb hts (fun w h => List.mem_cons_of_mem _ (List.mem_append_right _ (h))) hown hK hd hk_a0 hb4 rfl fs_7_0 (hts (.fieldLink RX7 9 "LevelVotes$Text" "letters" "[I") (List.mem_of_getElem? (i := 2) rfl)) dX7_add_20 (fun hq => ?_)
      have hk_b4 : kd b4 = 11 := hq
      refine lv_aload_n hx hb dX7_add_23 rfl (lv_at hl 0 rfl) ?_
      refine r_geti hx hb hts (fun w h => List.mem_cons_of_mem _ (List.mem_append_right _ (h))) hown hK hd hk_a0 rfl 1 fs_7_1 (hts (.fieldLink RX7 19 "LevelVotes$Text" "size" "I") (List.mem_of_getElem? (i := 1) rfl)) dX7_add_24 ?_
      refine lv_iload_n hx hb dX7_add_27 rfl (lv_at hl 1 rfl) ?_
      obtain ⟨g5, h⟩ := gd_e h
      refine r_iast hx hb hK hd hS hk_b4 (ckb_in g5) dX7_add_28 (fun μ6 eμ6 H locs hd hS => ?_)
      have h := bM_e eμ6 h
      refine lv_aload_n hx hb dX7_add_29 rfl (lv_at hl 0 rfl) ?_
      refine lv_dup hx hb dX7_add_30 rfl ?_
      refine r_geti hx hb hts (fun w h => List.mem_cons_of_mem _ (List.mem_append_right _ (h))) hown hK hd hk_a0 rfl 1 fs_7_1 (hts (.fieldLink RX7 19 "LevelVotes$Text" "size" "I") (List.mem_of_getElem? (i := 1) rfl)) dX7_add_31 ?_
      refine lv_iconst (v := 1) hx hb dX7_add_34 (by decide) ?_
      refine lv_iadd hx hb dX7_add_35 ?_
      refine r_puti hx hb hts (fun w h => List.mem_cons_of_mem _ (List.mem_append_right _ (h))) tyX7 tyX7_ok nmX7 hown hK hd hS hk_a0 rfl 1 fs_7_1 rfl (hts (.fieldLink RX7 19 "LevelVotes$Text" "size" "I") (List.mem_of_getElem? (i := 1) rfl)) (vp_nar_int _) rfl dX7_add_36 (fun μ7 eμ7 H locs hd hS => ?_)
      have h := bM_e eμ7 h
      obtain rfl := sv_e h
      exact rt_v hx hb hr hlk hd hS dX7_add_39
theorem hv_X7_letterAt : yX7_letterAt.cls = RX7 ∧ yX7_letterAt.cls ≠ "java/lang/invoke/MethodHandle" ∧ yX7_letterAt.cls ≠ "java/lang/invoke/VarHandle" ∧ (parseMethodDescriptor yX7_letterAt.desc).map (fun d => d.parameters.length) = some 1 := by decide +kernel
def f_X7_letterAt (μ : Mm) (a0 : Nat) (x1 : Int32) : Option (Int32 × Mm) := if x1 < 0 then (some ((-1 : Int32), μ)) else (if (μ.1 a0 1) ≤ x1 then (some ((-1 : Int32), μ)) else (bR (μ.2 a0 0) (fun b3 => if (Int32.ofNat (ln b3)) ≤ x1 then (some ((-1 : Int32), μ)) else (bR (μ.2 a0 0) (fun b5 => gd (ckb x1 (ln b5)) (some (μ.1 b5 (x1).toNatClampNeg, μ)))))))
set_option maxRecDepth 100000 in
theorem c_X7_letterAt {l : Launch} {D : va_G} {cA : Nat → ClassId} {z : Nat} {μ : Mm} {a0 : Nat} {x1 : Int32} {r : Int32} {μ' : Mm} (hk_a0 : kd a0 = 7) (h : f_X7_letterAt μ a0 x1 = some (r, μ')) : Ct l D cA z yX7_letterAt wsX7_letterAt 0 0 [.ref (z + a0), .int x1] μ (some (.int r)) μ' := by
  refine m_in (cc := cX7_letterAt) (maxL := 2) (ret := (some .int)) (own := RX7) (by decide) rfl rfl (Nat.le_of_ble_eq_true rfl) ?_
  intro p e s m below meth c ls X hd hS hl
  obtain ⟨hx, hb, hr, hlk, hml, hown, hts, hK⟩ := id X
  have hl : lv_has ls 2 [(0, .ref (z + a0)), (1, .int x1)] := hl
  unfold f_X7_letterAt at h
  refine lv_iload_n hx hb dX7_letterAt_0 rfl (lv_at hl 1 rfl) ?_
  refine lv_if_lt (tgt := 30) hx hb dX7_letterAt_1 (by decide) (fun q1 => ?_) (fun q1 => ?_)
  · have h := if_y q1 h
    refine lv_iconst (v := -1) hx hb dX7_letterAt_30 (by decide) ?_
    obtain ⟨rfl, rfl⟩ := so_e h
    exact rt_i hx hb hr hlk hd hS dX7_letterAt_31
  · have h := if_n q1 h
    refine lv_iload_n hx hb dX7_letterAt_4 rfl (lv_at hl 1 rfl) ?_
    refine lv_aload_n hx hb dX7_letterAt_5 rfl (lv_at hl 0 rfl) ?_
    refine r_geti hx hb hts (fun w h => List.mem_cons_of_mem _ (List.mem_append_right _ (h))) hown hK hd hk_a0 rfl 1 fs_7_1 (hts (.fieldLink RX7 19 "LevelVotes$Text" "size" "I") (List.mem_of_getElem? (i := 1) rfl)) dX7_letterAt_6 ?_
    refine lv_icmp_ge (tgt := 30) hx hb dX7_letterAt_9 (by decide) (fun q2 => ?_) (fun q2 => ?_)
    · have h := if_y q2 h
      refine lv_iconst (v := -1) hx hb dX7_letterAt_30 (by decide) ?_
      obtain ⟨rfl, rfl⟩ := so_e h
      exact rt_i hx hb hr hlk hd hS dX7_letterAt_31
    · have h := if_n q2 h
      refine lv_iload_n hx hb dX7_letterAt_12 rfl (lv_at hl 1 rfl) ?_
      refine lv_aload_n hx hb dX7_letterAt_13 rfl (lv_at hl 0 rfl) ?_
      obtain ⟨b3, hb3, h⟩ := bR_e h
      refine r_getr hx hb hts (fun w h => List.mem_cons_of_mem _ (List.mem_append_right _ (h))) hown hK hd hk_a0 hb3 rfl fs_7_0 (hts (.fieldLink RX7 9 "LevelVotes$Text" "letters" "[I") (List.mem_of_getElem? (i := 2) rfl)) dX7_letterAt_14 (fun hq => ?_)
      have hk_b3 : kd b3 = 11 := hq
      refine r_alen hx hb hK hd hk_b3 rfl dX7_letterAt_17 ?_
      refine lv_icmp_ge (tgt := 30) hx hb dX7_letterAt_18 (by decide) (fun q4 => ?_) (fun q4 => ?_)
      · have h := if_y q4 h
        refine lv_iconst (v := -1) hx hb dX7_letterAt_30 (by decide) ?_
        obtain ⟨rfl, rfl⟩ := so_e h
        exact rt_i hx hb hr hlk hd hS dX7_letterAt_31
      · have h := if_n q4 h
        refine lv_aload_n hx hb dX7_letterAt_21 rfl (lv_at hl 0 rfl) ?_
        obtain ⟨b5, hb5, h⟩ := bR_e h
        refine r_getr hx hb hts (fun w h => List.mem_cons_of_mem _ (List.mem_append_right _ (h))) hown hK hd hk_a0 hb5 rfl fs_7_0 (hts (.fieldLink RX7 9 "LevelVotes$Text" "letters" "[I") (List.mem_of_getElem? (i := 2) rfl)) dX7_letterAt_22 (fun hq => ?_)
        have hk_b5 : kd b5 = 11 := hq
        refine lv_iload_n hx hb dX7_letterAt_25 rfl (lv_at hl 1 rfl) ?_
        obtain ⟨g6, h⟩ := gd_e h
        refine r_iald hx hb hK hd hk_b5 (ckb_in g6) dX7_letterAt_26 ?_
        refine lv_goto (tgt := 31) hx hb dX7_letterAt_27 (by decide) ?_
        obtain ⟨rfl, rfl⟩ := so_e h
        exact rt_i hx hb hr hlk hd hS dX7_letterAt_31
theorem hv_X7_skipBlanks : yX7_skipBlanks.cls = RX7 ∧ yX7_skipBlanks.cls ≠ "java/lang/invoke/MethodHandle" ∧ yX7_skipBlanks.cls ≠ "java/lang/invoke/VarHandle" ∧ (parseMethodDescriptor yX7_skipBlanks.desc).map (fun d => d.parameters.length) = some 0 := by decide +kernel
abbrev HL_X7_skipBlanks_2 (l : Launch) (D : va_G) (cA : Nat → ClassId) (z : Nat) (av : List Value) (μ' : Mm) (p : Program) (e : Env) (s : State) (m : MethodId) (below : List Frame) (meth : Method) (c : Code) (rc : Mm → Nat → Int32 → Option Mm) : Prop := ∀ (μ : Mm) (H : Heap) (locs : List Loc) (ls : Array Slot) (a0 : Nat) (x1 : Int32), kd a0 = 7 → Wd D cA z μ H → va_S (Az z) s.heap H locs → lv_has ls 2 [(0, .ref (z + a0)), (1, .int x1)] → rc μ a0 x1 = some μ' → WG l D cA z wsX7_skipBlanks 1 21 av none μ' p e s m below meth c H locs (F0 m 2 ls [])
def f_X7_skipBlanks_L2b (rc2 : Mm → Nat → Int32 → Option Mm) (μ : Mm) (a0 : Nat) (x1 : Int32) : Option Mm := if (240 : Int32) ≤ x1 then (some μ) else (bC (f_X7_letterAt μ a0 (μ.1 a0 4)) (fun r3 μ2 => if r3 = (32 : Int32) then (bM (up2 μ2.1 a0 4 ((μ2.1 a0 4) + (1 : Int32)), μ2.2) (fun μ6 => rc2 μ6 a0 (x1 + (1 : Int32)))) else (some μ2)))
set_option maxRecDepth 100000 in
theorem k_f_X7_skipBlanks_L2b {l : Launch} {D : va_G} {cA : Nat → ClassId} {z : Nat} {av : List Value} {p : Program} {e : Env} {s : State} {m : MethodId} {below : List Frame} {meth : Method} {c : Code} {μ' : Mm} (X : Fx D cA RX7 wsX7_skipBlanks cX7_skipBlanks 2 none p s m av.toArray meth c) {rc2 : Mm → Nat → Int32 → Option Mm} (hrc2 : HL_X7_skipBlanks_2 l D cA z av μ' p e s m below meth c rc2) {μ : Mm} {a0 : Nat} {x1 : Int32} (hk_a0 : kd a0 = 7) {H : Heap} {locs : List Loc} {ls : Array Slot} (hd : Wd D cA z μ H) (hS : va_S (Az z) s.heap H locs) (hl : lv_has ls 2 [(0, .ref (z + a0)), (1, .int x1)]) (h : f_X7_skipBlanks_L2b rc2 μ a0 x1 = some μ') : WG l D cA z wsX7_skipBlanks 1 21 av none μ' p e s m below meth c H locs (F0 m 2 ls []) := by
  obtain ⟨hx, hb, hr, hlk, hml, hown, hts, hK⟩ := id X
  unfold f_X7_skipBlanks_L2b at h
  refine lv_iload_n hx hb dX7_skipBlanks_2 rfl (lv_at hl 1 rfl) ?_
  refine lv_sipush (v := 240) hx hb dX7_skipBlanks_3 (by decide) ?_
  refine lv_icmp_ge (tgt := 38) hx hb dX7_skipBlanks_6 (by decide) (fun q1 => ?_) (fun q1 => ?_)
  · have h := if_y q1 h
    obtain rfl := sv_e h
    exact rt_v hx hb hr hlk hd hS dX7_skipBlanks_38
  · have h := if_n q1 h
    refine lv_aload_n hx hb dX7_skipBlanks_9 rfl (lv_at hl 0 rfl) ?_
    refine lv_aload_n hx hb dX7_skipBlanks_10 rfl (lv_at hl 0 rfl) ?_
    refine r_geti hx hb hts (fun w h => List.mem_cons_of_mem _ (List.mem_append_right _ (h))) hown hK hd hk_a0 rfl 4 fs_7_4 (hts (.fieldLink RX7 30 "LevelVotes$Text" "at" "I") (List.mem_of_getElem? (i := 1) rfl)) dX7_skipBlanks_11 ?_
    obtain ⟨r3, μ2, hc4, h⟩ := bC_e h
    refine rc_Vi (rest := []) [.int (μ.1 a0 4)] ⟨hx, hb, hml, hown, hts⟩ hK hd hS (c_X7_letterAt hk_a0 hc4) (cwV 1 hts gX7_skipBlanks_X7_letterAt rfl rfl rfl hv_X7_letterAt ⟨Nat.le_of_ble_eq_true rfl, Nat.le_of_ble_eq_true rfl⟩) hk_a0 rfl rfl rfl rfl hl.1 rfl (Nat.le_of_ble_eq_true rfl) dX7_skipBlanks_14 ⟨Nat.zero_le _, Nat.zero_le _⟩ (fun H locs hd hS => ?_)
    refine lv_bipush (v := 32) hx hb dX7_skipBlanks_17 (by decide) ?_
    refine lv_icmp_ne (tgt := 38) hx hb dX7_skipBlanks_19 (by decide) (fun q5 => ?_) (fun q5 => ?_)
    · have h := if_n q5 h
      obtain rfl := sv_e h
      exact rt_v hx hb hr hlk hd hS dX7_skipBlanks_38
    · have h := if_y q5 h
      refine lv_aload_n hx hb dX7_skipBlanks_22 rfl (lv_at hl 0 rfl) ?_
      refine lv_dup hx hb dX7_skipBlanks_23 rfl ?_
      refine r_geti hx hb hts (fun w h => List.mem_cons_of_mem _ (List.mem_append_right _ (h))) hown hK hd hk_a0 rfl 4 fs_7_4 (hts (.fieldLink RX7 30 "LevelVotes$Text" "at" "I") (List.mem_of_getElem? (i := 1) rfl)) dX7_skipBlanks_24 ?_
      refine lv_iconst (v := 1) hx hb dX7_skipBlanks_27 (by decide) ?_
      refine lv_iadd hx hb dX7_skipBlanks_28 ?_
      refine r_puti hx hb hts (fun w h => List.mem_cons_of_mem _ (List.mem_append_right _ (h))) tyX7 tyX7_ok nmX7 hown hK hd hS hk_a0 rfl 4 fs_7_4 rfl (hts (.fieldLink RX7 30 "LevelVotes$Text" "at" "I") (List.mem_of_getElem? (i := 1) rfl)) (vp_nar_int _) rfl dX7_skipBlanks_29 (fun μ6 eμ6 H locs hd hS => ?_)
      have h := bM_e eμ6 h
      refine lv_iinc (v := x1 + (1 : Int32)) (lv' := [(1, .int (x1 + (1 : Int32))), (0, .ref (z + a0))]) hx hb dX7_skipBlanks_32 hl (k := 1) rfl rfl (by decide) rfl (fun ls hl => ?_)
      refine lv_goto (tgt := 2) hx hb dX7_skipBlanks_35 (by decide) ?_
      exact hrc2 _ _ _ _ _ _ hk_a0 hd hS (lv_sub hl [1, 0] rfl) h
def f_X7_skipBlanks_L2 : Nat → Mm → Nat → Int32 → Option Mm
  | 0 => fun _ _ _ => none
  | n + 1 => fun μ a0 x1 => f_X7_skipBlanks_L2b (f_X7_skipBlanks_L2 n) μ a0 x1
theorem k_f_X7_skipBlanks_L2 {l : Launch} {D : va_G} {cA : Nat → ClassId} {z : Nat} {av : List Value} {p : Program} {e : Env} {s : State} {m : MethodId} {below : List Frame} {meth : Method} {c : Code} {μ' : Mm} (X : Fx D cA RX7 wsX7_skipBlanks cX7_skipBlanks 2 none p s m av.toArray meth c) (n : Nat) : HL_X7_skipBlanks_2 l D cA z av μ' p e s m below meth c (f_X7_skipBlanks_L2 n) := by
  induction n with
  | zero => intro _ _ _ _ _ _ _ _ _ _ h; have h2 : (none : Option _) = some _ := h; cases h2
  | succ n ih => intro μ H locs ls a0 x1 hk_a0 hd hS hl h; exact k_f_X7_skipBlanks_L2b X ih hk_a0 hd hS hl h
def f_X7_skipBlanks (μ : Mm) (a0 : Nat) : Option Mm := f_X7_skipBlanks_L2 FU μ a0 (0 : Int32)
set_option maxRecDepth 100000 in
theorem c_X7_skipBlanks {l : Launch} {D : va_G} {cA : Nat → ClassId} {z : Nat} {μ : Mm} {a0 : Nat} {μ' : Mm} (hk_a0 : kd a0 = 7) (h : f_X7_skipBlanks μ a0 = some μ') : Ct l D cA z yX7_skipBlanks wsX7_skipBlanks 1 21 [.ref (z + a0)] μ none μ' := by
  refine m_in (cc := cX7_skipBlanks) (maxL := 2) (ret := none) (own := RX7) (by decide) rfl rfl (Nat.le_of_ble_eq_true rfl) ?_
  intro p e s m below meth c ls X hd hS hl
  obtain ⟨hx, hb, hr, hlk, hml, hown, hts, hK⟩ := id X
  have hl : lv_has ls 2 [(0, .ref (z + a0))] := hl
  unfold f_X7_skipBlanks at h
  refine lv_iconst (v := 0) hx hb dX7_skipBlanks_0 (by decide) ?_
  refine lv_istore_n (lv' := [(1, .int (0 : Int32)), (0, .ref (z + a0))]) hx hb dX7_skipBlanks_1 rfl hl (by decide) rfl (fun ls hl => ?_)
  exact k_f_X7_skipBlanks_L2 X FU _ _ _ _ _ _ hk_a0 hd hS (lv_sub hl [1, 0] rfl) h
theorem hn_X7_flawOfWord : yX7_flawOfWord.cls ≠ "java/lang/invoke/MethodHandle" ∧ yX7_flawOfWord.cls ≠ "java/lang/invoke/VarHandle" ∧ (parseMethodDescriptor yX7_flawOfWord.desc).map (fun d => d.parameters.length) = some 2 := by decide +kernel
def f_X7_flawOfWord (μ : Mm) (x0 : Int32) (a1 : Nat) : Option (Int32 × Mm) := bC (f_X4_isThere μ a1) (fun r2 μ1 => if r2 = 0 then (if x0 = (104 : Int32) then (some ((0 : Int32), μ1)) else (some ((1 : Int32), μ1))) else (if x0 = 103 then (if (μ1.1 a1 5) ≤ 0 then (some ((0 : Int32), μ1)) else (some ((3 : Int32), μ1))) else (if x0 = 104 then (some ((3 : Int32), μ1)) else (if x0 = 105 then (if (μ1.1 a1 3) < (5 : Int32) then (some ((0 : Int32), μ1)) else (some ((3 : Int32), μ1))) else (if x0 = 106 then (some ((1 : Int32), μ1)) else (if x0 = 107 then (some ((1 : Int32), μ1)) else (if x0 = 108 then (some ((1 : Int32), μ1)) else (if x0 = 109 then (some ((1 : Int32), μ1)) else (if x0 = 110 then (some ((1 : Int32), μ1)) else (if x0 = 111 then (some ((1 : Int32), μ1)) else (if x0 = 112 then (if (μ1.1 a1 4) < (7 : Int32) then (some ((0 : Int32), μ1)) else (some ((3 : Int32), μ1))) else (some ((1 : Int32), μ1)))))))))))))
set_option maxRecDepth 100000 in
theorem c_X7_flawOfWord {l : Launch} {D : va_G} {cA : Nat → ClassId} {z : Nat} {μ : Mm} {x0 : Int32} {a1 : Nat} {r : Int32} {μ' : Mm} (hk_a1 : kd a1 = 4) (h : f_X7_flawOfWord μ x0 a1 = some (r, μ')) : Ct l D cA z yX7_flawOfWord wsX7_flawOfWord 1 20 [.int x0, .ref (z + a1)] μ (some (.int r)) μ' := by
  refine m_in (cc := cX7_flawOfWord) (maxL := 2) (ret := (some .int)) (own := RX7) (by decide) rfl rfl (Nat.le_of_ble_eq_true rfl) ?_
  intro p e s m below meth c ls X hd hS hl
  obtain ⟨hx, hb, hr, hlk, hml, hown, hts, hK⟩ := id X
  have hl : lv_has ls 2 [(0, .int x0), (1, .ref (z + a1))] := hl
  unfold f_X7_flawOfWord at h
  refine lv_aload_n hx hb dX7_flawOfWord_0 rfl (lv_at hl 1 rfl) ?_
  obtain ⟨r2, μ1, hc3, h⟩ := bC_e h
  refine rc_Vi (rest := []) [] ⟨hx, hb, hml, hown, hts⟩ hK hd hS (c_X4_isThere hk_a1 hc3) (cwV 0 hts gX7_flawOfWord_X4_isThere rfl rfl rfl hv_X4_isThere ⟨Nat.le_of_ble_eq_true rfl, Nat.le_of_ble_eq_true rfl⟩) hk_a1 rfl rfl rfl rfl hl.1 rfl (Nat.le_of_ble_eq_true rfl) dX7_flawOfWord_1 ⟨Nat.zero_le _, Nat.zero_le _⟩ (fun H locs hd hS => ?_)
  refine lv_if_ne (tgt := 19) hx hb dX7_flawOfWord_4 (by decide) (fun q4 => ?_) (fun q4 => ?_)
  · have h := if_n q4 h
    refine lv_iload_n hx hb dX7_flawOfWord_19 rfl (lv_at hl 0 rfl) ?_
    by_cases q5 : x0 = 103
    · have h := if_y q5 h
      refine lv_tableIn (off := 58) (tgt := 78) hx hb dX7_flawOfWord_20 (by rw [q5]; decide) (by rw [q5]; decide) (by rw [q5]; rfl) (by decide) ?_
      refine lv_aload_n hx hb dX7_flawOfWord_78 rfl (lv_at hl 1 rfl) ?_
      refine r_geti hx hb hts (fun w h => List.mem_cons_of_mem _ (List.mem_append_right _ (h))) hown hK hd hk_a1 rfl 5 fs_4_5 (hts (.fieldLink RX7 71 "LevelVotes$House" "heightsTold" "I") (List.mem_of_getElem? (i := 1) rfl)) dX7_flawOfWord_79 ?_
      refine lv_if_le (tgt := 89) hx hb dX7_flawOfWord_82 (by decide) (fun q6 => ?_) (fun q6 => ?_)
      · have h := if_y q6 h
        refine lv_iconst (v := 0) hx hb dX7_flawOfWord_89 (by decide) ?_
        obtain ⟨rfl, rfl⟩ := so_e h
        exact rt_i hx hb hr hlk hd hS dX7_flawOfWord_90
      · have h := if_n q6 h
        refine lv_iconst (v := 3) hx hb dX7_flawOfWord_85 (by decide) ?_
        refine lv_goto (tgt := 90) hx hb dX7_flawOfWord_86 (by decide) ?_
        obtain ⟨rfl, rfl⟩ := so_e h
        exact rt_i hx hb hr hlk hd hS dX7_flawOfWord_90
    have h := if_n q5 h
    by_cases q7 : x0 = 104
    · have h := if_y q7 h
      refine lv_tableIn (off := 56) (tgt := 76) hx hb dX7_flawOfWord_20 (by rw [q7]; decide) (by rw [q7]; decide) (by rw [q7]; rfl) (by decide) ?_
      refine lv_iconst (v := 3) hx hb dX7_flawOfWord_76 (by decide) ?_
      obtain ⟨rfl, rfl⟩ := so_e h
      exact rt_i hx hb hr hlk hd hS dX7_flawOfWord_77
    have h := if_n q7 h
    by_cases q8 : x0 = 105
    · have h := if_y q8 h
      refine lv_tableIn (off := 71) (tgt := 91) hx hb dX7_flawOfWord_20 (by rw [q8]; decide) (by rw [q8]; decide) (by rw [q8]; rfl) (by decide) ?_
      refine lv_aload_n hx hb dX7_flawOfWord_91 rfl (lv_at hl 1 rfl) ?_
      refine r_geti hx hb hts (fun w h => List.mem_cons_of_mem _ (List.mem_append_right _ (h))) hown hK hd hk_a1 rfl 3 fs_4_3 (hts (.fieldLink RX7 74 "LevelVotes$House" "items" "I") (List.mem_of_getElem? (i := 2) rfl)) dX7_flawOfWord_92 ?_
      refine lv_iconst (v := 5) hx hb dX7_flawOfWord_95 (by decide) ?_
      refine lv_icmp_lt (tgt := 103) hx hb dX7_flawOfWord_96 (by decide) (fun q9 => ?_) (fun q9 => ?_)
      · have h := if_y q9 h
        refine lv_iconst (v := 0) hx hb dX7_flawOfWord_103 (by decide) ?_
        obtain ⟨rfl, rfl⟩ := so_e h
        exact rt_i hx hb hr hlk hd hS dX7_flawOfWord_104
      · have h := if_n q9 h
        refine lv_iconst (v := 3) hx hb dX7_flawOfWord_99 (by decide) ?_
        refine lv_goto (tgt := 104) hx hb dX7_flawOfWord_100 (by decide) ?_
        obtain ⟨rfl, rfl⟩ := so_e h
        exact rt_i hx hb hr hlk hd hS dX7_flawOfWord_104
    have h := if_n q8 h
    by_cases q10 : x0 = 106
    · have h := if_y q10 h
      refine lv_tableIn (off := 100) (tgt := 120) hx hb dX7_flawOfWord_20 (by rw [q10]; decide) (by rw [q10]; decide) (by rw [q10]; rfl) (by decide) ?_
      refine lv_iconst (v := 1) hx hb dX7_flawOfWord_120 (by decide) ?_
      obtain ⟨rfl, rfl⟩ := so_e h
      exact rt_i hx hb hr hlk hd hS dX7_flawOfWord_121
    have h := if_n q10 h
    by_cases q11 : x0 = 107
    · have h := if_y q11 h
      refine lv_tableIn (off := 100) (tgt := 120) hx hb dX7_flawOfWord_20 (by rw [q11]; decide) (by rw [q11]; decide) (by rw [q11]; rfl) (by decide) ?_
      refine lv_iconst (v := 1) hx hb dX7_flawOfWord_120 (by decide) ?_
      obtain ⟨rfl, rfl⟩ := so_e h
      exact rt_i hx hb hr hlk hd hS dX7_flawOfWord_121
    have h := if_n q11 h
    by_cases q12 : x0 = 108
    · have h := if_y q12 h
      refine lv_tableIn (off := 100) (tgt := 120) hx hb dX7_flawOfWord_20 (by rw [q12]; decide) (by rw [q12]; decide) (by rw [q12]; rfl) (by decide) ?_
      refine lv_iconst (v := 1) hx hb dX7_flawOfWord_120 (by decide) ?_
      obtain ⟨rfl, rfl⟩ := so_e h
      exact rt_i hx hb hr hlk hd hS dX7_flawOfWord_121
    have h := if_n q12 h
    by_cases q13 : x0 = 109
    · have h := if_y q13 h
      refine lv_tableIn (off := 100) (tgt := 120) hx hb dX7_flawOfWord_20 (by rw [q13]; decide) (by rw [q13]; decide) (by rw [q13]; rfl) (by decide) ?_
      refine lv_iconst (v := 1) hx hb dX7_flawOfWord_120 (by decide) ?_
      obtain ⟨rfl, rfl⟩ := so_e h
      exact rt_i hx hb hr hlk hd hS dX7_flawOfWord_121
    have h := if_n q13 h
    by_cases q14 : x0 = 110
    · have h := if_y q14 h
      refine lv_tableIn (off := 100) (tgt := 120) hx hb dX7_flawOfWord_20 (by rw [q14]; decide) (by rw [q14]; decide) (by rw [q14]; rfl) (by decide) ?_
      refine lv_iconst (v := 1) hx hb dX7_flawOfWord_120 (by decide) ?_
      obtain ⟨rfl, rfl⟩ := so_e h
      exact rt_i hx hb hr hlk hd hS dX7_flawOfWord_121
    have h := if_n q14 h
    by_cases q15 : x0 = 111
    · have h := if_y q15 h
      refine lv_tableIn (off := 100) (tgt := 120) hx hb dX7_flawOfWord_20 (by rw [q15]; decide) (by rw [q15]; decide) (by rw [q15]; rfl) (by decide) ?_
      refine lv_iconst (v := 1) hx hb dX7_flawOfWord_120 (by decide) ?_
      obtain ⟨rfl, rfl⟩ := so_e h
      exact rt_i hx hb hr hlk hd hS dX7_flawOfWord_121
    have h := if_n q15 h
    by_cases q16 : x0 = 112
    · have h := if_y q16 h
      refine lv_tableIn (off := 85) (tgt := 105) hx hb dX7_flawOfWord_20 (by rw [q16]; decide) (by rw [q16]; decide) (by rw [q16]; rfl) (by decide) ?_
      refine lv_aload_n hx hb dX7_flawOfWord_105 rfl (lv_at hl 1 rfl) ?_
      refine r_geti hx hb hts (fun w h => List.mem_cons_of_mem _ (List.mem_append_right _ (h))) hown hK hd hk_a1 rfl 4 fs_4_4 (hts (.fieldLink RX7 77 "LevelVotes$House" "persons" "I") (List.mem_of_getElem? (i := 3) rfl)) dX7_flawOfWord_106 ?_
      refine lv_bipush (v := 7) hx hb dX7_flawOfWord_109 (by decide) ?_
      refine lv_icmp_lt (tgt := 118) hx hb dX7_flawOfWord_111 (by decide) (fun q17 => ?_) (fun q17 => ?_)
      · have h := if_y q17 h
        refine lv_iconst (v := 0) hx hb dX7_flawOfWord_118 (by decide) ?_
        obtain ⟨rfl, rfl⟩ := so_e h
        exact rt_i hx hb hr hlk hd hS dX7_flawOfWord_119
      · have h := if_n q17 h
        refine lv_iconst (v := 3) hx hb dX7_flawOfWord_114 (by decide) ?_
        refine lv_goto (tgt := 119) hx hb dX7_flawOfWord_115 (by decide) ?_
        obtain ⟨rfl, rfl⟩ := so_e h
        exact rt_i hx hb hr hlk hd hS dX7_flawOfWord_119
    have h := if_n q16 h
    refine lv_tableOut (tgt := 120) hx hb dX7_flawOfWord_20 (sw_out 103 10 rfl rfl (by decide) (fun k hk => match k, hk with | 0, _ => q5 | 1, _ => q7 | 2, _ => q8 | 3, _ => q10 | 4, _ => q11 | 5, _ => q12 | 6, _ => q13 | 7, _ => q14 | 8, _ => q15 | 9, _ => q16 | k + 10, hk => absurd hk (by omega))) (by decide) ?_
    refine lv_iconst (v := 1) hx hb dX7_flawOfWord_120 (by decide) ?_
    obtain ⟨rfl, rfl⟩ := so_e h
    exact rt_i hx hb hr hlk hd hS dX7_flawOfWord_121
  · have h := if_y q4 h
    refine lv_iload_n hx hb dX7_flawOfWord_7 rfl (lv_at hl 0 rfl) ?_
    refine lv_bipush (v := 104) hx hb dX7_flawOfWord_8 (by decide) ?_
    refine lv_icmp_ne (tgt := 17) hx hb dX7_flawOfWord_10 (by decide) (fun q18 => ?_) (fun q18 => ?_)
    · have h := if_n q18 h
      refine lv_iconst (v := 1) hx hb dX7_flawOfWord_17 (by decide) ?_
      obtain ⟨rfl, rfl⟩ := so_e h
      exact rt_i hx hb hr hlk hd hS dX7_flawOfWord_18
    · have h := if_y q18 h
      refine lv_iconst (v := 0) hx hb dX7_flawOfWord_13 (by decide) ?_
      refine lv_goto (tgt := 18) hx hb dX7_flawOfWord_14 (by decide) ?_
      obtain ⟨rfl, rfl⟩ := so_e h
      exact rt_i hx hb hr hlk hd hS dX7_flawOfWord_18
theorem hv_X7_fail : yX7_fail.cls = RX7 ∧ yX7_fail.cls ≠ "java/lang/invoke/MethodHandle" ∧ yX7_fail.cls ≠ "java/lang/invoke/VarHandle" ∧ (parseMethodDescriptor yX7_fail.desc).map (fun d => d.parameters.length) = some 2 := by decide +kernel
def f_X7_fail (μ : Mm) (a0 : Nat) (x1 : Int32) (x2 : Int32) : Option Mm := if (μ.1 a0 3) = 0 then (bM (up2 μ.1 a0 3 x1, μ.2) (fun μ2 => bM (up2 μ2.1 a0 2 x2, μ2.2) (fun μ3 => some μ3))) else (some μ)
set_option maxRecDepth 100000 in
theorem c_X7_fail {l : Launch} {D : va_G} {cA : Nat → ClassId} {z : Nat} {μ : Mm} {a0 : Nat} {x1 : Int32} {x2 : Int32} {μ' : Mm} (hk_a0 : kd a0 = 7) (h : f_X7_fail μ a0 x1 x2 = some μ') : Ct l D cA z yX7_fail wsX7_fail 0 0 [.ref (z + a0), .int x1, .int x2] μ none μ' := by
  refine m_in (cc := cX7_fail) (maxL := 3) (ret := none) (own := RX7) (by decide) rfl rfl (Nat.le_of_ble_eq_true rfl) ?_
  intro p e s m below meth c ls X hd hS hl
  obtain ⟨hx, hb, hr, hlk, hml, hown, hts, hK⟩ := id X
  have hl : lv_has ls 3 [(0, .ref (z + a0)), (1, .int x1), (2, .int x2)] := hl
  unfold f_X7_fail at h
  refine lv_aload_n hx hb dX7_fail_0 rfl (lv_at hl 0 rfl) ?_
  refine r_geti hx hb hts (fun w h => List.mem_cons_of_mem _ (List.mem_append_right _ (h))) hown hK hd hk_a0 rfl 3 fs_7_3 (hts (.fieldLink RX7 27 "LevelVotes$Text" "flaw" "I") (List.mem_of_getElem? (i := 1) rfl)) dX7_fail_1 ?_
  refine lv_if_ne (tgt := 17) hx hb dX7_fail_4 (by decide) (fun q1 => ?_) (fun q1 => ?_)
  · have h := if_n q1 h
    obtain rfl := sv_e h
    exact rt_v hx hb hr hlk hd hS dX7_fail_17
  · have h := if_y q1 h
    refine lv_aload_n hx hb dX7_fail_7 rfl (lv_at hl 0 rfl) ?_
    refine lv_iload_n hx hb dX7_fail_8 rfl (lv_at hl 1 rfl) ?_
    refine r_puti hx hb hts (fun w h => List.mem_cons_of_mem _ (List.mem_append_right _ (h))) tyX7 tyX7_ok nmX7 hown hK hd hS hk_a0 rfl 3 fs_7_3 rfl (hts (.fieldLink RX7 27 "LevelVotes$Text" "flaw" "I") (List.mem_of_getElem? (i := 1) rfl)) (vp_nar_int _) rfl dX7_fail_9 (fun μ2 eμ2 H locs hd hS => ?_)
    have h := bM_e eμ2 h
    refine lv_aload_n hx hb dX7_fail_12 rfl (lv_at hl 0 rfl) ?_
    refine lv_iload_n hx hb dX7_fail_13 rfl (lv_at hl 2 rfl) ?_
    refine r_puti hx hb hts (fun w h => List.mem_cons_of_mem _ (List.mem_append_right _ (h))) tyX7 tyX7_ok nmX7 hown hK hd hS hk_a0 rfl 2 fs_7_2 rfl (hts (.fieldLink RX7 15 "LevelVotes$Text" "flawAt" "I") (List.mem_of_getElem? (i := 2) rfl)) (vp_nar_int _) rfl dX7_fail_14 (fun μ3 eμ3 H locs hd hS => ?_)
    have h := bM_e eμ3 h
    obtain rfl := sv_e h
    exact rt_v hx hb hr hlk hd hS dX7_fail_17
theorem hn_X7_isFigure : yX7_isFigure.cls ≠ "java/lang/invoke/MethodHandle" ∧ yX7_isFigure.cls ≠ "java/lang/invoke/VarHandle" ∧ (parseMethodDescriptor yX7_isFigure.desc).map (fun d => d.parameters.length) = some 1 := by decide +kernel
def f_X7_isFigure (μ : Mm) (x0 : Int32) : Option (Int32 × Mm) := if x0 < (48 : Int32) then (some ((0 : Int32), μ)) else (if (57 : Int32) < x0 then (some ((0 : Int32), μ)) else (some ((1 : Int32), μ)))
set_option maxRecDepth 100000 in
theorem c_X7_isFigure {l : Launch} {D : va_G} {cA : Nat → ClassId} {z : Nat} {μ : Mm} {x0 : Int32} {r : Int32} {μ' : Mm} (h : f_X7_isFigure μ x0 = some (r, μ')) : Ct l D cA z yX7_isFigure wsX7_isFigure 0 0 [.int x0] μ (some (.int r)) μ' := by
  refine m_in (cc := cX7_isFigure) (maxL := 1) (ret := (some .boolean)) (own := RX7) (by decide) rfl rfl (Nat.le_of_ble_eq_true rfl) ?_
  intro p e s m below meth c ls X hd hS hl
  obtain ⟨hx, hb, hr, hlk, hml, hown, hts, hK⟩ := id X
  have hl : lv_has ls 1 [(0, .int x0)] := hl
  unfold f_X7_isFigure at h
  refine lv_iload_n hx hb dX7_isFigure_0 rfl (lv_at hl 0 rfl) ?_
  refine lv_bipush (v := 48) hx hb dX7_isFigure_1 (by decide) ?_
  refine lv_icmp_lt (tgt := 16) hx hb dX7_isFigure_3 (by decide) (fun q1 => ?_) (fun q1 => ?_)
  · have h := if_y q1 h
    refine lv_iconst (v := 0) hx hb dX7_isFigure_16 (by decide) ?_
    obtain ⟨rfl, rfl⟩ := so_e h
    exact rt_z hx hb hr rfl hlk hd hS dX7_isFigure_17
  · have h := if_n q1 h
    refine lv_iload_n hx hb dX7_isFigure_6 rfl (lv_at hl 0 rfl) ?_
    refine lv_bipush (v := 57) hx hb dX7_isFigure_7 (by decide) ?_
    refine lv_icmp_gt (tgt := 16) hx hb dX7_isFigure_9 (by decide) (fun q2 => ?_) (fun q2 => ?_)
    · have h := if_y q2 h
      refine lv_iconst (v := 0) hx hb dX7_isFigure_16 (by decide) ?_
      obtain ⟨rfl, rfl⟩ := so_e h
      exact rt_z hx hb hr rfl hlk hd hS dX7_isFigure_17
    · have h := if_n q2 h
      refine lv_iconst (v := 1) hx hb dX7_isFigure_12 (by decide) ?_
      refine lv_goto (tgt := 17) hx hb dX7_isFigure_13 (by decide) ?_
      obtain ⟨rfl, rfl⟩ := so_e h
      exact rt_z hx hb hr rfl hlk hd hS dX7_isFigure_17
theorem hv_X7_readFigures : yX7_readFigures.cls = RX7 ∧ yX7_readFigures.cls ≠ "java/lang/invoke/MethodHandle" ∧ yX7_readFigures.cls ≠ "java/lang/invoke/VarHandle" ∧ (parseMethodDescriptor yX7_readFigures.desc).map (fun d => d.parameters.length) = some 0 := by decide +kernel
abbrev HL_X7_readFigures_10 (l : Launch) (D : va_G) (cA : Nat → ClassId) (z : Nat) (av : List Value) (r : Int32) (μ' : Mm) (p : Program) (e : Env) (s : State) (m : MethodId) (below : List Frame) (meth : Method) (c : Code) (rc : Mm → Nat → Int32 → Option (Int32 × Mm)) : Prop := ∀ (μ : Mm) (H : Heap) (locs : List Loc) (ls : Array Slot) (a0 : Nat) (x1 : Int32), kd a0 = 7 → Wd D cA z μ H → va_S (Az z) s.heap H locs → lv_has ls 2 [(0, .ref (z + a0)), (1, .int x1)] → rc μ a0 x1 = some (r, μ') → WG l D cA z wsX7_readFigures 1 22 av (some (.int r)) μ' p e s m below meth c H locs (F0 m 10 ls [])
def f_X7_readFigures_j67 (μ : Mm) (a0 : Nat) : Option (Int32 × Mm) := some ((μ.1 a0 4) - (μ.1 a0 5), μ)
set_option maxRecDepth 100000 in
theorem k_f_X7_readFigures_j67 {l : Launch} {D : va_G} {cA : Nat → ClassId} {z : Nat} {av : List Value} {p : Program} {e : Env} {s : State} {m : MethodId} {below : List Frame} {meth : Method} {c : Code} {r : Int32} {μ' : Mm} (X : Fx D cA RX7 wsX7_readFigures cX7_readFigures 2 (some .int) p s m av.toArray meth c) {μ : Mm} {a0 : Nat} (hk_a0 : kd a0 = 7) {H : Heap} {locs : List Loc} {ls : Array Slot} (hd : Wd D cA z μ H) (hS : va_S (Az z) s.heap H locs) (hl : lv_has ls 2 [(0, .ref (z + a0))]) (h : f_X7_readFigures_j67 μ a0 = some (r, μ')) : WG l D cA z wsX7_readFigures 1 22 av (some (.int r)) μ' p e s m below meth c H locs (F0 m 67 ls []) := by
  obtain ⟨hx, hb, hr, hlk, hml, hown, hts, hK⟩ := id X
  unfold f_X7_readFigures_j67 at h
  refine lv_aload_n hx hb dX7_readFigures_67 rfl (lv_at hl 0 rfl) ?_
  refine r_geti hx hb hts (fun w h => List.mem_cons_of_mem _ (List.mem_append_right _ (h))) hown hK hd hk_a0 rfl 4 fs_7_4 (hts (.fieldLink RX7 30 "LevelVotes$Text" "at" "I") (List.mem_of_getElem? (i := 1) rfl)) dX7_readFigures_68 ?_
  refine lv_aload_n hx hb dX7_readFigures_71 rfl (lv_at hl 0 rfl) ?_
  refine r_geti hx hb hts (fun w h => List.mem_cons_of_mem _ (List.mem_append_right _ (h))) hown hK hd hk_a0 rfl 5 fs_7_5 (hts (.fieldLink RX7 98 "LevelVotes$Text" "numberAt" "I") (List.mem_of_getElem? (i := 2) rfl)) dX7_readFigures_72 ?_
  refine lv_isub hx hb dX7_readFigures_75 ?_
  obtain ⟨rfl, rfl⟩ := so_e h
  exact rt_i hx hb hr hlk hd hS dX7_readFigures_76
def f_X7_readFigures_j47 (μ : Mm) (a0 : Nat) : Option (Int32 × Mm) := if (μ.1 a0 4) = (μ.1 a0 5) then (bV (f_X7_fail μ a0 (1 : Int32) (μ.1 a0 4)) (fun μ2 => f_X7_readFigures_j67 μ2 a0)) else (f_X7_readFigures_j67 μ a0)
set_option maxRecDepth 100000 in
theorem k_f_X7_readFigures_j47 {l : Launch} {D : va_G} {cA : Nat → ClassId} {z : Nat} {av : List Value} {p : Program} {e : Env} {s : State} {m : MethodId} {below : List Frame} {meth : Method} {c : Code} {r : Int32} {μ' : Mm} (X : Fx D cA RX7 wsX7_readFigures cX7_readFigures 2 (some .int) p s m av.toArray meth c) {μ : Mm} {a0 : Nat} (hk_a0 : kd a0 = 7) {H : Heap} {locs : List Loc} {ls : Array Slot} (hd : Wd D cA z μ H) (hS : va_S (Az z) s.heap H locs) (hl : lv_has ls 2 [(0, .ref (z + a0))]) (h : f_X7_readFigures_j47 μ a0 = some (r, μ')) : WG l D cA z wsX7_readFigures 1 22 av (some (.int r)) μ' p e s m below meth c H locs (F0 m 47 ls []) := by
  obtain ⟨hx, hb, hr, hlk, hml, hown, hts, hK⟩ := id X
  unfold f_X7_readFigures_j47 at h
  refine lv_aload_n hx hb dX7_readFigures_47 rfl (lv_at hl 0 rfl) ?_
  refine r_geti hx hb hts (fun w h => List.mem_cons_of_mem _ (List.mem_append_right _ (h))) hown hK hd hk_a0 rfl 4 fs_7_4 (hts (.fieldLink RX7 30 "LevelVotes$Text" "at" "I") (List.mem_of_getElem? (i := 1) rfl)) dX7_readFigures_48 ?_
  refine lv_aload_n hx hb dX7_readFigures_51 rfl (lv_at hl 0 rfl) ?_
  refine r_geti hx hb hts (fun w h => List.mem_cons_of_mem _ (List.mem_append_right _ (h))) hown hK hd hk_a0 rfl 5 fs_7_5 (hts (.fieldLink RX7 98 "LevelVotes$Text" "numberAt" "I") (List.mem_of_getElem? (i := 2) rfl)) dX7_readFigures_52 ?_
  refine lv_icmp_ne (tgt := 67) hx hb dX7_readFigures_55 (by decide) (fun q1 => ?_) (fun q1 => ?_)
  · have h := if_n q1 h
    exact k_f_X7_readFigures_j67 X hk_a0 hd hS (lv_sub hl [0] rfl) h
  · have h := if_y q1 h
    refine lv_aload_n hx hb dX7_readFigures_58 rfl (lv_at hl 0 rfl) ?_
    refine lv_iconst (v := 1) hx hb dX7_readFigures_59 (by decide) ?_
    refine lv_aload_n hx hb dX7_readFigures_60 rfl (lv_at hl 0 rfl) ?_
    refine r_geti hx hb hts (fun w h => List.mem_cons_of_mem _ (List.mem_append_right _ (h))) hown hK hd hk_a0 rfl 4 fs_7_4 (hts (.fieldLink RX7 30 "LevelVotes$Text" "at" "I") (List.mem_of_getElem? (i := 1) rfl)) dX7_readFigures_61 ?_
    obtain ⟨μ2, hc4, h⟩ := bV_e h
    refine rc_Vv (rest := []) [.int (1 : Int32), .int (μ.1 a0 4)] ⟨hx, hb, hml, hown, hts⟩ hK hd hS (c_X7_fail hk_a0 hc4) (cwV 2 hts gX7_readFigures_X7_fail rfl rfl rfl hv_X7_fail ⟨Nat.le_of_ble_eq_true rfl, Nat.le_of_ble_eq_true rfl⟩) hk_a0 rfl rfl rfl rfl hl.1 rfl (Nat.le_of_ble_eq_true rfl) dX7_readFigures_64 ⟨Nat.zero_le _, Nat.zero_le _⟩ (fun H locs hd hS => ?_)
    exact k_f_X7_readFigures_j67 X hk_a0 hd hS (lv_sub hl [0] rfl) h
def f_X7_readFigures_L10b (rc10 : Mm → Nat → Int32 → Option (Int32 × Mm)) (μ : Mm) (a0 : Nat) (x1 : Int32) : Option (Int32 × Mm) := if (240 : Int32) ≤ x1 then (f_X7_readFigures_j47 μ a0) else (bC (f_X7_letterAt μ a0 (μ.1 a0 4)) (fun r3 μ2 => bC (f_X7_isFigure μ2 r3) (fun r6 μ5 => if r6 = 0 then (f_X7_readFigures_j47 μ5 a0) else (bM (up2 μ5.1 a0 4 ((μ5.1 a0 4) + (1 : Int32)), μ5.2) (fun μ9 => rc10 μ9 a0 (x1 + (1 : Int32)))))))
set_option maxRecDepth 100000 in
theorem k_f_X7_readFigures_L10b {l : Launch} {D : va_G} {cA : Nat → ClassId} {z : Nat} {av : List Value} {p : Program} {e : Env} {s : State} {m : MethodId} {below : List Frame} {meth : Method} {c : Code} {r : Int32} {μ' : Mm} (X : Fx D cA RX7 wsX7_readFigures cX7_readFigures 2 (some .int) p s m av.toArray meth c) {rc10 : Mm → Nat → Int32 → Option (Int32 × Mm)} (hrc10 : HL_X7_readFigures_10 l D cA z av r μ' p e s m below meth c rc10) {μ : Mm} {a0 : Nat} {x1 : Int32} (hk_a0 : kd a0 = 7) {H : Heap} {locs : List Loc} {ls : Array Slot} (hd : Wd D cA z μ H) (hS : va_S (Az z) s.heap H locs) (hl : lv_has ls 2 [(0, .ref (z + a0)), (1, .int x1)]) (h : f_X7_readFigures_L10b rc10 μ a0 x1 = some (r, μ')) : WG l D cA z wsX7_readFigures 1 22 av (some (.int r)) μ' p e s m below meth c H locs (F0 m 10 ls []) := by
  obtain ⟨hx, hb, hr, hlk, hml, hown, hts, hK⟩ := id X
  unfold f_X7_readFigures_L10b at h
  refine lv_iload_n hx hb dX7_readFigures_10 rfl (lv_at hl 1 rfl) ?_
  refine lv_sipush (v := 240) hx hb dX7_readFigures_11 (by decide) ?_
  refine lv_icmp_ge (tgt := 47) hx hb dX7_readFigures_14 (by decide) (fun q1 => ?_) (fun q1 => ?_)
  · have h := if_y q1 h
    exact k_f_X7_readFigures_j47 X hk_a0 hd hS (lv_sub hl [0] rfl) h
  · have h := if_n q1 h
    refine lv_aload_n hx hb dX7_readFigures_17 rfl (lv_at hl 0 rfl) ?_
    refine lv_aload_n hx hb dX7_readFigures_18 rfl (lv_at hl 0 rfl) ?_
    refine r_geti hx hb hts (fun w h => List.mem_cons_of_mem _ (List.mem_append_right _ (h))) hown hK hd hk_a0 rfl 4 fs_7_4 (hts (.fieldLink RX7 30 "LevelVotes$Text" "at" "I") (List.mem_of_getElem? (i := 1) rfl)) dX7_readFigures_19 ?_
    obtain ⟨r3, μ2, hc4, h⟩ := bC_e h
    refine rc_Vi (rest := []) [.int (μ.1 a0 4)] ⟨hx, hb, hml, hown, hts⟩ hK hd hS (c_X7_letterAt hk_a0 hc4) (cwV 1 hts gX7_readFigures_X7_letterAt rfl rfl rfl hv_X7_letterAt ⟨Nat.le_of_ble_eq_true rfl, Nat.le_of_ble_eq_true rfl⟩) hk_a0 rfl rfl rfl rfl hl.1 rfl (Nat.le_of_ble_eq_true rfl) dX7_readFigures_22 ⟨Nat.zero_le _, Nat.zero_le _⟩ (fun H locs hd hS => ?_)
    obtain ⟨r6, μ5, hc7, h⟩ := bC_e h
    refine rc_Si (rest := []) [.int r3] ⟨hx, hb, hml, hown, hts⟩ hK hd hS (c_X7_isFigure  hc7) (va_cwS 1 hts gX7_readFigures_X7_isFigure rfl rfl rfl hn_X7_isFigure ⟨Nat.le_of_ble_eq_true rfl, Nat.le_of_ble_eq_true rfl⟩) rfl hl.1 rfl (Nat.le_of_ble_eq_true rfl) dX7_readFigures_25 ⟨Nat.zero_le _, Nat.zero_le _⟩ (fun H locs hd hS => ?_)
    refine lv_if_eq (tgt := 47) hx hb dX7_readFigures_28 (by decide) (fun q8 => ?_) (fun q8 => ?_)
    · have h := if_y q8 h
      exact k_f_X7_readFigures_j47 X hk_a0 hd hS (lv_sub hl [0] rfl) h
    · have h := if_n q8 h
      refine lv_aload_n hx hb dX7_readFigures_31 rfl (lv_at hl 0 rfl) ?_
      refine lv_dup hx hb dX7_readFigures_32 rfl ?_
      refine r_geti hx hb hts (fun w h => List.mem_cons_of_mem _ (List.mem_append_right _ (h))) hown hK hd hk_a0 rfl 4 fs_7_4 (hts (.fieldLink RX7 30 "LevelVotes$Text" "at" "I") (List.mem_of_getElem? (i := 1) rfl)) dX7_readFigures_33 ?_
      refine lv_iconst (v := 1) hx hb dX7_readFigures_36 (by decide) ?_
      refine lv_iadd hx hb dX7_readFigures_37 ?_
      refine r_puti hx hb hts (fun w h => List.mem_cons_of_mem _ (List.mem_append_right _ (h))) tyX7 tyX7_ok nmX7 hown hK hd hS hk_a0 rfl 4 fs_7_4 rfl (hts (.fieldLink RX7 30 "LevelVotes$Text" "at" "I") (List.mem_of_getElem? (i := 1) rfl)) (vp_nar_int _) rfl dX7_readFigures_38 (fun μ9 eμ9 H locs hd hS => ?_)
      have h := bM_e eμ9 h
      refine lv_iinc (v := x1 + (1 : Int32)) (lv' := [(1, .int (x1 + (1 : Int32))), (0, .ref (z + a0))]) hx hb dX7_readFigures_41 hl (k := 1) rfl rfl (by decide) rfl (fun ls hl => ?_)
      refine lv_goto (tgt := 10) hx hb dX7_readFigures_44 (by decide) ?_
      exact hrc10 _ _ _ _ _ _ hk_a0 hd hS (lv_sub hl [1, 0] rfl) h
def f_X7_readFigures_L10 : Nat → Mm → Nat → Int32 → Option (Int32 × Mm)
  | 0 => fun _ _ _ => none
  | n + 1 => fun μ a0 x1 => f_X7_readFigures_L10b (f_X7_readFigures_L10 n) μ a0 x1
theorem k_f_X7_readFigures_L10 {l : Launch} {D : va_G} {cA : Nat → ClassId} {z : Nat} {av : List Value} {p : Program} {e : Env} {s : State} {m : MethodId} {below : List Frame} {meth : Method} {c : Code} {r : Int32} {μ' : Mm} (X : Fx D cA RX7 wsX7_readFigures cX7_readFigures 2 (some .int) p s m av.toArray meth c) (n : Nat) : HL_X7_readFigures_10 l D cA z av r μ' p e s m below meth c (f_X7_readFigures_L10 n) := by
  induction n with
  | zero => intro _ _ _ _ _ _ _ _ _ _ h; have h2 : (none : Option _) = some _ := h; cases h2
  | succ n ih => intro μ H locs ls a0 x1 hk_a0 hd hS hl h; exact k_f_X7_readFigures_L10b X ih hk_a0 hd hS hl h
def f_X7_readFigures (μ : Mm) (a0 : Nat) : Option (Int32 × Mm) := bM (up2 μ.1 a0 5 (μ.1 a0 4), μ.2) (fun μ1 => f_X7_readFigures_L10 FU μ1 a0 (0 : Int32))
set_option maxRecDepth 100000 in
theorem c_X7_readFigures {l : Launch} {D : va_G} {cA : Nat → ClassId} {z : Nat} {μ : Mm} {a0 : Nat} {r : Int32} {μ' : Mm} (hk_a0 : kd a0 = 7) (h : f_X7_readFigures μ a0 = some (r, μ')) : Ct l D cA z yX7_readFigures wsX7_readFigures 1 22 [.ref (z + a0)] μ (some (.int r)) μ' := by
  refine m_in (cc := cX7_readFigures) (maxL := 2) (ret := (some .int)) (own := RX7) (by decide) rfl rfl (Nat.le_of_ble_eq_true rfl) ?_
  intro p e s m below meth c ls X hd hS hl
  obtain ⟨hx, hb, hr, hlk, hml, hown, hts, hK⟩ := id X
  have hl : lv_has ls 2 [(0, .ref (z + a0))] := hl
  unfold f_X7_readFigures at h
  refine lv_aload_n hx hb dX7_readFigures_0 rfl (lv_at hl 0 rfl) ?_
  refine lv_aload_n hx hb dX7_readFigures_1 rfl (lv_at hl 0 rfl) ?_
  refine r_geti hx hb hts (fun w h => List.mem_cons_of_mem _ (List.mem_append_right _ (h))) hown hK hd hk_a0 rfl 4 fs_7_4 (hts (.fieldLink RX7 30 "LevelVotes$Text" "at" "I") (List.mem_of_getElem? (i := 1) rfl)) dX7_readFigures_2 ?_
  refine r_puti hx hb hts (fun w h => List.mem_cons_of_mem _ (List.mem_append_right _ (h))) tyX7 tyX7_ok nmX7 hown hK hd hS hk_a0 rfl 5 fs_7_5 rfl (hts (.fieldLink RX7 98 "LevelVotes$Text" "numberAt" "I") (List.mem_of_getElem? (i := 2) rfl)) (vp_nar_int _) rfl dX7_readFigures_5 (fun μ1 eμ1 H locs hd hS => ?_)
  have h := bM_e eμ1 h
  refine lv_iconst (v := 0) hx hb dX7_readFigures_8 (by decide) ?_
  refine lv_istore_n (lv' := [(1, .int (0 : Int32)), (0, .ref (z + a0))]) hx hb dX7_readFigures_9 rfl hl (by decide) rfl (fun ls hl => ?_)
  exact k_f_X7_readFigures_L10 X FU _ _ _ _ _ _ hk_a0 hd hS (lv_sub hl [1, 0] rfl) h
theorem hv_X7_figureAt : yX7_figureAt.cls = RX7 ∧ yX7_figureAt.cls ≠ "java/lang/invoke/MethodHandle" ∧ yX7_figureAt.cls ≠ "java/lang/invoke/VarHandle" ∧ (parseMethodDescriptor yX7_figureAt.desc).map (fun d => d.parameters.length) = some 1 := by decide +kernel
def f_X7_figureAt (μ : Mm) (a0 : Nat) (x1 : Int32) : Option (Int32 × Mm) := bC (f_X7_letterAt μ a0 x1) (fun r2 μ1 => bC (f_X7_isFigure μ1 r2) (fun r5 μ4 => if r5 = 0 then (some ((-1 : Int32), μ4)) else (some (r2 - (48 : Int32), μ4))))
set_option maxRecDepth 100000 in
theorem c_X7_figureAt {l : Launch} {D : va_G} {cA : Nat → ClassId} {z : Nat} {μ : Mm} {a0 : Nat} {x1 : Int32} {r : Int32} {μ' : Mm} (hk_a0 : kd a0 = 7) (h : f_X7_figureAt μ a0 x1 = some (r, μ')) : Ct l D cA z yX7_figureAt wsX7_figureAt 1 21 [.ref (z + a0), .int x1] μ (some (.int r)) μ' := by
  refine m_in (cc := cX7_figureAt) (maxL := 3) (ret := (some .int)) (own := RX7) (by decide) rfl rfl (Nat.le_of_ble_eq_true rfl) ?_
  intro p e s m below meth c ls X hd hS hl
  obtain ⟨hx, hb, hr, hlk, hml, hown, hts, hK⟩ := id X
  have hl : lv_has ls 3 [(0, .ref (z + a0)), (1, .int x1)] := hl
  unfold f_X7_figureAt at h
  refine lv_aload_n hx hb dX7_figureAt_0 rfl (lv_at hl 0 rfl) ?_
  refine lv_iload_n hx hb dX7_figureAt_1 rfl (lv_at hl 1 rfl) ?_
  obtain ⟨r2, μ1, hc3, h⟩ := bC_e h
  refine rc_Vi (rest := []) [.int x1] ⟨hx, hb, hml, hown, hts⟩ hK hd hS (c_X7_letterAt hk_a0 hc3) (cwV 1 hts gX7_figureAt_X7_letterAt rfl rfl rfl hv_X7_letterAt ⟨Nat.le_of_ble_eq_true rfl, Nat.le_of_ble_eq_true rfl⟩) hk_a0 rfl rfl rfl rfl hl.1 rfl (Nat.le_of_ble_eq_true rfl) dX7_figureAt_2 ⟨Nat.zero_le _, Nat.zero_le _⟩ (fun H locs hd hS => ?_)
  refine lv_istore_n (lv' := [(2, .int r2), (0, .ref (z + a0)), (1, .int x1)]) hx hb dX7_figureAt_5 rfl hl (by decide) rfl (fun ls hl => ?_)
  refine lv_iload_n hx hb dX7_figureAt_6 rfl (lv_at hl 0 rfl) ?_
  obtain ⟨r5, μ4, hc6, h⟩ := bC_e h
  refine rc_Si (rest := []) [.int r2] ⟨hx, hb, hml, hown, hts⟩ hK hd hS (c_X7_isFigure  hc6) (va_cwS 1 hts gX7_figureAt_X7_isFigure rfl rfl rfl hn_X7_isFigure ⟨Nat.le_of_ble_eq_true rfl, Nat.le_of_ble_eq_true rfl⟩) rfl hl.1 rfl (Nat.le_of_ble_eq_true rfl) dX7_figureAt_7 ⟨Nat.zero_le _, Nat.zero_le _⟩ (fun H locs hd hS => ?_)
  refine lv_if_eq (tgt := 20) hx hb dX7_figureAt_10 (by decide) (fun q7 => ?_) (fun q7 => ?_)
  · have h := if_y q7 h
    refine lv_iconst (v := -1) hx hb dX7_figureAt_20 (by decide) ?_
    obtain ⟨rfl, rfl⟩ := so_e h
    exact rt_i hx hb hr hlk hd hS dX7_figureAt_21
  · have h := if_n q7 h
    refine lv_iload_n hx hb dX7_figureAt_13 rfl (lv_at hl 0 rfl) ?_
    refine lv_bipush (v := 48) hx hb dX7_figureAt_14 (by decide) ?_
    refine lv_isub hx hb dX7_figureAt_16 ?_
    refine lv_goto (tgt := 21) hx hb dX7_figureAt_17 (by decide) ?_
    obtain ⟨rfl, rfl⟩ := so_e h
    exact rt_i hx hb hr hlk hd hS dX7_figureAt_21
theorem hv_X7_readNumber : yX7_readNumber.cls = RX7 ∧ yX7_readNumber.cls ≠ "java/lang/invoke/MethodHandle" ∧ yX7_readNumber.cls ≠ "java/lang/invoke/VarHandle" ∧ (parseMethodDescriptor yX7_readNumber.desc).map (fun d => d.parameters.length) = some 2 := by decide +kernel
abbrev HL_X7_readNumber_24 (l : Launch) (D : va_G) (cA : Nat → ClassId) (z : Nat) (av : List Value) (r : Int32) (μ' : Mm) (p : Program) (e : Env) (s : State) (m : MethodId) (below : List Frame) (meth : Method) (c : Code) (rc : Mm → Nat → Int32 → Int32 → Int32 → Int32 → Int32 → Option (Int32 × Mm)) : Prop := ∀ (μ : Mm) (H : Heap) (locs : List Loc) (ls : Array Slot) (a0 : Nat) (x1 : Int32) (x2 : Int32) (x3 : Int32) (x4 : Int32) (x5 : Int32), kd a0 = 7 → Wd D cA z μ H → va_S (Az z) s.heap H locs → lv_has ls 6 [(0, .ref (z + a0)), (1, .int x1), (2, .int x2), (3, .int x3), (4, .int x4), (5, .int x5)] → rc μ a0 x1 x2 x3 x4 x5 = some (r, μ') → WG l D cA z wsX7_readNumber 2 43 av (some (.int r)) μ' p e s m below meth c H locs (F0 m 24 ls [])
def f_X7_readNumber_j78 (μ : Mm) (a0 : Nat) (x4 : Int32) : Option (Int32 × Mm) := bV (f_X7_fail μ a0 (2 : Int32) (μ.1 a0 5)) (fun μ1 => some (x4, μ1))
set_option maxRecDepth 100000 in
theorem k_f_X7_readNumber_j78 {l : Launch} {D : va_G} {cA : Nat → ClassId} {z : Nat} {av : List Value} {p : Program} {e : Env} {s : State} {m : MethodId} {below : List Frame} {meth : Method} {c : Code} {r : Int32} {μ' : Mm} (X : Fx D cA RX7 wsX7_readNumber cX7_readNumber 6 (some .int) p s m av.toArray meth c) {μ : Mm} {a0 : Nat} {x4 : Int32} (hk_a0 : kd a0 = 7) {H : Heap} {locs : List Loc} {ls : Array Slot} (hd : Wd D cA z μ H) (hS : va_S (Az z) s.heap H locs) (hl : lv_has ls 6 [(0, .ref (z + a0)), (4, .int x4)]) (h : f_X7_readNumber_j78 μ a0 x4 = some (r, μ')) : WG l D cA z wsX7_readNumber 2 43 av (some (.int r)) μ' p e s m below meth c H locs (F0 m 78 ls []) := by
  obtain ⟨hx, hb, hr, hlk, hml, hown, hts, hK⟩ := id X
  unfold f_X7_readNumber_j78 at h
  refine lv_aload_n hx hb dX7_readNumber_78 rfl (lv_at hl 0 rfl) ?_
  refine lv_iconst (v := 2) hx hb dX7_readNumber_79 (by decide) ?_
  refine lv_aload_n hx hb dX7_readNumber_80 rfl (lv_at hl 0 rfl) ?_
  refine r_geti hx hb hts (fun w h => List.mem_cons_of_mem _ (List.mem_append_right _ (h))) hown hK hd hk_a0 rfl 5 fs_7_5 (hts (.fieldLink RX7 98 "LevelVotes$Text" "numberAt" "I") (List.mem_of_getElem? (i := 2) rfl)) dX7_readNumber_81 ?_
  obtain ⟨μ1, hc3, h⟩ := bV_e h
  refine rc_Vv (rest := []) [.int (2 : Int32), .int (μ.1 a0 5)] ⟨hx, hb, hml, hown, hts⟩ hK hd hS (c_X7_fail hk_a0 hc3) (cwV 2 hts gX7_readNumber_X7_fail rfl rfl rfl hv_X7_fail ⟨Nat.le_of_ble_eq_true rfl, Nat.le_of_ble_eq_true rfl⟩) hk_a0 rfl rfl rfl rfl hl.1 rfl (Nat.le_of_ble_eq_true rfl) dX7_readNumber_84 ⟨Nat.zero_le _, Nat.zero_le _⟩ (fun H locs hd hS => ?_)
  refine lv_iload hx hb dX7_readNumber_87 (lv_at hl 1 rfl) ?_
  obtain ⟨rfl, rfl⟩ := so_e h
  exact rt_i hx hb hr hlk hd hS dX7_readNumber_89
def f_X7_readNumber_j61 (μ : Mm) (a0 : Nat) (x1 : Int32) (x2 : Int32) (x3 : Int32) (x4 : Int32) : Option (Int32 × Mm) := if (5 : Int32) < x3 then (f_X7_readNumber_j78 μ a0 x4) else (if x4 < x1 then (f_X7_readNumber_j78 μ a0 x4) else (if x4 ≤ x2 then (some (x4, μ)) else (f_X7_readNumber_j78 μ a0 x4)))
set_option maxRecDepth 100000 in
theorem k_f_X7_readNumber_j61 {l : Launch} {D : va_G} {cA : Nat → ClassId} {z : Nat} {av : List Value} {p : Program} {e : Env} {s : State} {m : MethodId} {below : List Frame} {meth : Method} {c : Code} {r : Int32} {μ' : Mm} (X : Fx D cA RX7 wsX7_readNumber cX7_readNumber 6 (some .int) p s m av.toArray meth c) {μ : Mm} {a0 : Nat} {x1 : Int32} {x2 : Int32} {x3 : Int32} {x4 : Int32} (hk_a0 : kd a0 = 7) {H : Heap} {locs : List Loc} {ls : Array Slot} (hd : Wd D cA z μ H) (hS : va_S (Az z) s.heap H locs) (hl : lv_has ls 6 [(0, .ref (z + a0)), (1, .int x1), (2, .int x2), (3, .int x3), (4, .int x4)]) (h : f_X7_readNumber_j61 μ a0 x1 x2 x3 x4 = some (r, μ')) : WG l D cA z wsX7_readNumber 2 43 av (some (.int r)) μ' p e s m below meth c H locs (F0 m 61 ls []) := by
  obtain ⟨hx, hb, hr, hlk, hml, hown, hts, hK⟩ := id X
  unfold f_X7_readNumber_j61 at h
  refine lv_iload_n hx hb dX7_readNumber_61 rfl (lv_at hl 3 rfl) ?_
  refine lv_iconst (v := 5) hx hb dX7_readNumber_62 (by decide) ?_
  refine lv_icmp_gt (tgt := 78) hx hb dX7_readNumber_63 (by decide) (fun q1 => ?_) (fun q1 => ?_)
  · have h := if_y q1 h
    exact k_f_X7_readNumber_j78 X hk_a0 hd hS (lv_sub hl [0, 4] rfl) h
  · have h := if_n q1 h
    refine lv_iload hx hb dX7_readNumber_66 (lv_at hl 4 rfl) ?_
    refine lv_iload_n hx hb dX7_readNumber_68 rfl (lv_at hl 1 rfl) ?_
    refine lv_icmp_lt (tgt := 78) hx hb dX7_readNumber_69 (by decide) (fun q2 => ?_) (fun q2 => ?_)
    · have h := if_y q2 h
      exact k_f_X7_readNumber_j78 X hk_a0 hd hS (lv_sub hl [0, 4] rfl) h
    · have h := if_n q2 h
      refine lv_iload hx hb dX7_readNumber_72 (lv_at hl 4 rfl) ?_
      refine lv_iload_n hx hb dX7_readNumber_74 rfl (lv_at hl 2 rfl) ?_
      refine lv_icmp_le (tgt := 87) hx hb dX7_readNumber_75 (by decide) (fun q3 => ?_) (fun q3 => ?_)
      · have h := if_y q3 h
        refine lv_iload hx hb dX7_readNumber_87 (lv_at hl 4 rfl) ?_
        obtain ⟨rfl, rfl⟩ := so_e h
        exact rt_i hx hb hr hlk hd hS dX7_readNumber_89
      · have h := if_n q3 h
        exact k_f_X7_readNumber_j78 X hk_a0 hd hS (lv_sub hl [0, 4] rfl) h
def f_X7_readNumber_L24b (rc24 : Mm → Nat → Int32 → Int32 → Int32 → Int32 → Int32 → Option (Int32 × Mm)) (μ : Mm) (a0 : Nat) (x1 : Int32) (x2 : Int32) (x3 : Int32) (x4 : Int32) (x5 : Int32) : Option (Int32 × Mm) := if x3 ≤ x5 then (f_X7_readNumber_j61 μ a0 x1 x2 x3 x4) else (if (5 : Int32) ≤ x5 then (f_X7_readNumber_j61 μ a0 x1 x2 x3 x4) else (bC (f_X7_figureAt μ a0 ((μ.1 a0 5) + x5)) (fun r4 μ3 => bI ((x4 * (10 : Int32)) + r4) (fun v6 => rc24 μ3 a0 x1 x2 x3 v6 (x5 + (1 : Int32))))))
set_option maxRecDepth 100000 in
theorem k_f_X7_readNumber_L24b {l : Launch} {D : va_G} {cA : Nat → ClassId} {z : Nat} {av : List Value} {p : Program} {e : Env} {s : State} {m : MethodId} {below : List Frame} {meth : Method} {c : Code} {r : Int32} {μ' : Mm} (X : Fx D cA RX7 wsX7_readNumber cX7_readNumber 6 (some .int) p s m av.toArray meth c) {rc24 : Mm → Nat → Int32 → Int32 → Int32 → Int32 → Int32 → Option (Int32 × Mm)} (hrc24 : HL_X7_readNumber_24 l D cA z av r μ' p e s m below meth c rc24) {μ : Mm} {a0 : Nat} {x1 : Int32} {x2 : Int32} {x3 : Int32} {x4 : Int32} {x5 : Int32} (hk_a0 : kd a0 = 7) {H : Heap} {locs : List Loc} {ls : Array Slot} (hd : Wd D cA z μ H) (hS : va_S (Az z) s.heap H locs) (hl : lv_has ls 6 [(0, .ref (z + a0)), (1, .int x1), (2, .int x2), (3, .int x3), (4, .int x4), (5, .int x5)]) (h : f_X7_readNumber_L24b rc24 μ a0 x1 x2 x3 x4 x5 = some (r, μ')) : WG l D cA z wsX7_readNumber 2 43 av (some (.int r)) μ' p e s m below meth c H locs (F0 m 24 ls []) := by
  obtain ⟨hx, hb, hr, hlk, hml, hown, hts, hK⟩ := id X
  unfold f_X7_readNumber_L24b at h
  refine lv_iload hx hb dX7_readNumber_24 (lv_at hl 5 rfl) ?_
  refine lv_iload_n hx hb dX7_readNumber_26 rfl (lv_at hl 3 rfl) ?_
  refine lv_icmp_ge (tgt := 61) hx hb dX7_readNumber_27 (by decide) (fun q1 => ?_) (fun q1 => ?_)
  · have h := if_y q1 h
    exact k_f_X7_readNumber_j61 X hk_a0 hd hS (lv_sub hl [0, 1, 2, 3, 4] rfl) h
  · have h := if_n q1 h
    refine lv_iload hx hb dX7_readNumber_30 (lv_at hl 5 rfl) ?_
    refine lv_iconst (v := 5) hx hb dX7_readNumber_32 (by decide) ?_
    refine lv_icmp_ge (tgt := 61) hx hb dX7_readNumber_33 (by decide) (fun q2 => ?_) (fun q2 => ?_)
    · have h := if_y q2 h
      exact k_f_X7_readNumber_j61 X hk_a0 hd hS (lv_sub hl [0, 1, 2, 3, 4] rfl) h
    · have h := if_n q2 h
      refine lv_iload hx hb dX7_readNumber_36 (lv_at hl 4 rfl) ?_
      refine lv_bipush (v := 10) hx hb dX7_readNumber_38 (by decide) ?_
      refine lv_imul hx hb dX7_readNumber_40 ?_
      refine lv_aload_n hx hb dX7_readNumber_41 rfl (lv_at hl 0 rfl) ?_
      refine lv_aload_n hx hb dX7_readNumber_42 rfl (lv_at hl 0 rfl) ?_
      refine r_geti hx hb hts (fun w h => List.mem_cons_of_mem _ (List.mem_append_right _ (h))) hown hK hd hk_a0 rfl 5 fs_7_5 (hts (.fieldLink RX7 98 "LevelVotes$Text" "numberAt" "I") (List.mem_of_getElem? (i := 2) rfl)) dX7_readNumber_43 ?_
      refine lv_iload hx hb dX7_readNumber_46 (lv_at hl 5 rfl) ?_
      refine lv_iadd hx hb dX7_readNumber_48 ?_
      obtain ⟨r4, μ3, hc5, h⟩ := bC_e h
      refine rc_Vi (rest := [.int (x4 * (10 : Int32))]) [.int ((μ.1 a0 5) + x5)] ⟨hx, hb, hml, hown, hts⟩ hK hd hS (c_X7_figureAt hk_a0 hc5) (cwV 1 hts gX7_readNumber_X7_figureAt rfl rfl rfl hv_X7_figureAt ⟨Nat.le_of_ble_eq_true rfl, Nat.le_of_ble_eq_true rfl⟩) hk_a0 rfl rfl rfl rfl hl.1 rfl (Nat.le_of_ble_eq_true rfl) dX7_readNumber_49 ⟨Nat.zero_le _, Nat.zero_le _⟩ (fun H locs hd hS => ?_)
      refine lv_iadd hx hb dX7_readNumber_52 ?_
      refine lv_topi (fun v6 ev6 => ?_)
      have h := bI_e ev6 h
      refine lv_istore (lv' := [(4, .int v6), (0, .ref (z + a0)), (1, .int x1), (2, .int x2), (3, .int x3), (5, .int x5)]) hx hb dX7_readNumber_53 hl (by decide) rfl (fun ls hl => ?_)
      refine lv_iinc (v := x5 + (1 : Int32)) (lv' := [(5, .int (x5 + (1 : Int32))), (4, .int v6), (0, .ref (z + a0)), (1, .int x1), (2, .int x2), (3, .int x3)]) hx hb dX7_readNumber_55 hl (k := 5) rfl rfl (by decide) rfl (fun ls hl => ?_)
      refine lv_goto (tgt := 24) hx hb dX7_readNumber_58 (by decide) ?_
      exact hrc24 _ _ _ _ _ _ _ _ _ _ hk_a0 hd hS (lv_sub hl [2, 3, 4, 5, 1, 0] rfl) h
def f_X7_readNumber_L24 : Nat → Mm → Nat → Int32 → Int32 → Int32 → Int32 → Int32 → Option (Int32 × Mm)
  | 0 => fun _ _ _ _ _ _ _ => none
  | n + 1 => fun μ a0 x1 x2 x3 x4 x5 => f_X7_readNumber_L24b (f_X7_readNumber_L24 n) μ a0 x1 x2 x3 x4 x5
theorem k_f_X7_readNumber_L24 {l : Launch} {D : va_G} {cA : Nat → ClassId} {z : Nat} {av : List Value} {p : Program} {e : Env} {s : State} {m : MethodId} {below : List Frame} {meth : Method} {c : Code} {r : Int32} {μ' : Mm} (X : Fx D cA RX7 wsX7_readNumber cX7_readNumber 6 (some .int) p s m av.toArray meth c) (n : Nat) : HL_X7_readNumber_24 l D cA z av r μ' p e s m below meth c (f_X7_readNumber_L24 n) := by
  induction n with
  | zero => intro _ _ _ _ _ _ _ _ _ _ _ _ _ _ h; have h2 : (none : Option _) = some _ := h; cases h2
  | succ n ih => intro μ H locs ls a0 x1 x2 x3 x4 x5 hk_a0 hd hS hl h; exact k_f_X7_readNumber_L24b X ih hk_a0 hd hS hl h
def f_X7_readNumber (μ : Mm) (a0 : Nat) (x1 : Int32) (x2 : Int32) : Option (Int32 × Mm) := bV (f_X7_skipBlanks μ a0) (fun μ1 => bC (f_X7_readFigures μ1 a0) (fun r5 μ4 => if (μ4.1 a0 3) = 0 then (f_X7_readNumber_L24 FU μ4 a0 x1 x2 r5 (0 : Int32) (0 : Int32)) else (some (x1, μ4))))
set_option maxRecDepth 100000 in
theorem c_X7_readNumber {l : Launch} {D : va_G} {cA : Nat → ClassId} {z : Nat} {μ : Mm} {a0 : Nat} {x1 : Int32} {x2 : Int32} {r : Int32} {μ' : Mm} (hk_a0 : kd a0 = 7) (h : f_X7_readNumber μ a0 x1 x2 = some (r, μ')) : Ct l D cA z yX7_readNumber wsX7_readNumber 2 43 [.ref (z + a0), .int x1, .int x2] μ (some (.int r)) μ' := by
  refine m_in (cc := cX7_readNumber) (maxL := 6) (ret := (some .int)) (own := RX7) (by decide) rfl rfl (Nat.le_of_ble_eq_true rfl) ?_
  intro p e s m below meth c ls X hd hS hl
  obtain ⟨hx, hb, hr, hlk, hml, hown, hts, hK⟩ := id X
  have hl : lv_has ls 6 [(0, .ref (z + a0)), (1, .int x1), (2, .int x2)] := hl
  unfold f_X7_readNumber at h
  refine lv_aload_n hx hb dX7_readNumber_0 rfl (lv_at hl 0 rfl) ?_
  obtain ⟨μ1, hc3, h⟩ := bV_e h
  refine rc_Vv (rest := []) [] ⟨hx, hb, hml, hown, hts⟩ hK hd hS (c_X7_skipBlanks hk_a0 hc3) (cwV 0 hts gX7_readNumber_X7_skipBlanks rfl rfl rfl hv_X7_skipBlanks ⟨Nat.le_of_ble_eq_true rfl, Nat.le_of_ble_eq_true rfl⟩) hk_a0 rfl rfl rfl rfl hl.1 rfl (Nat.le_of_ble_eq_true rfl) dX7_readNumber_1 ⟨Nat.zero_le _, Nat.zero_le _⟩ (fun H locs hd hS => ?_)
  refine lv_aload_n hx hb dX7_readNumber_4 rfl (lv_at hl 0 rfl) ?_
  obtain ⟨r5, μ4, hc6, h⟩ := bC_e h
  refine rc_Vi (rest := []) [] ⟨hx, hb, hml, hown, hts⟩ hK hd hS (c_X7_readFigures hk_a0 hc6) (cwV 0 hts gX7_readNumber_X7_readFigures rfl rfl rfl hv_X7_readFigures ⟨Nat.le_of_ble_eq_true rfl, Nat.le_of_ble_eq_true rfl⟩) hk_a0 rfl rfl rfl rfl hl.1 rfl (Nat.le_of_ble_eq_true rfl) dX7_readNumber_5 ⟨Nat.zero_le _, Nat.zero_le _⟩ (fun H locs hd hS => ?_)
  refine lv_istore_n (lv' := [(3, .int r5), (0, .ref (z + a0)), (1, .int x1), (2, .int x2)]) hx hb dX7_readNumber_8 rfl hl (by decide) rfl (fun ls hl => ?_)
  refine lv_aload_n hx hb dX7_readNumber_9 rfl (lv_at hl 1 rfl) ?_
  refine r_geti hx hb hts (fun w h => List.mem_cons_of_mem _ (List.mem_append_right _ (h))) hown hK hd hk_a0 rfl 3 fs_7_3 (hts (.fieldLink RX7 27 "LevelVotes$Text" "flaw" "I") (List.mem_of_getElem? (i := 1) rfl)) dX7_readNumber_10 ?_
  refine lv_if_eq (tgt := 18) hx hb dX7_readNumber_13 (by decide) (fun q7 => ?_) (fun q7 => ?_)
  · have h := if_y q7 h
    refine lv_iconst (v := 0) hx hb dX7_readNumber_18 (by decide) ?_
    refine lv_istore (lv' := [(4, .int (0 : Int32)), (3, .int r5), (0, .ref (z + a0)), (1, .int x1), (2, .int x2)]) hx hb dX7_readNumber_19 hl (by decide) rfl (fun ls hl => ?_)
    refine lv_iconst (v := 0) hx hb dX7_readNumber_21 (by decide) ?_
    refine lv_istore (lv' := [(5, .int (0 : Int32)), (4, .int (0 : Int32)), (3, .int r5), (0, .ref (z + a0)), (1, .int x1), (2, .int x2)]) hx hb dX7_readNumber_22 hl (by decide) rfl (fun ls hl => ?_)
    exact k_f_X7_readNumber_L24 X FU _ _ _ _ _ _ _ _ _ _ hk_a0 hd hS (lv_sub hl [3, 4, 5, 2, 1, 0] rfl) h
  · have h := if_n q7 h
    refine lv_iload_n hx hb dX7_readNumber_16 rfl (lv_at hl 2 rfl) ?_
    obtain ⟨rfl, rfl⟩ := so_e h
    exact rt_i hx hb hr hlk hd hS dX7_readNumber_17
theorem hv_X7_readSize : yX7_readSize.cls = RX7 ∧ yX7_readSize.cls ≠ "java/lang/invoke/MethodHandle" ∧ yX7_readSize.cls ≠ "java/lang/invoke/VarHandle" ∧ (parseMethodDescriptor yX7_readSize.desc).map (fun d => d.parameters.length) = some 1 := by decide +kernel
def f_X7_readSize (μ : Mm) (a0 : Nat) (a1 : Nat) : Option Mm := bC (f_X7_readNumber μ a0 (1 : Int32) (5 : Int32)) (fun r2 μ1 => bC (f_X7_readNumber μ1 a0 (1 : Int32) (4 : Int32)) (fun r5 μ4 => if (μ4.1 a0 3) = 0 then (bV (f_X4_setSize μ4 a1 r2 r5) (fun μ8 => some μ8)) else (some μ4)))
set_option maxRecDepth 100000 in
theorem c_X7_readSize {l : Launch} {D : va_G} {cA : Nat → ClassId} {z : Nat} {μ : Mm} {a0 : Nat} {a1 : Nat} {μ' : Mm} (hk_a0 : kd a0 = 7) (hk_a1 : kd a1 = 4) (h : f_X7_readSize μ a0 a1 = some μ') : Ct l D cA z yX7_readSize wsX7_readSize 3 68 [.ref (z + a0), .ref (z + a1)] μ none μ' := by
  refine m_in (cc := cX7_readSize) (maxL := 4) (ret := none) (own := RX7) (by decide) rfl rfl (Nat.le_of_ble_eq_true rfl) ?_
  intro p e s m below meth c ls X hd hS hl
  obtain ⟨hx, hb, hr, hlk, hml, hown, hts, hK⟩ := id X
  have hl : lv_has ls 4 [(0, .ref (z + a0)), (1, .ref (z + a1))] := hl
  unfold f_X7_readSize at h
  refine lv_aload_n hx hb dX7_readSize_0 rfl (lv_at hl 0 rfl) ?_
  refine lv_iconst (v := 1) hx hb dX7_readSize_1 (by decide) ?_
  refine lv_iconst (v := 5) hx hb dX7_readSize_2 (by decide) ?_
  obtain ⟨r2, μ1, hc3, h⟩ := bC_e h
  refine rc_Vi (rest := []) [.int (1 : Int32), .int (5 : Int32)] ⟨hx, hb, hml, hown, hts⟩ hK hd hS (c_X7_readNumber hk_a0 hc3) (cwV 2 hts gX7_readSize_X7_readNumber rfl rfl rfl hv_X7_readNumber ⟨Nat.le_of_ble_eq_true rfl, Nat.le_of_ble_eq_true rfl⟩) hk_a0 rfl rfl rfl rfl hl.1 rfl (Nat.le_of_ble_eq_true rfl) dX7_readSize_3 ⟨Nat.zero_le _, Nat.zero_le _⟩ (fun H locs hd hS => ?_)
  refine lv_istore_n (lv' := [(2, .int r2), (0, .ref (z + a0)), (1, .ref (z + a1))]) hx hb dX7_readSize_6 rfl hl (by decide) rfl (fun ls hl => ?_)
  refine lv_aload_n hx hb dX7_readSize_7 rfl (lv_at hl 1 rfl) ?_
  refine lv_iconst (v := 1) hx hb dX7_readSize_8 (by decide) ?_
  refine lv_iconst (v := 4) hx hb dX7_readSize_9 (by decide) ?_
  obtain ⟨r5, μ4, hc6, h⟩ := bC_e h
  refine rc_Vi (rest := []) [.int (1 : Int32), .int (4 : Int32)] ⟨hx, hb, hml, hown, hts⟩ hK hd hS (c_X7_readNumber hk_a0 hc6) (cwV 2 hts gX7_readSize_X7_readNumber rfl rfl rfl hv_X7_readNumber ⟨Nat.le_of_ble_eq_true rfl, Nat.le_of_ble_eq_true rfl⟩) hk_a0 rfl rfl rfl rfl hl.1 rfl (Nat.le_of_ble_eq_true rfl) dX7_readSize_10 ⟨Nat.zero_le _, Nat.zero_le _⟩ (fun H locs hd hS => ?_)
  refine lv_istore_n (lv' := [(3, .int r5), (2, .int r2), (0, .ref (z + a0)), (1, .ref (z + a1))]) hx hb dX7_readSize_13 rfl hl (by decide) rfl (fun ls hl => ?_)
  refine lv_aload_n hx hb dX7_readSize_14 rfl (lv_at hl 2 rfl) ?_
  refine r_geti hx hb hts (fun w h => List.mem_cons_of_mem _ (List.mem_append_left _ (List.mem_append_right _ (h)))) hown hK hd hk_a0 rfl 3 fs_7_3 (hts (.fieldLink RX7 27 "LevelVotes$Text" "flaw" "I") (List.mem_of_getElem? (i := 1) rfl)) dX7_readSize_15 ?_
  refine lv_if_ne (tgt := 27) hx hb dX7_readSize_18 (by decide) (fun q7 => ?_) (fun q7 => ?_)
  · have h := if_n q7 h
    obtain rfl := sv_e h
    exact rt_v hx hb hr hlk hd hS dX7_readSize_27
  · have h := if_y q7 h
    refine lv_aload_n hx hb dX7_readSize_21 rfl (lv_at hl 3 rfl) ?_
    refine lv_iload_n hx hb dX7_readSize_22 rfl (lv_at hl 1 rfl) ?_
    refine lv_iload_n hx hb dX7_readSize_23 rfl (lv_at hl 0 rfl) ?_
    obtain ⟨μ8, hc10, h⟩ := bV_e h
    refine rc_Vv (rest := []) [.int r2, .int r5] ⟨hx, hb, hml, hown, hts⟩ hK hd hS (c_X4_setSize hk_a1 hc10) (cwV 2 hts gX7_readSize_X4_setSize rfl rfl rfl hv_X4_setSize ⟨Nat.le_of_ble_eq_true rfl, Nat.le_of_ble_eq_true rfl⟩) hk_a1 rfl rfl rfl rfl hl.1 rfl (Nat.le_of_ble_eq_true rfl) dX7_readSize_24 ⟨Nat.zero_le _, Nat.zero_le _⟩ (fun H locs hd hS => ?_)
    obtain rfl := sv_e h
    exact rt_v hx hb hr hlk hd hS dX7_readSize_27
theorem hv_X7_readHeights : yX7_readHeights.cls = RX7 ∧ yX7_readHeights.cls ≠ "java/lang/invoke/MethodHandle" ∧ yX7_readHeights.cls ≠ "java/lang/invoke/VarHandle" ∧ (parseMethodDescriptor yX7_readHeights.desc).map (fun d => d.parameters.length) = some 1 := by decide +kernel
abbrev HL_X7_readHeights_2 (l : Launch) (D : va_G) (cA : Nat → ClassId) (z : Nat) (av : List Value) (μ' : Mm) (p : Program) (e : Env) (s : State) (m : MethodId) (below : List Frame) (meth : Method) (c : Code) (rc : Mm → Nat → Nat → Int32 → Option Mm) : Prop := ∀ (μ : Mm) (H : Heap) (locs : List Loc) (ls : Array Slot) (a0 : Nat) (a1 : Nat) (x2 : Int32), kd a0 = 7 → kd a1 = 4 → Wd D cA z μ H → va_S (Az z) s.heap H locs → lv_has ls 4 [(0, .ref (z + a0)), (1, .ref (z + a1)), (2, .int x2)] → rc μ a0 a1 x2 = some μ' → WG l D cA z wsX7_readHeights 3 68 av none μ' p e s m below meth c H locs (F0 m 2 ls [])
def f_X7_readHeights_j39 (rc2 : Mm → Nat → Nat → Int32 → Option Mm) (μ : Mm) (a0 : Nat) (a1 : Nat) (x2 : Int32) : Option Mm := bC (f_X7_letterAt μ a0 (μ.1 a0 4)) (fun r2 μ1 => if r2 = (44 : Int32) then (if x2 = (20 : Int32) then (some μ1) else (bM (up2 μ1.1 a0 4 ((μ1.1 a0 4) + (1 : Int32)), μ1.2) (fun μ6 => rc2 μ6 a0 a1 (x2 + (1 : Int32))))) else (some μ1))
set_option maxRecDepth 100000 in
theorem k_f_X7_readHeights_j39 {l : Launch} {D : va_G} {cA : Nat → ClassId} {z : Nat} {av : List Value} {p : Program} {e : Env} {s : State} {m : MethodId} {below : List Frame} {meth : Method} {c : Code} {μ' : Mm} (X : Fx D cA RX7 wsX7_readHeights cX7_readHeights 4 none p s m av.toArray meth c) {rc2 : Mm → Nat → Nat → Int32 → Option Mm} (hrc2 : HL_X7_readHeights_2 l D cA z av μ' p e s m below meth c rc2) {μ : Mm} {a0 : Nat} {a1 : Nat} {x2 : Int32} (hk_a0 : kd a0 = 7) (hk_a1 : kd a1 = 4) {H : Heap} {locs : List Loc} {ls : Array Slot} (hd : Wd D cA z μ H) (hS : va_S (Az z) s.heap H locs) (hl : lv_has ls 4 [(0, .ref (z + a0)), (1, .ref (z + a1)), (2, .int x2)]) (h : f_X7_readHeights_j39 rc2 μ a0 a1 x2 = some μ') : WG l D cA z wsX7_readHeights 3 68 av none μ' p e s m below meth c H locs (F0 m 39 ls []) := by
  obtain ⟨hx, hb, hr, hlk, hml, hown, hts, hK⟩ := id X
  unfold f_X7_readHeights_j39 at h
  refine lv_aload_n hx hb dX7_readHeights_39 rfl (lv_at hl 0 rfl) ?_
  refine lv_aload_n hx hb dX7_readHeights_40 rfl (lv_at hl 0 rfl) ?_
  refine r_geti hx hb hts (fun w h => List.mem_cons_of_mem _ (List.mem_append_left _ (List.mem_append_right _ (h)))) hown hK hd hk_a0 rfl 4 fs_7_4 (hts (.fieldLink RX7 30 "LevelVotes$Text" "at" "I") (List.mem_of_getElem? (i := 2) rfl)) dX7_readHeights_41 ?_
  obtain ⟨r2, μ1, hc3, h⟩ := bC_e h
  refine rc_Vi (rest := []) [.int (μ.1 a0 4)] ⟨hx, hb, hml, hown, hts⟩ hK hd hS (c_X7_letterAt hk_a0 hc3) (cwV 1 hts gX7_readHeights_X7_letterAt rfl rfl rfl hv_X7_letterAt ⟨Nat.le_of_ble_eq_true rfl, Nat.le_of_ble_eq_true rfl⟩) hk_a0 rfl rfl rfl rfl hl.1 rfl (Nat.le_of_ble_eq_true rfl) dX7_readHeights_44 ⟨Nat.zero_le _, Nat.zero_le _⟩ (fun H locs hd hS => ?_)
  refine lv_bipush (v := 44) hx hb dX7_readHeights_47 (by decide) ?_
  refine lv_icmp_ne (tgt := 58) hx hb dX7_readHeights_49 (by decide) (fun q4 => ?_) (fun q4 => ?_)
  · have h := if_n q4 h
    obtain rfl := sv_e h
    exact rt_v hx hb hr hlk hd hS dX7_readHeights_58
  · have h := if_y q4 h
    refine lv_iload_n hx hb dX7_readHeights_52 rfl (lv_at hl 2 rfl) ?_
    refine lv_bipush (v := 20) hx hb dX7_readHeights_53 (by decide) ?_
    refine lv_icmp_ne (tgt := 59) hx hb dX7_readHeights_55 (by decide) (fun q5 => ?_) (fun q5 => ?_)
    · have h := if_n q5 h
      refine lv_aload_n hx hb dX7_readHeights_59 rfl (lv_at hl 0 rfl) ?_
      refine lv_dup hx hb dX7_readHeights_60 rfl ?_
      refine r_geti hx hb hts (fun w h => List.mem_cons_of_mem _ (List.mem_append_left _ (List.mem_append_right _ (h)))) hown hK hd hk_a0 rfl 4 fs_7_4 (hts (.fieldLink RX7 30 "LevelVotes$Text" "at" "I") (List.mem_of_getElem? (i := 2) rfl)) dX7_readHeights_61 ?_
      refine lv_iconst (v := 1) hx hb dX7_readHeights_64 (by decide) ?_
      refine lv_iadd hx hb dX7_readHeights_65 ?_
      refine r_puti hx hb hts (fun w h => List.mem_cons_of_mem _ (List.mem_append_left _ (List.mem_append_right _ (h)))) tyX7 tyX7_ok nmX7 hown hK hd hS hk_a0 rfl 4 fs_7_4 rfl (hts (.fieldLink RX7 30 "LevelVotes$Text" "at" "I") (List.mem_of_getElem? (i := 2) rfl)) (vp_nar_int _) rfl dX7_readHeights_66 (fun μ6 eμ6 H locs hd hS => ?_)
      have h := bM_e eμ6 h
      refine lv_iinc (v := x2 + (1 : Int32)) (lv' := [(2, .int (x2 + (1 : Int32))), (0, .ref (z + a0)), (1, .ref (z + a1))]) hx hb dX7_readHeights_69 hl (k := 2) rfl rfl (by decide) rfl (fun ls hl => ?_)
      refine lv_goto (tgt := 2) hx hb dX7_readHeights_72 (by decide) ?_
      exact hrc2 _ _ _ _ _ _ _ hk_a0 hk_a1 hd hS (lv_sub hl [1, 2, 0] rfl) h
    · have h := if_y q5 h
      obtain rfl := sv_e h
      exact rt_v hx hb hr hlk hd hS dX7_readHeights_58
def f_X7_readHeights_L2b (rc2 : Mm → Nat → Nat → Int32 → Option Mm) (μ : Mm) (a0 : Nat) (a1 : Nat) (x2 : Int32) : Option Mm := if (20 : Int32) < x2 then (some μ) else (if (μ.1 a0 3) = 0 then (bC (f_X7_readNumber μ a0 (0 : Int32) (9 : Int32)) (fun r4 μ3 => bV (f_X7_skipBlanks μ3 a0) (fun μ6 => if (μ6.1 a0 3) = 0 then (bV (f_X4_addHeight μ6 a1 r4) (fun μ10 => f_X7_readHeights_j39 rc2 μ10 a0 a1 x2)) else (f_X7_readHeights_j39 rc2 μ6 a0 a1 x2)))) else (some μ))
set_option maxRecDepth 100000 in
theorem k_f_X7_readHeights_L2b {l : Launch} {D : va_G} {cA : Nat → ClassId} {z : Nat} {av : List Value} {p : Program} {e : Env} {s : State} {m : MethodId} {below : List Frame} {meth : Method} {c : Code} {μ' : Mm} (X : Fx D cA RX7 wsX7_readHeights cX7_readHeights 4 none p s m av.toArray meth c) {rc2 : Mm → Nat → Nat → Int32 → Option Mm} (hrc2 : HL_X7_readHeights_2 l D cA z av μ' p e s m below meth c rc2) {μ : Mm} {a0 : Nat} {a1 : Nat} {x2 : Int32} (hk_a0 : kd a0 = 7) (hk_a1 : kd a1 = 4) {H : Heap} {locs : List Loc} {ls : Array Slot} (hd : Wd D cA z μ H) (hS : va_S (Az z) s.heap H locs) (hl : lv_has ls 4 [(0, .ref (z + a0)), (1, .ref (z + a1)), (2, .int x2)]) (h : f_X7_readHeights_L2b rc2 μ a0 a1 x2 = some μ') : WG l D cA z wsX7_readHeights 3 68 av none μ' p e s m below meth c H locs (F0 m 2 ls []) := by
  obtain ⟨hx, hb, hr, hlk, hml, hown, hts, hK⟩ := id X
  unfold f_X7_readHeights_L2b at h
  refine lv_iload_n hx hb dX7_readHeights_2 rfl (lv_at hl 2 rfl) ?_
  refine lv_bipush (v := 20) hx hb dX7_readHeights_3 (by decide) ?_
  refine lv_icmp_gt (tgt := 75) hx hb dX7_readHeights_5 (by decide) (fun q1 => ?_) (fun q1 => ?_)
  · have h := if_y q1 h
    obtain rfl := sv_e h
    exact rt_v hx hb hr hlk hd hS dX7_readHeights_75
  · have h := if_n q1 h
    refine lv_aload_n hx hb dX7_readHeights_8 rfl (lv_at hl 0 rfl) ?_
    refine r_geti hx hb hts (fun w h => List.mem_cons_of_mem _ (List.mem_append_left _ (List.mem_append_right _ (h)))) hown hK hd hk_a0 rfl 3 fs_7_3 (hts (.fieldLink RX7 27 "LevelVotes$Text" "flaw" "I") (List.mem_of_getElem? (i := 1) rfl)) dX7_readHeights_9 ?_
    refine lv_if_ne (tgt := 75) hx hb dX7_readHeights_12 (by decide) (fun q2 => ?_) (fun q2 => ?_)
    · have h := if_n q2 h
      obtain rfl := sv_e h
      exact rt_v hx hb hr hlk hd hS dX7_readHeights_75
    · have h := if_y q2 h
      refine lv_aload_n hx hb dX7_readHeights_15 rfl (lv_at hl 0 rfl) ?_
      refine lv_iconst (v := 0) hx hb dX7_readHeights_16 (by decide) ?_
      refine lv_bipush (v := 9) hx hb dX7_readHeights_17 (by decide) ?_
      obtain ⟨r4, μ3, hc5, h⟩ := bC_e h
      refine rc_Vi (rest := []) [.int (0 : Int32), .int (9 : Int32)] ⟨hx, hb, hml, hown, hts⟩ hK hd hS (c_X7_readNumber hk_a0 hc5) (cwV 2 hts gX7_readHeights_X7_readNumber rfl rfl rfl hv_X7_readNumber ⟨Nat.le_of_ble_eq_true rfl, Nat.le_of_ble_eq_true rfl⟩) hk_a0 rfl rfl rfl rfl hl.1 rfl (Nat.le_of_ble_eq_true rfl) dX7_readHeights_19 ⟨Nat.zero_le _, Nat.zero_le _⟩ (fun H locs hd hS => ?_)
      refine lv_istore_n (lv' := [(3, .int r4), (0, .ref (z + a0)), (1, .ref (z + a1)), (2, .int x2)]) hx hb dX7_readHeights_22 rfl hl (by decide) rfl (fun ls hl => ?_)
      refine lv_aload_n hx hb dX7_readHeights_23 rfl (lv_at hl 1 rfl) ?_
      obtain ⟨μ6, hc8, h⟩ := bV_e h
      refine rc_Vv (rest := []) [] ⟨hx, hb, hml, hown, hts⟩ hK hd hS (c_X7_skipBlanks hk_a0 hc8) (cwV 0 hts gX7_readHeights_X7_skipBlanks rfl rfl rfl hv_X7_skipBlanks ⟨Nat.le_of_ble_eq_true rfl, Nat.le_of_ble_eq_true rfl⟩) hk_a0 rfl rfl rfl rfl hl.1 rfl (Nat.le_of_ble_eq_true rfl) dX7_readHeights_24 ⟨Nat.zero_le _, Nat.zero_le _⟩ (fun H locs hd hS => ?_)
      refine lv_aload_n hx hb dX7_readHeights_27 rfl (lv_at hl 1 rfl) ?_
      refine r_geti hx hb hts (fun w h => List.mem_cons_of_mem _ (List.mem_append_left _ (List.mem_append_right _ (h)))) hown hK hd hk_a0 rfl 3 fs_7_3 (hts (.fieldLink RX7 27 "LevelVotes$Text" "flaw" "I") (List.mem_of_getElem? (i := 1) rfl)) dX7_readHeights_28 ?_
      refine lv_if_ne (tgt := 39) hx hb dX7_readHeights_31 (by decide) (fun q9 => ?_) (fun q9 => ?_)
      · have h := if_n q9 h
        exact k_f_X7_readHeights_j39 X hrc2 hk_a0 hk_a1 hd hS (lv_sub hl [1, 2, 3] rfl) h
      · have h := if_y q9 h
        refine lv_aload_n hx hb dX7_readHeights_34 rfl (lv_at hl 2 rfl) ?_
        refine lv_iload_n hx hb dX7_readHeights_35 rfl (lv_at hl 0 rfl) ?_
        obtain ⟨μ10, hc12, h⟩ := bV_e h
        refine rc_Vv (rest := []) [.int r4] ⟨hx, hb, hml, hown, hts⟩ hK hd hS (c_X4_addHeight hk_a1 hc12) (cwV 1 hts gX7_readHeights_X4_addHeight rfl rfl rfl hv_X4_addHeight ⟨Nat.le_of_ble_eq_true rfl, Nat.le_of_ble_eq_true rfl⟩) hk_a1 rfl rfl rfl rfl hl.1 rfl (Nat.le_of_ble_eq_true rfl) dX7_readHeights_36 ⟨Nat.zero_le _, Nat.zero_le _⟩ (fun H locs hd hS => ?_)
        exact k_f_X7_readHeights_j39 X hrc2 hk_a0 hk_a1 hd hS (lv_sub hl [1, 2, 3] rfl) h
def f_X7_readHeights_L2 : Nat → Mm → Nat → Nat → Int32 → Option Mm
  | 0 => fun _ _ _ _ => none
  | n + 1 => fun μ a0 a1 x2 => f_X7_readHeights_L2b (f_X7_readHeights_L2 n) μ a0 a1 x2
theorem k_f_X7_readHeights_L2 {l : Launch} {D : va_G} {cA : Nat → ClassId} {z : Nat} {av : List Value} {p : Program} {e : Env} {s : State} {m : MethodId} {below : List Frame} {meth : Method} {c : Code} {μ' : Mm} (X : Fx D cA RX7 wsX7_readHeights cX7_readHeights 4 none p s m av.toArray meth c) (n : Nat) : HL_X7_readHeights_2 l D cA z av μ' p e s m below meth c (f_X7_readHeights_L2 n) := by
  induction n with
  | zero => intro _ _ _ _ _ _ _ _ _ _ _ _ h; have h2 : (none : Option _) = some _ := h; cases h2
  | succ n ih => intro μ H locs ls a0 a1 x2 hk_a0 hk_a1 hd hS hl h; exact k_f_X7_readHeights_L2b X ih hk_a0 hk_a1 hd hS hl h
def f_X7_readHeights (μ : Mm) (a0 : Nat) (a1 : Nat) : Option Mm := f_X7_readHeights_L2 FU μ a0 a1 (1 : Int32)
set_option maxRecDepth 100000 in
theorem c_X7_readHeights {l : Launch} {D : va_G} {cA : Nat → ClassId} {z : Nat} {μ : Mm} {a0 : Nat} {a1 : Nat} {μ' : Mm} (hk_a0 : kd a0 = 7) (hk_a1 : kd a1 = 4) (h : f_X7_readHeights μ a0 a1 = some μ') : Ct l D cA z yX7_readHeights wsX7_readHeights 3 68 [.ref (z + a0), .ref (z + a1)] μ none μ' := by
  refine m_in (cc := cX7_readHeights) (maxL := 4) (ret := none) (own := RX7) (by decide) rfl rfl (Nat.le_of_ble_eq_true rfl) ?_
  intro p e s m below meth c ls X hd hS hl
  obtain ⟨hx, hb, hr, hlk, hml, hown, hts, hK⟩ := id X
  have hl : lv_has ls 4 [(0, .ref (z + a0)), (1, .ref (z + a1))] := hl
  unfold f_X7_readHeights at h
  refine lv_iconst (v := 1) hx hb dX7_readHeights_0 (by decide) ?_
  refine lv_istore_n (lv' := [(2, .int (1 : Int32)), (0, .ref (z + a0)), (1, .ref (z + a1))]) hx hb dX7_readHeights_1 rfl hl (by decide) rfl (fun ls hl => ?_)
  exact k_f_X7_readHeights_L2 X FU _ _ _ _ _ _ _ hk_a0 hk_a1 hd hS (lv_sub hl [1, 2, 0] rfl) h
