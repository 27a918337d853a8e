theorem hv_X7_readItem : yX7_readItem.cls = RX7 ∧ yX7_readItem.cls ≠ "java/lang/invoke/MethodHandle" ∧ yX7_readItem.cls ≠ "java/lang/invoke/VarHandle" ∧ (parseMethodDescriptor yX7_readItem.desc).map (fun d => d.parameters.length) = some 1 := by decide +kernel
def f_X7_readItem_j49 (μ : Mm) (a0 : Nat) (a1 : Nat) (x2 : Int32) (x3 : Int32) : Option Mm := bC (f_X7_readNumber μ a0 (0 : Int32) (9 : Int32)) (fun r2 μ1 => if (μ1.1 a0 3) = 0 then (bV (f_X4_addItem μ1 a1 x2 x3 r2) (fun μ5 => some μ5)) else (some μ1))
set_option maxRecDepth 100000 in
theorem k_f_X7_readItem_j49 {l : Launch} {D : va_G} {cA : Nat → ClassId} {z : Nat} {av : List Value} {p : Program} {e : Env} {s : State} {m : MethodId} {below : List Frame} {meth : Method} {c : Code} {μ' : Mm} (X : Fx D cA RX7 wsX7_readItem cX7_readItem 5 none p s m av.toArray meth c) {μ : Mm} {a0 : Nat} {a1 : Nat} {x2 : Int32} {x3 : Int32} (hk_a0 : kd a0 = 7) (hk_a1 : kd a1 = 4) {H : Heap} {locs : List Loc} {ls : Array Slot} (hd : Wd D cA z μ H) (hS : va_S (Az z) s.heap H locs) (hl : lv_has ls 5 [(0, .ref (z + a0)), (1, .ref (z + a1)), (2, .int x2), (3, .int x3)]) (h : f_X7_readItem_j49 μ a0 a1 x2 x3 = some μ') : WG l D cA z wsX7_readItem 3 68 av none μ' p e s m below meth c H locs (F0 m 49 ls []) := by
  obtain ⟨hx, hb, hr, hlk, hml, hown, hts, hK⟩ := id X
  unfold f_X7_readItem_j49 at h
  refine lv_aload_n hx hb dX7_readItem_49 rfl (lv_at hl 0 rfl) ?_
  refine lv_iconst (v := 0) hx hb dX7_readItem_50 (by decide) ?_
  refine lv_bipush (v := 9) hx hb dX7_readItem_51 (by decide) ?_
  obtain ⟨r2, μ1, hc3, h⟩ := bC_e h
  refine rc_Vi (rest := []) [.int (0 : Int32), .int (9 : Int32)] ⟨hx, hb, hml, hown, hts⟩ hK hd hS (c_X7_readNumber hk_a0 hc3) (cwV 2 hts gX7_readItem_X7_readNumber rfl rfl rfl hv_X7_readNumber ⟨Nat.le_of_ble_eq_true rfl, Nat.le_of_ble_eq_true rfl⟩) hk_a0 rfl rfl rfl rfl hl.1 rfl (Nat.le_of_ble_eq_true rfl) dX7_readItem_53 ⟨Nat.zero_le _, Nat.zero_le _⟩ (fun H locs hd hS => ?_)
  refine lv_istore (lv' := [(4, .int r2), (0, .ref (z + a0)), (1, .ref (z + a1)), (2, .int x2), (3, .int x3)]) hx hb dX7_readItem_56 hl (by decide) rfl (fun ls hl => ?_)
  refine lv_aload_n hx hb dX7_readItem_58 rfl (lv_at hl 1 rfl) ?_
  refine r_geti hx hb hts (fun w h => List.mem_cons_of_mem _ (List.mem_append_right _ (h))) hown hK hd hk_a0 rfl 3 fs_7_3 (hts (.fieldLink RX7 27 "LevelVotes$Text" "flaw" "I") (List.mem_of_getElem? (i := 2) rfl)) dX7_readItem_59 ?_
  refine lv_if_ne (tgt := 73) hx hb dX7_readItem_62 (by decide) (fun q4 => ?_) (fun q4 => ?_)
  · have h := if_n q4 h
    obtain rfl := sv_e h
    exact rt_v hx hb hr hlk hd hS dX7_readItem_73
  · have h := if_y q4 h
    refine lv_aload_n hx hb dX7_readItem_65 rfl (lv_at hl 2 rfl) ?_
    refine lv_iload_n hx hb dX7_readItem_66 rfl (lv_at hl 3 rfl) ?_
    refine lv_iload_n hx hb dX7_readItem_67 rfl (lv_at hl 4 rfl) ?_
    refine lv_iload hx hb dX7_readItem_68 (lv_at hl 0 rfl) ?_
    obtain ⟨μ5, hc7, h⟩ := bV_e h
    refine rc_Vv (rest := []) [.int x2, .int x3, .int r2] ⟨hx, hb, hml, hown, hts⟩ hK hd hS (c_X4_addItem hk_a1 hc7) (cwV 3 hts gX7_readItem_X4_addItem rfl rfl rfl hv_X4_addItem ⟨Nat.le_of_ble_eq_true rfl, Nat.le_of_ble_eq_true rfl⟩) hk_a1 rfl rfl rfl rfl hl.1 rfl (Nat.le_of_ble_eq_true rfl) dX7_readItem_70 ⟨Nat.zero_le _, Nat.zero_le _⟩ (fun H locs hd hS => ?_)
    obtain rfl := sv_e h
    exact rt_v hx hb hr hlk hd hS dX7_readItem_73
def f_X7_readItem (μ : Mm) (a0 : Nat) (a1 : Nat) : Option Mm := bC (f_X7_readNumber μ a0 (0 : Int32) ((μ.1 a1 2) - (1 : Int32))) (fun r2 μ1 => bC (f_X7_readNumber μ1 a0 (0 : Int32) ((μ1.1 a1 2) - (1 : Int32))) (fun r5 μ4 => if (μ4.1 a0 3) = 0 then (bC (f_X4_isBehind μ4 a1 r2 r5) (fun r9 μ8 => if r9 = 0 then (f_X7_readItem_j49 μ8 a0 a1 r2 r5) else (bV (f_X7_fail μ8 a0 (4 : Int32) (μ8.1 a0 5)) (fun μ12 => f_X7_readItem_j49 μ12 a0 a1 r2 r5)))) else (f_X7_readItem_j49 μ4 a0 a1 r2 r5)))
set_option maxRecDepth 100000 in
theorem c_X7_readItem {l : Launch} {D : va_G} {cA : Nat → ClassId} {z : Nat} {μ : Mm} {a0 : Nat} {a1 : Nat} {μ' : Mm} (hk_a0 : kd a0 = 7) (hk_a1 : kd a1 = 4) (h : f_X7_readItem μ a0 a1 = some μ') : Ct l D cA z yX7_readItem wsX7_readItem 3 68 [.ref (z + a0), .ref (z + a1)] μ none μ' := by
  refine m_in (cc := cX7_readItem) (maxL := 5) (ret := none) (own := RX7) (by decide) rfl rfl (Nat.le_of_ble_eq_true rfl) ?_
  intro p e s m below meth c ls X hd hS hl
  obtain ⟨hx, hb, hr, hlk, hml, hown, hts, hK⟩ := id X
  have hl : lv_has ls 5 [(0, .ref (z + a0)), (1, .ref (z + a1))] := hl
  unfold f_X7_readItem at h
  refine lv_aload_n hx hb dX7_readItem_0 rfl (lv_at hl 0 rfl) ?_
  refine lv_iconst (v := 0) hx hb dX7_readItem_1 (by decide) ?_
  refine lv_aload_n hx hb dX7_readItem_2 rfl (lv_at hl 1 rfl) ?_
  refine r_geti hx hb hts (fun w h => List.mem_cons_of_mem _ (List.mem_append_left _ (List.mem_append_right _ (h)))) hown hK hd hk_a1 rfl 2 fs_4_2 (hts (.fieldLink RX7 91 "LevelVotes$House" "cells" "I") (List.mem_of_getElem? (i := 1) rfl)) dX7_readItem_3 ?_
  refine lv_iconst (v := 1) hx hb dX7_readItem_6 (by decide) ?_
  refine lv_isub hx hb dX7_readItem_7 ?_
  obtain ⟨r2, μ1, hc3, h⟩ := bC_e h
  refine rc_Vi (rest := []) [.int (0 : Int32), .int ((μ.1 a1 2) - (1 : Int32))] ⟨hx, hb, hml, hown, hts⟩ hK hd hS (c_X7_readNumber hk_a0 hc3) (cwV 2 hts gX7_readItem_X7_readNumber rfl rfl rfl hv_X7_readNumber ⟨Nat.le_of_ble_eq_true rfl, Nat.le_of_ble_eq_true rfl⟩) hk_a0 rfl rfl rfl rfl hl.1 rfl (Nat.le_of_ble_eq_true rfl) dX7_readItem_8 ⟨Nat.zero_le _, Nat.zero_le _⟩ (fun H locs hd hS => ?_)
  refine lv_istore_n (lv' := [(2, .int r2), (0, .ref (z + a0)), (1, .ref (z + a1))]) hx hb dX7_readItem_11 rfl hl (by decide) rfl (fun ls hl => ?_)
  refine lv_aload_n hx hb dX7_readItem_12 rfl (lv_at hl 1 rfl) ?_
  refine lv_iconst (v := 0) hx hb dX7_readItem_13 (by decide) ?_
  refine lv_aload_n hx hb dX7_readItem_14 rfl (lv_at hl 2 rfl) ?_
  refine r_geti hx hb hts (fun w h => List.mem_cons_of_mem _ (List.mem_append_left _ (List.mem_append_right _ (h)))) hown hK hd hk_a1 rfl 2 fs_4_2 (hts (.fieldLink RX7 91 "LevelVotes$House" "cells" "I") (List.mem_of_getElem? (i := 1) rfl)) dX7_readItem_15 ?_
  refine lv_iconst (v := 1) hx hb dX7_readItem_18 (by decide) ?_
  refine lv_isub hx hb dX7_readItem_19 ?_
  obtain ⟨r5, μ4, hc6, h⟩ := bC_e h
  refine rc_Vi (rest := []) [.int (0 : Int32), .int ((μ1.1 a1 2) - (1 : Int32))] ⟨hx, hb, hml, hown, hts⟩ hK hd hS (c_X7_readNumber hk_a0 hc6) (cwV 2 hts gX7_readItem_X7_readNumber rfl rfl rfl hv_X7_readNumber ⟨Nat.le_of_ble_eq_true rfl, Nat.le_of_ble_eq_true rfl⟩) hk_a0 rfl rfl rfl rfl hl.1 rfl (Nat.le_of_ble_eq_true rfl) dX7_readItem_20 ⟨Nat.zero_le _, Nat.zero_le _⟩ (fun H locs hd hS => ?_)
  refine lv_istore_n (lv' := [(3, .int r5), (2, .int r2), (0, .ref (z + a0)), (1, .ref (z + a1))]) hx hb dX7_readItem_23 rfl hl (by decide) rfl (fun ls hl => ?_)
  refine lv_aload_n hx hb dX7_readItem_24 rfl (lv_at hl 2 rfl) ?_
  refine r_geti hx hb hts (fun w h => List.mem_cons_of_mem _ (List.mem_append_right _ (h))) hown hK hd hk_a0 rfl 3 fs_7_3 (hts (.fieldLink RX7 27 "LevelVotes$Text" "flaw" "I") (List.mem_of_getElem? (i := 2) rfl)) dX7_readItem_25 ?_
  refine lv_if_ne (tgt := 49) hx hb dX7_readItem_28 (by decide) (fun q7 => ?_) (fun q7 => ?_)
  · have h := if_n q7 h
    exact k_f_X7_readItem_j49 X hk_a0 hk_a1 hd hS (lv_sub hl [2, 3, 1, 0] rfl) h
  · have h := if_y q7 h
    refine lv_aload_n hx hb dX7_readItem_31 rfl (lv_at hl 3 rfl) ?_
    refine lv_iload_n hx hb dX7_readItem_32 rfl (lv_at hl 1 rfl) ?_
    refine lv_iload_n hx hb dX7_readItem_33 rfl (lv_at hl 0 rfl) ?_
    obtain ⟨r9, μ8, hc10, h⟩ := bC_e h
    refine rc_Vi (rest := []) [.int r2, .int r5] ⟨hx, hb, hml, hown, hts⟩ hK hd hS (c_X4_isBehind hk_a1 hc10) (cwV 2 hts gX7_readItem_X4_isBehind rfl rfl rfl hv_X4_isBehind ⟨Nat.le_of_ble_eq_true rfl, Nat.le_of_ble_eq_true rfl⟩) hk_a1 rfl rfl rfl rfl hl.1 rfl (Nat.le_of_ble_eq_true rfl) dX7_readItem_34 ⟨Nat.zero_le _, Nat.zero_le _⟩ (fun H locs hd hS => ?_)
    refine lv_if_eq (tgt := 49) hx hb dX7_readItem_37 (by decide) (fun q11 => ?_) (fun q11 => ?_)
    · have h := if_y q11 h
      exact k_f_X7_readItem_j49 X hk_a0 hk_a1 hd hS (lv_sub hl [2, 3, 1, 0] rfl) h
    · have h := if_n q11 h
      refine lv_aload_n hx hb dX7_readItem_40 rfl (lv_at hl 2 rfl) ?_
      refine lv_iconst (v := 4) hx hb dX7_readItem_41 (by decide) ?_
      refine lv_aload_n hx hb dX7_readItem_42 rfl (lv_at hl 2 rfl) ?_
      refine r_geti hx hb hts (fun w h => List.mem_cons_of_mem _ (List.mem_append_right _ (h))) hown hK hd hk_a0 rfl 5 fs_7_5 (hts (.fieldLink RX7 98 "LevelVotes$Text" "numberAt" "I") (List.mem_of_getElem? (i := 3) rfl)) dX7_readItem_43 ?_
      obtain ⟨μ12, hc14, h⟩ := bV_e h
      refine rc_Vv (rest := []) [.int (4 : Int32), .int (μ8.1 a0 5)] ⟨hx, hb, hml, hown, hts⟩ hK hd hS (c_X7_fail hk_a0 hc14) (cwV 2 hts gX7_readItem_X7_fail rfl rfl rfl hv_X7_fail ⟨Nat.le_of_ble_eq_true rfl, Nat.le_of_ble_eq_true rfl⟩) hk_a0 rfl rfl rfl rfl hl.1 rfl (Nat.le_of_ble_eq_true rfl) dX7_readItem_46 ⟨Nat.zero_le _, Nat.zero_le _⟩ (fun H locs hd hS => ?_)
      exact k_f_X7_readItem_j49 X hk_a0 hk_a1 hd hS (lv_sub hl [2, 3, 1, 0] rfl) h
theorem hv_X7_readPerson : yX7_readPerson.cls = RX7 ∧ yX7_readPerson.cls ≠ "java/lang/invoke/MethodHandle" ∧ yX7_readPerson.cls ≠ "java/lang/invoke/VarHandle" ∧ (parseMethodDescriptor yX7_readPerson.desc).map (fun d => d.parameters.length) = some 1 := by decide +kernel
abbrev HL_X7_readPerson_31 (l : Launch) (D : va_G) (cA : Nat → ClassId) (z : Nat) (av : List Value) (μ' : Mm) (p : Program) (e : Env) (s : State) (m : MethodId) (below : List Frame) (meth : Method) (c : Code) (rc : Mm → Nat → Nat → Int32 → Int32 → Option Mm) : Prop := ∀ (μ : Mm) (H : Heap) (locs : List Loc) (ls : Array Slot) (a0 : Nat) (a1 : Nat) (x3 : Int32) (x4 : Int32), kd a0 = 7 → kd a1 = 4 → Wd D cA z μ H → va_S (Az z) s.heap H locs → lv_has ls 6 [(0, .ref (z + a0)), (1, .ref (z + a1)), (3, .int x3), (4, .int x4)] → rc μ a0 a1 x3 x4 = some μ' → WG l D cA z wsX7_readPerson 2 43 av none μ' p e s m below meth c H locs (F0 m 31 ls [])
def f_X7_readPerson_j92 (μ : Mm) (a0 : Nat) (a1 : Nat) (x3 : Int32) : Option Mm := if x3 = 0 then (bV (f_X7_fail μ a0 (2 : Int32) (μ.1 a0 5)) (fun μ2 => some μ2)) else (bM (up2 μ.1 a1 4 ((μ.1 a1 4) + (1 : Int32)), μ.2) (fun μ5 => some μ5))
set_option maxRecDepth 100000 in
theorem k_f_X7_readPerson_j92 {l : Launch} {D : va_G} {cA : Nat → ClassId} {z : Nat} {av : List Value} {p : Program} {e : Env} {s : State} {m : MethodId} {below : List Frame} {meth : Method} {c : Code} {μ' : Mm} (X : Fx D cA RX7 wsX7_readPerson cX7_readPerson 6 none p s m av.toArray meth c) {μ : Mm} {a0 : Nat} {a1 : Nat} {x3 : Int32} (hk_a0 : kd a0 = 7) (hk_a1 : kd a1 = 4) {H : Heap} {locs : List Loc} {ls : Array Slot} (hd : Wd D cA z μ H) (hS : va_S (Az z) s.heap H locs) (hl : lv_has ls 6 [(0, .ref (z + a0)), (1, .ref (z + a1)), (3, .int x3)]) (h : f_X7_readPerson_j92 μ a0 a1 x3 = some μ') : WG l D cA z wsX7_readPerson 2 43 av none μ' p e s m below meth c H locs (F0 m 92 ls []) := by
  obtain ⟨hx, hb, hr, hlk, hml, hown, hts, hK⟩ := id X
  unfold f_X7_readPerson_j92 at h
  refine lv_iload_n hx hb dX7_readPerson_92 rfl (lv_at hl 2 rfl) ?_
  refine lv_if_eq (tgt := 109) hx hb dX7_readPerson_93 (by decide) (fun q1 => ?_) (fun q1 => ?_)
  · have h := if_y q1 h
    refine lv_aload_n hx hb dX7_readPerson_109 rfl (lv_at hl 0 rfl) ?_
    refine lv_iconst (v := 2) hx hb dX7_readPerson_110 (by decide) ?_
    refine lv_aload_n hx hb dX7_readPerson_111 rfl (lv_at hl 0 rfl) ?_
    refine r_geti hx hb hts (fun w h => List.mem_cons_of_mem _ (List.mem_append_left _ (List.mem_append_left _ (List.mem_append_right _ (h))))) hown hK hd hk_a0 rfl 5 fs_7_5 (hts (.fieldLink RX7 98 "LevelVotes$Text" "numberAt" "I") (List.mem_of_getElem? (i := 2) rfl)) dX7_readPerson_112 ?_
    obtain ⟨μ2, hc4, h⟩ := bV_e h
    refine rc_Vv (rest := []) [.int (2 : Int32), .int (μ.1 a0 5)] ⟨hx, hb, hml, hown, hts⟩ hK hd hS (c_X7_fail hk_a0 hc4) (cwV 2 hts gX7_readPerson_X7_fail rfl rfl rfl hv_X7_fail ⟨Nat.le_of_ble_eq_true rfl, Nat.le_of_ble_eq_true rfl⟩) hk_a0 rfl rfl rfl rfl hl.1 rfl (Nat.le_of_ble_eq_true rfl) dX7_readPerson_115 ⟨Nat.zero_le _, Nat.zero_le _⟩ (fun H locs hd hS => ?_)
    obtain rfl := sv_e h
    exact rt_v hx hb hr hlk hd hS dX7_readPerson_118
  · have h := if_n q1 h
    refine lv_aload_n hx hb dX7_readPerson_96 rfl (lv_at hl 1 rfl) ?_
    refine lv_dup hx hb dX7_readPerson_97 rfl ?_
    refine r_geti hx hb hts (fun w h => List.mem_cons_of_mem _ (List.mem_append_left _ (List.mem_append_right _ (h)))) hown hK hd hk_a1 rfl 4 fs_4_4 (hts (.fieldLink RX7 77 "LevelVotes$House" "persons" "I") (List.mem_of_getElem? (i := 4) rfl)) dX7_readPerson_98 ?_
    refine lv_iconst (v := 1) hx hb dX7_readPerson_101 (by decide) ?_
    refine lv_iadd hx hb dX7_readPerson_102 ?_
    refine r_puti hx hb hts (fun w h => List.mem_cons_of_mem _ (List.mem_append_left _ (List.mem_append_right _ (h)))) tyX4 tyX4_ok nmX4 hown hK hd hS hk_a1 rfl 4 fs_4_4 rfl (hts (.fieldLink RX7 77 "LevelVotes$House" "persons" "I") (List.mem_of_getElem? (i := 4) rfl)) (vp_nar_int _) rfl dX7_readPerson_103 (fun μ5 eμ5 H locs hd hS => ?_)
    have h := bM_e eμ5 h
    refine lv_goto (tgt := 118) hx hb dX7_readPerson_106 (by decide) ?_
    obtain rfl := sv_e h
    exact rt_v hx hb hr hlk hd hS dX7_readPerson_118
def f_X7_readPerson_j70 (rc31 : Mm → Nat → Nat → Int32 → Int32 → Option Mm) (μ : Mm) (a0 : Nat) (a1 : Nat) (x4 : Int32) (x5 : Int32) (ys0 : Int32) : Option Mm := bR (μ.2 a1 10) (fun b1 => bV (f_X0_put μ b1 (μ.1 a1 4) x4 x5) (fun μ2 => rc31 μ2 a0 a1 ys0 (x4 + (1 : Int32))))
set_option maxRecDepth 100000 in
theorem k_f_X7_readPerson_j70 {l : Launch} {D : va_G} {cA : Nat → ClassId} {z : Nat} {av : List Value} {p : Program} {e : Env} {s : State} {m : MethodId} {below : List Frame} {meth : Method} {c : Code} {μ' : Mm} (X : Fx D cA RX7 wsX7_readPerson cX7_readPerson 6 none p s m av.toArray meth c) {rc31 : Mm → Nat → Nat → Int32 → Int32 → Option Mm} (hrc31 : HL_X7_readPerson_31 l D cA z av μ' p e s m below meth c rc31) {μ : Mm} {a0 : Nat} {a1 : Nat} {x4 : Int32} {x5 : Int32} {ys0 : Int32} (hk_a0 : kd a0 = 7) (hk_a1 : kd a1 = 4) {H : Heap} {locs : List Loc} {ls : Array Slot} (hd : Wd D cA z μ H) (hS : va_S (Az z) s.heap H locs) (hl : lv_has ls 6 [(0, .ref (z + a0)), (1, .ref (z + a1)), (4, .int x4), (5, .int x5)]) (h : f_X7_readPerson_j70 rc31 μ a0 a1 x4 x5 ys0 = some μ') : WG l D cA z wsX7_readPerson 2 43 av none μ' p e s m below meth c H locs (F0 m 70 ls [.int ys0]) := by
  obtain ⟨hx, hb, hr, hlk, hml, hown, hts, hK⟩ := id X
  unfold f_X7_readPerson_j70 at h
  refine lv_istore_n (lv' := [(3, .int ys0), (0, .ref (z + a0)), (1, .ref (z + a1)), (4, .int x4), (5, .int x5)]) hx hb dX7_readPerson_70 rfl hl (by decide) rfl (fun ls hl => ?_)
  refine lv_aload_n hx hb dX7_readPerson_71 rfl (lv_at hl 2 rfl) ?_
  obtain ⟨b1, hb1, h⟩ := bR_e h
  refine r_getr hx hb hts (fun w h => List.mem_cons_of_mem _ (List.mem_append_left _ (List.mem_append_right _ (h)))) hown hK hd hk_a1 hb1 rfl fs_4_10 (hts (.fieldLink RX7 112 "LevelVotes$House" "toldVotes" "LLevelVotes$Ballot;") (List.mem_of_getElem? (i := 3) rfl)) dX7_readPerson_72 (fun hq => ?_)
  have hk_b1 : kd b1 = 0 := hq
  refine lv_aload_n hx hb dX7_readPerson_75 rfl (lv_at hl 2 rfl) ?_
  refine r_geti hx hb hts (fun w h => List.mem_cons_of_mem _ (List.mem_append_left _ (List.mem_append_right _ (h)))) hown hK hd hk_a1 rfl 4 fs_4_4 (hts (.fieldLink RX7 77 "LevelVotes$House" "persons" "I") (List.mem_of_getElem? (i := 4) rfl)) dX7_readPerson_76 ?_
  refine lv_iload hx hb dX7_readPerson_79 (lv_at hl 3 rfl) ?_
  refine lv_iload hx hb dX7_readPerson_81 (lv_at hl 4 rfl) ?_
  obtain ⟨μ2, hc4, h⟩ := bV_e h
  refine rc_Vv (rest := []) [.int (μ.1 a1 4), .int x4, .int x5] ⟨hx, hb, hml, hown, hts⟩ hK hd hS (c_X0_put hk_b1 hc4) (cwV 3 hts gX7_readPerson_X0_put rfl rfl rfl hv_X0_put ⟨Nat.le_of_ble_eq_true rfl, Nat.le_of_ble_eq_true rfl⟩) hk_b1 rfl rfl rfl rfl hl.1 rfl (Nat.le_of_ble_eq_true rfl) dX7_readPerson_83 ⟨Nat.zero_le _, Nat.zero_le _⟩ (fun H locs hd hS => ?_)
  refine lv_iinc (v := x4 + (1 : Int32)) (lv' := [(4, .int (x4 + (1 : Int32))), (3, .int ys0), (0, .ref (z + a0)), (1, .ref (z + a1)), (5, .int x5)]) hx hb dX7_readPerson_86 hl (k := 3) rfl rfl (by decide) rfl (fun ls hl => ?_)
  refine lv_goto (tgt := 31) hx hb dX7_readPerson_89 (by decide) ?_
  exact hrc31 _ _ _ _ _ _ _ _ hk_a0 hk_a1 hd hS (lv_sub hl [2, 3, 1, 0] rfl) h
def f_X7_readPerson_j69 (rc31 : Mm → Nat → Nat → Int32 → Int32 → Option Mm) (μ : Mm) (a0 : Nat) (a1 : Nat) (x4 : Int32) (x5 : Int32) : Option Mm := f_X7_readPerson_j70 rc31 μ a0 a1 x4 x5 (0 : Int32)
set_option maxRecDepth 100000 in
theorem k_f_X7_readPerson_j69 {l : Launch} {D : va_G} {cA : Nat → ClassId} {z : Nat} {av : List Value} {p : Program} {e : Env} {s : State} {m : MethodId} {below : List Frame} {meth : Method} {c : Code} {μ' : Mm} (X : Fx D cA RX7 wsX7_readPerson cX7_readPerson 6 none p s m av.toArray meth c) {rc31 : Mm → Nat → Nat → Int32 → Int32 → Option Mm} (hrc31 : HL_X7_readPerson_31 l D cA z av μ' p e s m below meth c rc31) {μ : Mm} {a0 : Nat} {a1 : Nat} {x4 : Int32} {x5 : Int32} (hk_a0 : kd a0 = 7) (hk_a1 : kd a1 = 4) {H : Heap} {locs : List Loc} {ls : Array Slot} (hd : Wd D cA z μ H) (hS : va_S (Az z) s.heap H locs) (hl : lv_has ls 6 [(0, .ref (z + a0)), (1, .ref (z + a1)), (4, .int x4), (5, .int x5)]) (h : f_X7_readPerson_j69 rc31 μ a0 a1 x4 x5 = some μ') : WG l D cA z wsX7_readPerson 2 43 av none μ' p e s m below meth c H locs (F0 m 69 ls []) := by
  obtain ⟨hx, hb, hr, hlk, hml, hown, hts, hK⟩ := id X
  unfold f_X7_readPerson_j69 at h
  refine lv_iconst (v := 0) hx hb dX7_readPerson_69 (by decide) ?_
  exact k_f_X7_readPerson_j70 X hrc31 hk_a0 hk_a1 hd hS (lv_sub hl [0, 1, 2, 3] rfl) h
def f_X7_readPerson_L31b (rc31 : Mm → Nat → Nat → Int32 → Int32 → Option Mm) (μ : Mm) (a0 : Nat) (a1 : Nat) (x3 : Int32) (x4 : Int32) : Option Mm := if (5 : Int32) ≤ x4 then (f_X7_readPerson_j92 μ a0 a1 x3) else (if x3 = 0 then (f_X7_readPerson_j92 μ a0 a1 x3) else (bC (f_X7_figureAt μ a0 ((μ.1 a0 5) + x4)) (fun r4 μ3 => if r4 < 0 then (f_X7_readPerson_j69 rc31 μ3 a0 a1 x4 r4) else (if (2 : Int32) < r4 then (f_X7_readPerson_j69 rc31 μ3 a0 a1 x4 r4) else (f_X7_readPerson_j70 rc31 μ3 a0 a1 x4 r4 (1 : Int32))))))
set_option maxRecDepth 100000 in
theorem k_f_X7_readPerson_L31b {l : Launch} {D : va_G} {cA : Nat → ClassId} {z : Nat} {av : List Value} {p : Program} {e : Env} {s : State} {m : MethodId} {below : List Frame} {meth : Method} {c : Code} {μ' : Mm} (X : Fx D cA RX7 wsX7_readPerson cX7_readPerson 6 none p s m av.toArray meth c) {rc31 : Mm → Nat → Nat → Int32 → Int32 → Option Mm} (hrc31 : HL_X7_readPerson_31 l D cA z av μ' p e s m below meth c rc31) {μ : Mm} {a0 : Nat} {a1 : Nat} {x3 : Int32} {x4 : Int32} (hk_a0 : kd a0 = 7) (hk_a1 : kd a1 = 4) {H : Heap} {locs : List Loc} {ls : Array Slot} (hd : Wd D cA z μ H) (hS : va_S (Az z) s.heap H locs) (hl : lv_has ls 6 [(0, .ref (z + a0)), (1, .ref (z + a1)), (3, .int x3), (4, .int x4)]) (h : f_X7_readPerson_L31b rc31 μ a0 a1 x3 x4 = some μ') : WG l D cA z wsX7_readPerson 2 43 av none μ' p e s m below meth c H locs (F0 m 31 ls []) := by
  obtain ⟨hx, hb, hr, hlk, hml, hown, hts, hK⟩ := id X
  unfold f_X7_readPerson_L31b at h
  refine lv_iload hx hb dX7_readPerson_31 (lv_at hl 3 rfl) ?_
  refine lv_iconst (v := 5) hx hb dX7_readPerson_33 (by decide) ?_
  refine lv_icmp_ge (tgt := 92) hx hb dX7_readPerson_34 (by decide) (fun q1 => ?_) (fun q1 => ?_)
  · have h := if_y q1 h
    exact k_f_X7_readPerson_j92 X hk_a0 hk_a1 hd hS (lv_sub hl [0, 1, 2] rfl) h
  · have h := if_n q1 h
    refine lv_iload_n hx hb dX7_readPerson_37 rfl (lv_at hl 2 rfl) ?_
    refine lv_if_eq (tgt := 92) hx hb dX7_readPerson_38 (by decide) (fun q2 => ?_) (fun q2 => ?_)
    · have h := if_y q2 h
      exact k_f_X7_readPerson_j92 X hk_a0 hk_a1 hd hS (lv_sub hl [0, 1, 2] rfl) h
    · have h := if_n q2 h
      refine lv_aload_n hx hb dX7_readPerson_41 rfl (lv_at hl 0 rfl) ?_
      refine lv_aload_n hx hb dX7_readPerson_42 rfl (lv_at hl 0 rfl) ?_
      refine r_geti hx hb hts (fun w h => List.mem_cons_of_mem _ (List.mem_append_left _ (List.mem_append_left _ (List.mem_append_right _ (h))))) hown hK hd hk_a0 rfl 5 fs_7_5 (hts (.fieldLink RX7 98 "LevelVotes$Text" "numberAt" "I") (List.mem_of_getElem? (i := 2) rfl)) dX7_readPerson_43 ?_
      refine lv_iload hx hb dX7_readPerson_46 (lv_at hl 3 rfl) ?_
      refine lv_iadd hx hb dX7_readPerson_48 ?_
      obtain ⟨r4, μ3, hc5, h⟩ := bC_e h
      refine rc_Vi (rest := []) [.int ((μ.1 a0 5) + x4)] ⟨hx, hb, hml, hown, hts⟩ hK hd hS (c_X7_figureAt hk_a0 hc5) (cwV 1 hts gX7_readPerson_X7_figureAt rfl rfl rfl hv_X7_figureAt ⟨Nat.le_of_ble_eq_true rfl, Nat.le_of_ble_eq_true rfl⟩) hk_a0 rfl rfl rfl rfl hl.1 rfl (Nat.le_of_ble_eq_true rfl) dX7_readPerson_49 ⟨Nat.zero_le _, Nat.zero_le _⟩ (fun H locs hd hS => ?_)
      refine lv_istore (lv' := [(5, .int r4), (0, .ref (z + a0)), (1, .ref (z + a1)), (3, .int x3), (4, .int x4)]) hx hb dX7_readPerson_52 hl (by decide) rfl (fun ls hl => ?_)
      refine lv_iload hx hb dX7_readPerson_54 (lv_at hl 0 rfl) ?_
      refine lv_if_lt (tgt := 69) hx hb dX7_readPerson_56 (by decide) (fun q6 => ?_) (fun q6 => ?_)
      · have h := if_y q6 h
        exact k_f_X7_readPerson_j69 X hrc31 hk_a0 hk_a1 hd hS (lv_sub hl [1, 2, 4, 0] rfl) h
      · have h := if_n q6 h
        refine lv_iload hx hb dX7_readPerson_59 (lv_at hl 0 rfl) ?_
        refine lv_iconst (v := 2) hx hb dX7_readPerson_61 (by decide) ?_
        refine lv_icmp_gt (tgt := 69) hx hb dX7_readPerson_62 (by decide) (fun q7 => ?_) (fun q7 => ?_)
        · have h := if_y q7 h
          exact k_f_X7_readPerson_j69 X hrc31 hk_a0 hk_a1 hd hS (lv_sub hl [1, 2, 4, 0] rfl) h
        · have h := if_n q7 h
          refine lv_iconst (v := 1) hx hb dX7_readPerson_65 (by decide) ?_
          refine lv_goto (tgt := 70) hx hb dX7_readPerson_66 (by decide) ?_
          exact k_f_X7_readPerson_j70 X hrc31 hk_a0 hk_a1 hd hS (lv_sub hl [1, 2, 4, 0] rfl) h
def f_X7_readPerson_L31 : Nat → Mm → Nat → Nat → Int32 → Int32 → Option Mm
  | 0 => fun _ _ _ _ _ => none
  | n + 1 => fun μ a0 a1 x3 x4 => f_X7_readPerson_L31b (f_X7_readPerson_L31 n) μ a0 a1 x3 x4
theorem k_f_X7_readPerson_L31 {l : Launch} {D : va_G} {cA : Nat → ClassId} {z : Nat} {av : List Value} {p : Program} {e : Env} {s : State} {m : MethodId} {below : List Frame} {meth : Method} {c : Code} {μ' : Mm} (X : Fx D cA RX7 wsX7_readPerson cX7_readPerson 6 none p s m av.toArray meth c) (n : Nat) : HL_X7_readPerson_31 l D cA z av μ' p e s m below meth c (f_X7_readPerson_L31 n) := by
  induction n with
  | zero => intro _ _ _ _ _ _ _ _ _ _ _ _ _ h; have h2 : (none : Option _) = some _ := h; cases h2
  | succ n ih => intro μ H locs ls a0 a1 x3 x4 hk_a0 hk_a1 hd hS hl h; exact k_f_X7_readPerson_L31b X ih hk_a0 hk_a1 hd hS hl h
def f_X7_readPerson_j27 (μ : Mm) (a0 : Nat) (a1 : Nat) (ys0 : Int32) : Option Mm := f_X7_readPerson_L31 FU μ a0 a1 ys0 (0 : Int32)
set_option maxRecDepth 100000 in
theorem k_f_X7_readPerson_j27 {l : Launch} {D : va_G} {cA : Nat → ClassId} {z : Nat} {av : List Value} {p : Program} {e : Env} {s : State} {m : MethodId} {below : List Frame} {meth : Method} {c : Code} {μ' : Mm} (X : Fx D cA RX7 wsX7_readPerson cX7_readPerson 6 none p s m av.toArray meth c) {μ : Mm} {a0 : Nat} {a1 : Nat} {ys0 : Int32} (hk_a0 : kd a0 = 7) (hk_a1 : kd a1 = 4) {H : Heap} {locs : List Loc} {ls : Array Slot} (hd : Wd D cA z μ H) (hS : va_S (Az z) s.heap H locs) (hl : lv_has ls 6 [(0, .ref (z + a0)), (1, .ref (z + a1))]) (h : f_X7_readPerson_j27 μ a0 a1 ys0 = some μ') : WG l D cA z wsX7_readPerson 2 43 av none μ' p e s m below meth c H locs (F0 m 27 ls [.int ys0]) := by
  obtain ⟨hx, hb, hr, hlk, hml, hown, hts, hK⟩ := id X
  unfold f_X7_readPerson_j27 at h
  refine lv_istore_n (lv' := [(3, .int ys0), (0, .ref (z + a0)), (1, .ref (z + a1))]) hx hb dX7_readPerson_27 rfl hl (by decide) rfl (fun ls hl => ?_)
  refine lv_iconst (v := 0) hx hb dX7_readPerson_28 (by decide) ?_
  refine lv_istore (lv' := [(4, .int (0 : Int32)), (3, .int ys0), (0, .ref (z + a0)), (1, .ref (z + a1))]) hx hb dX7_readPerson_29 hl (by decide) rfl (fun ls hl => ?_)
  exact k_f_X7_readPerson_L31 X FU _ _ _ _ _ _ _ _ hk_a0 hk_a1 hd hS (lv_sub hl [2, 3, 1, 0] rfl) h
def f_X7_readPerson (μ : Mm) (a0 : Nat) (a1 : Nat) : Option Mm := bV (f_X7_skipBlanks μ a0) (fun μ1 => bC (f_X7_readFigures μ1 a0) (fun r5 μ4 => if (μ4.1 a0 3) = 0 then (if r5 = (5 : Int32) then (f_X7_readPerson_j27 μ4 a0 a1 (1 : Int32)) else (f_X7_readPerson_j27 μ4 a0 a1 (0 : Int32))) else (some μ4)))
set_option maxRecDepth 100000 in
theorem c_X7_readPerson {l : Launch} {D : va_G} {cA : Nat → ClassId} {z : Nat} {μ : Mm} {a0 : Nat} {a1 : Nat} {μ' : Mm} (hk_a0 : kd a0 = 7) (hk_a1 : kd a1 = 4) (h : f_X7_readPerson μ a0 a1 = some μ') : Ct l D cA z yX7_readPerson wsX7_readPerson 2 43 [.ref (z + a0), .ref (z + a1)] μ none μ' := by
  refine m_in (cc := cX7_readPerson) (maxL := 6) (ret := none) (own := RX7) (by decide) rfl rfl (Nat.le_of_ble_eq_true rfl) ?_
  intro p e s m below meth c ls X hd hS hl
  obtain ⟨hx, hb, hr, hlk, hml, hown, hts, hK⟩ := id X
  have hl : lv_has ls 6 [(0, .ref (z + a0)), (1, .ref (z + a1))] := hl
  unfold f_X7_readPerson at h
  refine lv_aload_n hx hb dX7_readPerson_0 rfl (lv_at hl 0 rfl) ?_
  obtain ⟨μ1, hc3, h⟩ := bV_e h
  refine rc_Vv (rest := []) [] ⟨hx, hb, hml, hown, hts⟩ hK hd hS (c_X7_skipBlanks hk_a0 hc3) (cwV 0 hts gX7_readPerson_X7_skipBlanks rfl rfl rfl hv_X7_skipBlanks ⟨Nat.le_of_ble_eq_true rfl, Nat.le_of_ble_eq_true rfl⟩) hk_a0 rfl rfl rfl rfl hl.1 rfl (Nat.le_of_ble_eq_true rfl) dX7_readPerson_1 ⟨Nat.zero_le _, Nat.zero_le _⟩ (fun H locs hd hS => ?_)
  refine lv_aload_n hx hb dX7_readPerson_4 rfl (lv_at hl 0 rfl) ?_
  obtain ⟨r5, μ4, hc6, h⟩ := bC_e h
  refine rc_Vi (rest := []) [] ⟨hx, hb, hml, hown, hts⟩ hK hd hS (c_X7_readFigures hk_a0 hc6) (cwV 0 hts gX7_readPerson_X7_readFigures rfl rfl rfl hv_X7_readFigures ⟨Nat.le_of_ble_eq_true rfl, Nat.le_of_ble_eq_true rfl⟩) hk_a0 rfl rfl rfl rfl hl.1 rfl (Nat.le_of_ble_eq_true rfl) dX7_readPerson_5 ⟨Nat.zero_le _, Nat.zero_le _⟩ (fun H locs hd hS => ?_)
  refine lv_istore_n (lv' := [(2, .int r5), (0, .ref (z + a0)), (1, .ref (z + a1))]) hx hb dX7_readPerson_8 rfl hl (by decide) rfl (fun ls hl => ?_)
  refine lv_aload_n hx hb dX7_readPerson_9 rfl (lv_at hl 1 rfl) ?_
  refine r_geti hx hb hts (fun w h => List.mem_cons_of_mem _ (List.mem_append_left _ (List.mem_append_left _ (List.mem_append_right _ (h))))) hown hK hd hk_a0 rfl 3 fs_7_3 (hts (.fieldLink RX7 27 "LevelVotes$Text" "flaw" "I") (List.mem_of_getElem? (i := 1) rfl)) dX7_readPerson_10 ?_
  refine lv_if_eq (tgt := 17) hx hb dX7_readPerson_13 (by decide) (fun q7 => ?_) (fun q7 => ?_)
  · have h := if_y q7 h
    refine lv_iload_n hx hb dX7_readPerson_17 rfl (lv_at hl 0 rfl) ?_
    refine lv_iconst (v := 5) hx hb dX7_readPerson_18 (by decide) ?_
    refine lv_icmp_ne (tgt := 26) hx hb dX7_readPerson_19 (by decide) (fun q8 => ?_) (fun q8 => ?_)
    · have h := if_n q8 h
      refine lv_iconst (v := 0) hx hb dX7_readPerson_26 (by decide) ?_
      exact k_f_X7_readPerson_j27 X hk_a0 hk_a1 hd hS (lv_sub hl [1, 2] rfl) h
    · have h := if_y q8 h
      refine lv_iconst (v := 1) hx hb dX7_readPerson_22 (by decide) ?_
      refine lv_goto (tgt := 27) hx hb dX7_readPerson_23 (by decide) ?_
      exact k_f_X7_readPerson_j27 X hk_a0 hk_a1 hd hS (lv_sub hl [1, 2] rfl) h
  · have h := if_n q7 h
    obtain rfl := sv_e h
    exact rt_v hx hb hr hlk hd hS dX7_readPerson_16
theorem hv_X7_readClose : yX7_readClose.cls = RX7 ∧ yX7_readClose.cls ≠ "java/lang/invoke/MethodHandle" ∧ yX7_readClose.cls ≠ "java/lang/invoke/VarHandle" ∧ (parseMethodDescriptor yX7_readClose.desc).map (fun d => d.parameters.length) = some 0 := by decide +kernel
def f_X7_readClose (μ : Mm) (a0 : Nat) : Option Mm := bV (f_X7_skipBlanks μ a0) (fun μ1 => bC (f_X7_letterAt μ1 a0 (μ1.1 a0 4)) (fun r5 μ4 => if r5 = (59 : Int32) then (bM (up2 μ4.1 a0 4 ((μ4.1 a0 4) + (1 : Int32)), μ4.2) (fun μ11 => some μ11)) else (bV (f_X7_fail μ4 a0 (1 : Int32) (μ4.1 a0 4)) (fun μ8 => some μ8))))
set_option maxRecDepth 100000 in
theorem c_X7_readClose {l : Launch} {D : va_G} {cA : Nat → ClassId} {z : Nat} {μ : Mm} {a0 : Nat} {μ' : Mm} (hk_a0 : kd a0 = 7) (h : f_X7_readClose μ a0 = some μ') : Ct l D cA z yX7_readClose wsX7_readClose 2 42 [.ref (z + a0)] μ none μ' := by
  refine m_in (cc := cX7_readClose) (maxL := 1) (ret := none) (own := RX7) (by decide) rfl rfl (Nat.le_of_ble_eq_true rfl) ?_
  intro p e s m below meth c ls X hd hS hl
  obtain ⟨hx, hb, hr, hlk, hml, hown, hts, hK⟩ := id X
  have hl : lv_has ls 1 [(0, .ref (z + a0))] := hl
  unfold f_X7_readClose at h
  refine lv_aload_n hx hb dX7_readClose_0 rfl (lv_at hl 0 rfl) ?_
  obtain ⟨μ1, hc3, h⟩ := bV_e h
  refine rc_Vv (rest := []) [] ⟨hx, hb, hml, hown, hts⟩ hK hd hS (c_X7_skipBlanks hk_a0 hc3) (cwV 0 hts gX7_readClose_X7_skipBlanks rfl rfl rfl hv_X7_skipBlanks ⟨Nat.le_of_ble_eq_true rfl, Nat.le_of_ble_eq_true rfl⟩) hk_a0 rfl rfl rfl rfl hl.1 rfl (Nat.le_of_ble_eq_true rfl) dX7_readClose_1 ⟨Nat.zero_le _, Nat.zero_le _⟩ (fun H locs hd hS => ?_)
  refine lv_aload_n hx hb dX7_readClose_4 rfl (lv_at hl 0 rfl) ?_
  refine lv_aload_n hx hb dX7_readClose_5 rfl (lv_at hl 0 rfl) ?_
  refine r_geti hx hb hts (fun w h => List.mem_cons_of_mem _ (List.mem_append_right _ (h))) hown hK hd hk_a0 rfl 4 fs_7_4 (hts (.fieldLink RX7 30 "LevelVotes$Text" "at" "I") (List.mem_of_getElem? (i := 1) rfl)) dX7_readClose_6 ?_
  obtain ⟨r5, μ4, hc6, h⟩ := bC_e h
  refine rc_Vi (rest := []) [.int (μ1.1 a0 4)] ⟨hx, hb, hml, hown, hts⟩ hK hd hS (c_X7_letterAt hk_a0 hc6) (cwV 1 hts gX7_readClose_X7_letterAt rfl rfl rfl hv_X7_letterAt ⟨Nat.le_of_ble_eq_true rfl, Nat.le_of_ble_eq_true rfl⟩) hk_a0 rfl rfl rfl rfl hl.1 rfl (Nat.le_of_ble_eq_true rfl) dX7_readClose_9 ⟨Nat.zero_le _, Nat.zero_le _⟩ (fun H locs hd hS => ?_)
  refine lv_bipush (v := 59) hx hb dX7_readClose_12 (by decide) ?_
  refine lv_icmp_ne (tgt := 30) hx hb dX7_readClose_14 (by decide) (fun q7 => ?_) (fun q7 => ?_)
  · have h := if_n q7 h
    refine lv_aload_n hx hb dX7_readClose_30 rfl (lv_at hl 0 rfl) ?_
    refine lv_iconst (v := 1) hx hb dX7_readClose_31 (by decide) ?_
    refine lv_aload_n hx hb dX7_readClose_32 rfl (lv_at hl 0 rfl) ?_
    refine r_geti hx hb hts (fun w h => List.mem_cons_of_mem _ (List.mem_append_right _ (h))) hown hK hd hk_a0 rfl 4 fs_7_4 (hts (.fieldLink RX7 30 "LevelVotes$Text" "at" "I") (List.mem_of_getElem? (i := 1) rfl)) dX7_readClose_33 ?_
    obtain ⟨μ8, hc10, h⟩ := bV_e h
    refine rc_Vv (rest := []) [.int (1 : Int32), .int (μ4.1 a0 4)] ⟨hx, hb, hml, hown, hts⟩ hK hd hS (c_X7_fail hk_a0 hc10) (cwV 2 hts gX7_readClose_X7_fail rfl rfl rfl hv_X7_fail ⟨Nat.le_of_ble_eq_true rfl, Nat.le_of_ble_eq_true rfl⟩) hk_a0 rfl rfl rfl rfl hl.1 rfl (Nat.le_of_ble_eq_true rfl) dX7_readClose_36 ⟨Nat.zero_le _, Nat.zero_le _⟩ (fun H locs hd hS => ?_)
    obtain rfl := sv_e h
    exact rt_v hx hb hr hlk hd hS dX7_readClose_39
  · have h := if_y q7 h
    refine lv_aload_n hx hb dX7_readClose_17 rfl (lv_at hl 0 rfl) ?_
    refine lv_dup hx hb dX7_readClose_18 rfl ?_
    refine r_geti hx hb hts (fun w h => List.mem_cons_of_mem _ (List.mem_append_right _ (h))) hown hK hd hk_a0 rfl 4 fs_7_4 (hts (.fieldLink RX7 30 "LevelVotes$Text" "at" "I") (List.mem_of_getElem? (i := 1) rfl)) dX7_readClose_19 ?_
    refine lv_iconst (v := 1) hx hb dX7_readClose_22 (by decide) ?_
    refine lv_iadd hx hb dX7_readClose_23 ?_
    refine r_puti hx hb hts (fun w h => List.mem_cons_of_mem _ (List.mem_append_right _ (h))) tyX7 tyX7_ok nmX7 hown hK hd hS hk_a0 rfl 4 fs_7_4 rfl (hts (.fieldLink RX7 30 "LevelVotes$Text" "at" "I") (List.mem_of_getElem? (i := 1) rfl)) (vp_nar_int _) rfl dX7_readClose_24 (fun μ11 eμ11 H locs hd hS => ?_)
    have h := bM_e eμ11 h
    refine lv_goto (tgt := 39) hx hb dX7_readClose_27 (by decide) ?_
    obtain rfl := sv_e h
    exact rt_v hx hb hr hlk hd hS dX7_readClose_39
theorem hv_X7_readClause : yX7_readClause.cls = RX7 ∧ yX7_readClause.cls ≠ "java/lang/invoke/MethodHandle" ∧ yX7_readClause.cls ≠ "java/lang/invoke/VarHandle" ∧ (parseMethodDescriptor yX7_readClause.desc).map (fun d => d.parameters.length) = some 1 := by decide +kernel
def f_X7_readClause_j86 (μ : Mm) (a0 : Nat) : Option Mm := bV (f_X7_readClose μ a0) (fun μ1 => some μ1)
set_option maxRecDepth 100000 in
theorem k_f_X7_readClause_j86 {l : Launch} {D : va_G} {cA : Nat → ClassId} {z : Nat} {av : List Value} {p : Program} {e : Env} {s : State} {m : MethodId} {below : List Frame} {meth : Method} {c : Code} {μ' : Mm} (X : Fx D cA RX7 wsX7_readClause cX7_readClause 4 none p s m av.toArray meth c) {μ : Mm} {a0 : Nat} (hk_a0 : kd a0 = 7) {H : Heap} {locs : List Loc} {ls : Array Slot} (hd : Wd D cA z μ H) (hS : va_S (Az z) s.heap H locs) (hl : lv_has ls 4 [(0, .ref (z + a0))]) (h : f_X7_readClause_j86 μ a0 = some μ') : WG l D cA z wsX7_readClause 4 92 av none μ' p e s m below meth c H locs (F0 m 86 ls []) := by
  obtain ⟨hx, hb, hr, hlk, hml, hown, hts, hK⟩ := id X
  unfold f_X7_readClause_j86 at h
  refine lv_aload_n hx hb dX7_readClause_86 rfl (lv_at hl 0 rfl) ?_
  obtain ⟨μ1, hc3, h⟩ := bV_e h
  refine rc_Vv (rest := []) [] ⟨hx, hb, hml, hown, hts⟩ hK hd hS (c_X7_readClose hk_a0 hc3) (cwV 0 hts gX7_readClause_X7_readClose rfl rfl rfl hv_X7_readClose ⟨Nat.le_of_ble_eq_true rfl, Nat.le_of_ble_eq_true rfl⟩) hk_a0 rfl rfl rfl rfl hl.1 rfl (Nat.le_of_ble_eq_true rfl) dX7_readClause_87 ⟨Nat.zero_le _, Nat.zero_le _⟩ (fun H locs hd hS => ?_)
  obtain rfl := sv_e h
  exact rt_v hx hb hr hlk hd hS dX7_readClause_90
def f_X7_readClause (μ : Mm) (a0 : Nat) (a1 : Nat) : Option Mm := bC (f_X7_letterAt μ a0 (μ.1 a0 4)) (fun r2 μ1 => bC (f_X7_flawOfWord μ1 r2 a1) (fun r5 μ4 => if r5 = 0 then (bM (up2 μ4.1 a0 4 ((μ4.1 a0 4) + (1 : Int32)), μ4.2) (fun μ8 => if r2 = (104 : Int32) then (bV (f_X7_readSize μ8 a0 a1) (fun μ21 => f_X7_readClause_j86 μ21 a0)) else (if r2 = (103 : Int32) then (bV (f_X7_readHeights μ8 a0 a1) (fun μ18 => f_X7_readClause_j86 μ18 a0)) else (if r2 = (105 : Int32) then (bV (f_X7_readItem μ8 a0 a1) (fun μ15 => f_X7_readClause_j86 μ15 a0)) else (bV (f_X7_readPerson μ8 a0 a1) (fun μ12 => f_X7_readClause_j86 μ12 a0)))))) else (bV (f_X7_fail μ4 a0 r5 (μ4.1 a0 4)) (fun μ24 => some μ24))))
set_option maxRecDepth 100000 in
theorem c_X7_readClause {l : Launch} {D : va_G} {cA : Nat → ClassId} {z : Nat} {μ : Mm} {a0 : Nat} {a1 : Nat} {μ' : Mm} (hk_a0 : kd a0 = 7) (hk_a1 : kd a1 = 4) (h : f_X7_readClause μ a0 a1 = some μ') : Ct l D cA z yX7_readClause wsX7_readClause 4 92 [.ref (z + a0), .ref (z + a1)] μ none μ' := by
  refine m_in (cc := cX7_readClause) (maxL := 4) (ret := none) (own := RX7) (by decide) rfl rfl (Nat.le_of_ble_eq_true rfl) ?_
  intro p e s m below meth c ls X hd hS hl
  obtain ⟨hx, hb, hr, hlk, hml, hown, hts, hK⟩ := id X
  have hl : lv_has ls 4 [(0, .ref (z + a0)), (1, .ref (z + a1))] := hl
  unfold f_X7_readClause at h
  refine lv_aload_n hx hb dX7_readClause_0 rfl (lv_at hl 0 rfl) ?_
  refine lv_aload_n hx hb dX7_readClause_1 rfl (lv_at hl 0 rfl) ?_
  refine r_geti hx hb hts (fun w h => List.mem_cons_of_mem _ (List.mem_append_left _ (List.mem_append_left _ (List.mem_append_right _ (h))))) hown hK hd hk_a0 rfl 4 fs_7_4 (hts (.fieldLink RX7 30 "LevelVotes$Text" "at" "I") (List.mem_of_getElem? (i := 1) rfl)) dX7_readClause_2 ?_
  obtain ⟨r2, μ1, hc3, h⟩ := bC_e h
  refine rc_Vi (rest := []) [.int (μ.1 a0 4)] ⟨hx, hb, hml, hown, hts⟩ hK hd hS (c_X7_letterAt hk_a0 hc3) (cwV 1 hts gX7_readClause_X7_letterAt rfl rfl rfl hv_X7_letterAt ⟨Nat.le_of_ble_eq_true rfl, Nat.le_of_ble_eq_true rfl⟩) hk_a0 rfl rfl rfl rfl hl.1 rfl (Nat.le_of_ble_eq_true rfl) dX7_readClause_5 ⟨Nat.zero_le _, Nat.zero_le _⟩ (fun H locs hd hS => ?_)
  refine lv_istore_n (lv' := [(2, .int r2), (0, .ref (z + a0)), (1, .ref (z + a1))]) hx hb dX7_readClause_8 rfl hl (by decide) rfl (fun ls hl => ?_)
  refine lv_iload_n hx hb dX7_readClause_9 rfl (lv_at hl 0 rfl) ?_
  refine lv_aload_n hx hb dX7_readClause_10 rfl (lv_at hl 2 rfl) ?_
  obtain ⟨r5, μ4, hc6, h⟩ := bC_e h
  refine rc_Si (rest := []) [.int r2, .ref (z + a1)] ⟨hx, hb, hml, hown, hts⟩ hK hd hS (c_X7_flawOfWord hk_a1 hc6) (va_cwS 2 hts gX7_readClause_X7_flawOfWord rfl rfl rfl hn_X7_flawOfWord ⟨Nat.le_of_ble_eq_true rfl, Nat.le_of_ble_eq_true rfl⟩) rfl hl.1 rfl (Nat.le_of_ble_eq_true rfl) dX7_readClause_11 ⟨Nat.zero_le _, Nat.zero_le _⟩ (fun H locs hd hS => ?_)
  refine lv_istore_n (lv' := [(3, .int r5), (2, .int r2), (0, .ref (z + a0)), (1, .ref (z + a1))]) hx hb dX7_readClause_14 rfl hl (by decide) rfl (fun ls hl => ?_)
  refine lv_iload_n hx hb dX7_readClause_15 rfl (lv_at hl 0 rfl) ?_
  refine lv_if_eq (tgt := 29) hx hb dX7_readClause_16 (by decide) (fun q7 => ?_) (fun q7 => ?_)
  · have h := if_y q7 h
    refine lv_aload_n hx hb dX7_readClause_29 rfl (lv_at hl 2 rfl) ?_
    refine lv_dup hx hb dX7_readClause_30 rfl ?_
    refine r_geti hx hb hts (fun w h => List.mem_cons_of_mem _ (List.mem_append_left _ (List.mem_append_left _ (List.mem_append_right _ (h))))) hown hK hd hk_a0 rfl 4 fs_7_4 (hts (.fieldLink RX7 30 "LevelVotes$Text" "at" "I") (List.mem_of_getElem? (i := 1) rfl)) dX7_readClause_31 ?_
    refine lv_iconst (v := 1) hx hb dX7_readClause_34 (by decide) ?_
    refine lv_iadd hx hb dX7_readClause_35 ?_
    refine r_puti hx hb hts (fun w h => List.mem_cons_of_mem _ (List.mem_append_left _ (List.mem_append_left _ (List.mem_append_right _ (h))))) tyX7 tyX7_ok nmX7 hown hK hd hS hk_a0 rfl 4 fs_7_4 rfl (hts (.fieldLink RX7 30 "LevelVotes$Text" "at" "I") (List.mem_of_getElem? (i := 1) rfl)) (vp_nar_int _) rfl dX7_readClause_36 (fun μ8 eμ8 H locs hd hS => ?_)
    have h := bM_e eμ8 h
    refine lv_iload_n hx hb dX7_readClause_39 rfl (lv_at hl 1 rfl) ?_
    refine lv_bipush (v := 104) hx hb dX7_readClause_40 (by decide) ?_
    refine lv_icmp_ne (tgt := 53) hx hb dX7_readClause_42 (by decide) (fun q9 => ?_) (fun q9 => ?_)
    · have h := if_n q9 h
      refine lv_iload_n hx hb dX7_readClause_53 rfl (lv_at hl 1 rfl) ?_
      refine lv_bipush (v := 103) hx hb dX7_readClause_54 (by decide) ?_
      refine lv_icmp_ne (tgt := 67) hx hb dX7_readClause_56 (by decide) (fun q10 => ?_) (fun q10 => ?_)
      · have h := if_n q10 h
        refine lv_iload_n hx hb dX7_readClause_67 rfl (lv_at hl 1 rfl) ?_
        refine lv_bipush (v := 105) hx hb dX7_readClause_68 (by decide) ?_
        refine lv_icmp_ne (tgt := 81) hx hb dX7_readClause_70 (by decide) (fun q11 => ?_) (fun q11 => ?_)
        · have h := if_n q11 h
          refine lv_aload_n hx hb dX7_readClause_81 rfl (lv_at hl 2 rfl) ?_
          refine lv_aload_n hx hb dX7_readClause_82 rfl (lv_at hl 3 rfl) ?_
          obtain ⟨μ12, hc14, h⟩ := bV_e h
          refine rc_Vv (rest := []) [.ref (z + a1)] ⟨hx, hb, hml, hown, hts⟩ hK hd hS (c_X7_readPerson hk_a0 hk_a1 hc14) (cwV 1 hts gX7_readClause_X7_readPerson rfl rfl rfl hv_X7_readPerson ⟨Nat.le_of_ble_eq_true rfl, Nat.le_of_ble_eq_true rfl⟩) hk_a0 rfl rfl rfl rfl hl.1 rfl (Nat.le_of_ble_eq_true rfl) dX7_readClause_83 ⟨Nat.zero_le _, Nat.zero_le _⟩ (fun H locs hd hS => ?_)
          exact k_f_X7_readClause_j86 X hk_a0 hd hS (lv_sub hl [2] rfl) h
        · have h := if_y q11 h
          refine lv_aload_n hx hb dX7_readClause_73 rfl (lv_at hl 2 rfl) ?_
          refine lv_aload_n hx hb dX7_readClause_74 rfl (lv_at hl 3 rfl) ?_
          obtain ⟨μ15, hc17, h⟩ := bV_e h
          refine rc_Vv (rest := []) [.ref (z + a1)] ⟨hx, hb, hml, hown, hts⟩ hK hd hS (c_X7_readItem hk_a0 hk_a1 hc17) (cwV 1 hts gX7_readClause_X7_readItem rfl rfl rfl hv_X7_readItem ⟨Nat.le_of_ble_eq_true rfl, Nat.le_of_ble_eq_true rfl⟩) hk_a0 rfl rfl rfl rfl hl.1 rfl (Nat.le_of_ble_eq_true rfl) dX7_readClause_75 ⟨Nat.zero_le _, Nat.zero_le _⟩ (fun H locs hd hS => ?_)
          refine lv_goto (tgt := 86) hx hb dX7_readClause_78 (by decide) ?_
          exact k_f_X7_readClause_j86 X hk_a0 hd hS (lv_sub hl [2] rfl) h
      · have h := if_y q10 h
        refine lv_aload_n hx hb dX7_readClause_59 rfl (lv_at hl 2 rfl) ?_
        refine lv_aload_n hx hb dX7_readClause_60 rfl (lv_at hl 3 rfl) ?_
        obtain ⟨μ18, hc20, h⟩ := bV_e h
        refine rc_Vv (rest := []) [.ref (z + a1)] ⟨hx, hb, hml, hown, hts⟩ hK hd hS (c_X7_readHeights hk_a0 hk_a1 hc20) (cwV 1 hts gX7_readClause_X7_readHeights rfl rfl rfl hv_X7_readHeights ⟨Nat.le_of_ble_eq_true rfl, Nat.le_of_ble_eq_true rfl⟩) hk_a0 rfl rfl rfl rfl hl.1 rfl (Nat.le_of_ble_eq_true rfl) dX7_readClause_61 ⟨Nat.zero_le _, Nat.zero_le _⟩ (fun H locs hd hS => ?_)
        refine lv_goto (tgt := 86) hx hb dX7_readClause_64 (by decide) ?_
        exact k_f_X7_readClause_j86 X hk_a0 hd hS (lv_sub hl [2] rfl) h
    · have h := if_y q9 h
      refine lv_aload_n hx hb dX7_readClause_45 rfl (lv_at hl 2 rfl) ?_
      refine lv_aload_n hx hb dX7_readClause_46 rfl (lv_at hl 3 rfl) ?_
      obtain ⟨μ21, hc23, h⟩ := bV_e h
      refine rc_Vv (rest := []) [.ref (z + a1)] ⟨hx, hb, hml, hown, hts⟩ hK hd hS (c_X7_readSize hk_a0 hk_a1 hc23) (cwV 1 hts gX7_readClause_X7_readSize rfl rfl rfl hv_X7_readSize ⟨Nat.le_of_ble_eq_true rfl, Nat.le_of_ble_eq_true rfl⟩) hk_a0 rfl rfl rfl rfl hl.1 rfl (Nat.le_of_ble_eq_true rfl) dX7_readClause_47 ⟨Nat.zero_le _, Nat.zero_le _⟩ (fun H locs hd hS => ?_)
      refine lv_goto (tgt := 86) hx hb dX7_readClause_50 (by decide) ?_
      exact k_f_X7_readClause_j86 X hk_a0 hd hS (lv_sub hl [2] rfl) h
  · have h := if_n q7 h
    refine lv_aload_n hx hb dX7_readClause_19 rfl (lv_at hl 2 rfl) ?_
    refine lv_iload_n hx hb dX7_readClause_20 rfl (lv_at hl 0 rfl) ?_
    refine lv_aload_n hx hb dX7_readClause_21 rfl (lv_at hl 2 rfl) ?_
    refine r_geti hx hb hts (fun w h => List.mem_cons_of_mem _ (List.mem_append_left _ (List.mem_append_left _ (List.mem_append_right _ (h))))) hown hK hd hk_a0 rfl 4 fs_7_4 (hts (.fieldLink RX7 30 "LevelVotes$Text" "at" "I") (List.mem_of_getElem? (i := 1) rfl)) dX7_readClause_22 ?_
    obtain ⟨μ24, hc26, h⟩ := bV_e h
    refine rc_Vv (rest := []) [.int r5, .int (μ4.1 a0 4)] ⟨hx, hb, hml, hown, hts⟩ hK hd hS (c_X7_fail hk_a0 hc26) (cwV 2 hts gX7_readClause_X7_fail rfl rfl rfl hv_X7_fail ⟨Nat.le_of_ble_eq_true rfl, Nat.le_of_ble_eq_true rfl⟩) hk_a0 rfl rfl rfl rfl hl.1 rfl (Nat.le_of_ble_eq_true rfl) dX7_readClause_25 ⟨Nat.zero_le _, Nat.zero_le _⟩ (fun H locs hd hS => ?_)
    obtain rfl := sv_e h
    exact rt_v hx hb hr hlk hd hS dX7_readClause_28
theorem hv_X7_readInto : yX7_readInto.cls = RX7 ∧ yX7_readInto.cls ≠ "java/lang/invoke/MethodHandle" ∧ yX7_readInto.cls ≠ "java/lang/invoke/VarHandle" ∧ (parseMethodDescriptor yX7_readInto.desc).map (fun d => d.parameters.length) = some 1 := by decide +kernel
abbrev HL_X7_readInto_25 (l : Launch) (D : va_G) (cA : Nat → ClassId) (z : Nat) (av : List Value) (r : Int32) (μ' : Mm) (p : Program) (e : Env) (s : State) (m : MethodId) (below : List Frame) (meth : Method) (c : Code) (rc : Mm → Nat → Nat → Int32 → Option (Int32 × Mm)) : Prop := ∀ (μ : Mm) (H : Heap) (locs : List Loc) (ls : Array Slot) (a0 : Nat) (a1 : Nat) (x2 : Int32), kd a0 = 7 → kd a1 = 4 → Wd D cA z μ H → va_S (Az z) s.heap H locs → lv_has ls 3 [(0, .ref (z + a0)), (1, .ref (z + a1)), (2, .int x2)] → rc μ a0 a1 x2 = some (r, μ') → WG l D cA z wsX7_readInto 5 115 av (some (.int r)) μ' p e s m below meth c H locs (F0 m 25 ls [])
def f_X7_readInto_j65 (μ : Mm) (a0 : Nat) : Option (Int32 × Mm) := bM (up2 μ.1 a0 1 (0 : Int32), μ.2) (fun μ1 => some (μ1.1 a0 3, μ1))
set_option maxRecDepth 100000 in
theorem k_f_X7_readInto_j65 {l : Launch} {D : va_G} {cA : Nat → ClassId} {z : Nat} {av : List Value} {p : Program} {e : Env} {s : State} {m : MethodId} {below : List Frame} {meth : Method} {c : Code} {r : Int32} {μ' : Mm} (X : Fx D cA RX7 wsX7_readInto cX7_readInto 3 (some .int) p s m av.toArray meth c) {μ : Mm} {a0 : Nat} (hk_a0 : kd a0 = 7) {H : Heap} {locs : List Loc} {ls : Array Slot} (hd : Wd D cA z μ H) (hS : va_S (Az z) s.heap H locs) (hl : lv_has ls 3 [(0, .ref (z + a0))]) (h : f_X7_readInto_j65 μ a0 = some (r, μ')) : WG l D cA z wsX7_readInto 5 115 av (some (.int r)) μ' p e s m below meth c H locs (F0 m 65 ls []) := by
  obtain ⟨hx, hb, hr, hlk, hml, hown, hts, hK⟩ := id X
  unfold f_X7_readInto_j65 at h
  refine lv_aload_n hx hb dX7_readInto_65 rfl (lv_at hl 0 rfl) ?_
  refine lv_iconst (v := 0) hx hb dX7_readInto_66 (by decide) ?_
  refine r_puti hx hb hts (fun w h => List.mem_cons_of_mem _ (List.mem_append_left _ (List.mem_append_left _ (List.mem_append_right _ (h))))) tyX7 tyX7_ok nmX7 hown hK hd hS hk_a0 rfl 1 fs_7_1 rfl (hts (.fieldLink RX7 19 "LevelVotes$Text" "size" "I") (List.mem_of_getElem? (i := 4) rfl)) (vp_nar_int _) rfl dX7_readInto_67 (fun μ1 eμ1 H locs hd hS => ?_)
  have h := bM_e eμ1 h
  refine lv_aload_n hx hb dX7_readInto_70 rfl (lv_at hl 0 rfl) ?_
  refine r_geti hx hb hts (fun w h => List.mem_cons_of_mem _ (List.mem_append_left _ (List.mem_append_left _ (List.mem_append_right _ (h))))) hown hK hd hk_a0 rfl 3 fs_7_3 (hts (.fieldLink RX7 27 "LevelVotes$Text" "flaw" "I") (List.mem_of_getElem? (i := 1) rfl)) dX7_readInto_71 ?_
  obtain ⟨rfl, rfl⟩ := so_e h
  exact rt_i hx hb hr hlk hd hS dX7_readInto_74
def f_X7_readInto_L25b (rc25 : Mm → Nat → Nat → Int32 → Option (Int32 × Mm)) (μ : Mm) (a0 : Nat) (a1 : Nat) (x2 : Int32) : Option (Int32 × Mm) := if (240 : Int32) ≤ x2 then (f_X7_readInto_j65 μ a0) else (if (μ.1 a0 1) ≤ (μ.1 a0 4) then (f_X7_readInto_j65 μ a0) else (if (μ.1 a0 3) = 0 then (bV (f_X7_readClause μ a0 a1) (fun μ4 => bV (f_X7_skipBlanks μ4 a0) (fun μ7 => rc25 μ7 a0 a1 (x2 + (1 : Int32))))) else (f_X7_readInto_j65 μ a0)))
set_option maxRecDepth 100000 in
theorem k_f_X7_readInto_L25b {l : Launch} {D : va_G} {cA : Nat → ClassId} {z : Nat} {av : List Value} {p : Program} {e : Env} {s : State} {m : MethodId} {below : List Frame} {meth : Method} {c : Code} {r : Int32} {μ' : Mm} (X : Fx D cA RX7 wsX7_readInto cX7_readInto 3 (some .int) p s m av.toArray meth c) {rc25 : Mm → Nat → Nat → Int32 → Option (Int32 × Mm)} (hrc25 : HL_X7_readInto_25 l D cA z av r μ' p e s m below meth c rc25) {μ : Mm} {a0 : Nat} {a1 : Nat} {x2 : Int32} (hk_a0 : kd a0 = 7) (hk_a1 : kd a1 = 4) {H : Heap} {locs : List Loc} {ls : Array Slot} (hd : Wd D cA z μ H) (hS : va_S (Az z) s.heap H locs) (hl : lv_has ls 3 [(0, .ref (z + a0)), (1, .ref (z + a1)), (2, .int x2)]) (h : f_X7_readInto_L25b rc25 μ a0 a1 x2 = some (r, μ')) : WG l D cA z wsX7_readInto 5 115 av (some (.int r)) μ' p e s m below meth c H locs (F0 m 25 ls []) := by
  obtain ⟨hx, hb, hr, hlk, hml, hown, hts, hK⟩ := id X
  unfold f_X7_readInto_L25b at h
  refine lv_iload_n hx hb dX7_readInto_25 rfl (lv_at hl 2 rfl) ?_
  refine lv_sipush (v := 240) hx hb dX7_readInto_26 (by decide) ?_
  refine lv_icmp_ge (tgt := 65) hx hb dX7_readInto_29 (by decide) (fun q1 => ?_) (fun q1 => ?_)
  · have h := if_y q1 h
    exact k_f_X7_readInto_j65 X hk_a0 hd hS (lv_sub hl [0] rfl) h
  · have h := if_n q1 h
    refine lv_aload_n hx hb dX7_readInto_32 rfl (lv_at hl 0 rfl) ?_
    refine r_geti hx hb hts (fun w h => List.mem_cons_of_mem _ (List.mem_append_left _ (List.mem_append_left _ (List.mem_append_right _ (h))))) hown hK hd hk_a0 rfl 4 fs_7_4 (hts (.fieldLink RX7 30 "LevelVotes$Text" "at" "I") (List.mem_of_getElem? (i := 3) rfl)) dX7_readInto_33 ?_
    refine lv_aload_n hx hb dX7_readInto_36 rfl (lv_at hl 0 rfl) ?_
    refine r_geti hx hb hts (fun w h => List.mem_cons_of_mem _ (List.mem_append_left _ (List.mem_append_left _ (List.mem_append_right _ (h))))) hown hK hd hk_a0 rfl 1 fs_7_1 (hts (.fieldLink RX7 19 "LevelVotes$Text" "size" "I") (List.mem_of_getElem? (i := 4) rfl)) dX7_readInto_37 ?_
    refine lv_icmp_ge (tgt := 65) hx hb dX7_readInto_40 (by decide) (fun q2 => ?_) (fun q2 => ?_)
    · have h := if_y q2 h
      exact k_f_X7_readInto_j65 X hk_a0 hd hS (lv_sub hl [0] rfl) h
    · have h := if_n q2 h
      refine lv_aload_n hx hb dX7_readInto_43 rfl (lv_at hl 0 rfl) ?_
      refine r_geti hx hb hts (fun w h => List.mem_cons_of_mem _ (List.mem_append_left _ (List.mem_append_left _ (List.mem_append_right _ (h))))) hown hK hd hk_a0 rfl 3 fs_7_3 (hts (.fieldLink RX7 27 "LevelVotes$Text" "flaw" "I") (List.mem_of_getElem? (i := 1) rfl)) dX7_readInto_44 ?_
      refine lv_if_ne (tgt := 65) hx hb dX7_readInto_47 (by decide) (fun q3 => ?_) (fun q3 => ?_)
      · have h := if_n q3 h
        exact k_f_X7_readInto_j65 X hk_a0 hd hS (lv_sub hl [0] rfl) h
      · have h := if_y q3 h
        refine lv_aload_n hx hb dX7_readInto_50 rfl (lv_at hl 0 rfl) ?_
        refine lv_aload_n hx hb dX7_readInto_51 rfl (lv_at hl 1 rfl) ?_
        obtain ⟨μ4, hc6, h⟩ := bV_e h
        refine rc_Vv (rest := []) [.ref (z + a1)] ⟨hx, hb, hml, hown, hts⟩ hK hd hS (c_X7_readClause hk_a0 hk_a1 hc6) (cwV 1 hts gX7_readInto_X7_readClause rfl rfl rfl hv_X7_readClause ⟨Nat.le_of_ble_eq_true rfl, Nat.le_of_ble_eq_true rfl⟩) hk_a0 rfl rfl rfl rfl hl.1 rfl (Nat.le_of_ble_eq_true rfl) dX7_readInto_52 ⟨Nat.zero_le _, Nat.zero_le _⟩ (fun H locs hd hS => ?_)
        refine lv_aload_n hx hb dX7_readInto_55 rfl (lv_at hl 0 rfl) ?_
        obtain ⟨μ7, hc9, h⟩ := bV_e h
        refine rc_Vv (rest := []) [] ⟨hx, hb, hml, hown, hts⟩ hK hd hS (c_X7_skipBlanks hk_a0 hc9) (cwV 0 hts gX7_readInto_X7_skipBlanks rfl rfl rfl hv_X7_skipBlanks ⟨Nat.le_of_ble_eq_true rfl, Nat.le_of_ble_eq_true rfl⟩) hk_a0 rfl rfl rfl rfl hl.1 rfl (Nat.le_of_ble_eq_true rfl) dX7_readInto_56 ⟨Nat.zero_le _, Nat.zero_le _⟩ (fun H locs hd hS => ?_)
        refine lv_iinc (v := x2 + (1 : Int32)) (lv' := [(2, .int (x2 + (1 : Int32))), (0, .ref (z + a0)), (1, .ref (z + a1))]) hx hb dX7_readInto_59 hl (k := 2) rfl rfl (by decide) rfl (fun ls hl => ?_)
        refine lv_goto (tgt := 25) hx hb dX7_readInto_62 (by decide) ?_
        exact hrc25 _ _ _ _ _ _ _ hk_a0 hk_a1 hd hS (lv_sub hl [1, 2, 0] rfl) h
def f_X7_readInto_L25 : Nat → Mm → Nat → Nat → Int32 → Option (Int32 × Mm)
  | 0 => fun _ _ _ _ => none
  | n + 1 => fun μ a0 a1 x2 => f_X7_readInto_L25b (f_X7_readInto_L25 n) μ a0 a1 x2
theorem k_f_X7_readInto_L25 {l : Launch} {D : va_G} {cA : Nat → ClassId} {z : Nat} {av : List Value} {p : Program} {e : Env} {s : State} {m : MethodId} {below : List Frame} {meth : Method} {c : Code} {r : Int32} {μ' : Mm} (X : Fx D cA RX7 wsX7_readInto cX7_readInto 3 (some .int) p s m av.toArray meth c) (n : Nat) : HL_X7_readInto_25 l D cA z av r μ' p e s m below meth c (f_X7_readInto_L25 n) := by
  induction n with
  | zero => intro _ _ _ _ _ _ _ _ _ _ _ _ h; have h2 : (none : Option _) = some _ := h; cases h2
  | succ n ih => intro μ H locs ls a0 a1 x2 hk_a0 hk_a1 hd hS hl h; exact k_f_X7_readInto_L25b X ih hk_a0 hk_a1 hd hS hl h
def f_X7_readInto (μ : Mm) (a0 : Nat) (a1 : Nat) : Option (Int32 × Mm) := bV (f_X4_clear μ a1) (fun μ1 => bM (up2 μ1.1 a0 3 (0 : Int32), μ1.2) (fun μ4 => bM (up2 μ4.1 a0 2 (-1 : Int32), μ4.2) (fun μ5 => bM (up2 μ5.1 a0 4 (0 : Int32), μ5.2) (fun μ6 => bV (f_X7_skipBlanks μ6 a0) (fun μ7 => f_X7_readInto_L25 FU μ7 a0 a1 (0 : Int32))))))
set_option maxRecDepth 100000 in
theorem c_X7_readInto {l : Launch} {D : va_G} {cA : Nat → ClassId} {z : Nat} {μ : Mm} {a0 : Nat} {a1 : Nat} {r : Int32} {μ' : Mm} (hk_a0 : kd a0 = 7) (hk_a1 : kd a1 = 4) (h : f_X7_readInto μ a0 a1 = some (r, μ')) : Ct l D cA z yX7_readInto wsX7_readInto 5 115 [.ref (z + a0), .ref (z + a1)] μ (some (.int r)) μ' := by
  refine m_in (cc := cX7_readInto) (maxL := 3) (ret := (some .int)) (own := RX7) (by decide) rfl rfl (Nat.le_of_ble_eq_true rfl) ?_
  intro p e s m below meth c ls X hd hS hl
  obtain ⟨hx, hb, hr, hlk, hml, hown, hts, hK⟩ := id X
  have hl : lv_has ls 3 [(0, .ref (z + a0)), (1, .ref (z + a1))] := hl
  unfold f_X7_readInto at h
  refine lv_aload_n hx hb dX7_readInto_0 rfl (lv_at hl 1 rfl) ?_
  obtain ⟨μ1, hc3, h⟩ := bV_e h
  refine rc_Vv (rest := []) [] ⟨hx, hb, hml, hown, hts⟩ hK hd hS (c_X4_clear hk_a1 hc3) (cwV 0 hts gX7_readInto_X4_clear rfl rfl rfl hv_X4_clear ⟨Nat.le_of_ble_eq_true rfl, Nat.le_of_ble_eq_true rfl⟩) hk_a1 rfl rfl rfl rfl hl.1 rfl (Nat.le_of_ble_eq_true rfl) dX7_readInto_1 ⟨Nat.zero_le _, Nat.zero_le _⟩ (fun H locs hd hS => ?_)
  refine lv_aload_n hx hb dX7_readInto_4 rfl (lv_at hl 0 rfl) ?_
  refine lv_iconst (v := 0) hx hb dX7_readInto_5 (by decide) ?_
  refine r_puti hx hb hts (fun w h => List.mem_cons_of_mem _ (List.mem_append_left _ (List.mem_append_left _ (List.mem_append_right _ (h))))) tyX7 tyX7_ok nmX7 hown hK hd hS hk_a0 rfl 3 fs_7_3 rfl (hts (.fieldLink RX7 27 "LevelVotes$Text" "flaw" "I") (List.mem_of_getElem? (i := 1) rfl)) (vp_nar_int _) rfl dX7_readInto_6 (fun μ4 eμ4 H locs hd hS => ?_)
  have h := bM_e eμ4 h
  refine lv_aload_n hx hb dX7_readInto_9 rfl (lv_at hl 0 rfl) ?_
  refine lv_iconst (v := -1) hx hb dX7_readInto_10 (by decide) ?_
  refine r_puti hx hb hts (fun w h => List.mem_cons_of_mem _ (List.mem_append_left _ (List.mem_append_left _ (List.mem_append_right _ (h))))) tyX7 tyX7_ok nmX7 hown hK hd hS hk_a0 rfl 2 fs_7_2 rfl (hts (.fieldLink RX7 15 "LevelVotes$Text" "flawAt" "I") (List.mem_of_getElem? (i := 2) rfl)) (vp_nar_int _) rfl dX7_readInto_11 (fun μ5 eμ5 H locs hd hS => ?_)
  have h := bM_e eμ5 h
  refine lv_aload_n hx hb dX7_readInto_14 rfl (lv_at hl 0 rfl) ?_
  refine lv_iconst (v := 0) hx hb dX7_readInto_15 (by decide) ?_
  refine r_puti hx hb hts (fun w h => List.mem_cons_of_mem _ (List.mem_append_left _ (List.mem_append_left _ (List.mem_append_right _ (h))))) tyX7 tyX7_ok nmX7 hown hK hd hS hk_a0 rfl 4 fs_7_4 rfl (hts (.fieldLink RX7 30 "LevelVotes$Text" "at" "I") (List.mem_of_getElem? (i := 3) rfl)) (vp_nar_int _) rfl dX7_readInto_16 (fun μ6 eμ6 H locs hd hS => ?_)
  have h := bM_e eμ6 h
  refine lv_aload_n hx hb dX7_readInto_19 rfl (lv_at hl 0 rfl) ?_
  obtain ⟨μ7, hc9, h⟩ := bV_e h
  refine rc_Vv (rest := []) [] ⟨hx, hb, hml, hown, hts⟩ hK hd hS (c_X7_skipBlanks hk_a0 hc9) (cwV 0 hts gX7_readInto_X7_skipBlanks rfl rfl rfl hv_X7_skipBlanks ⟨Nat.le_of_ble_eq_true rfl, Nat.le_of_ble_eq_true rfl⟩) hk_a0 rfl rfl rfl rfl hl.1 rfl (Nat.le_of_ble_eq_true rfl) dX7_readInto_20 ⟨Nat.zero_le _, Nat.zero_le _⟩ (fun H locs hd hS => ?_)
  refine lv_iconst (v := 0) hx hb dX7_readInto_23 (by decide) ?_
  refine lv_istore_n (lv' := [(2, .int (0 : Int32)), (0, .ref (z + a0)), (1, .ref (z + a1))]) hx hb dX7_readInto_24 rfl hl (by decide) rfl (fun ls hl => ?_)
  exact k_f_X7_readInto_L25 X FU _ _ _ _ _ _ _ hk_a0 hk_a1 hd hS (lv_sub hl [1, 2, 0] rfl) h
theorem hv_X8_countFor : yX8_countFor.cls = RX8 ∧ yX8_countFor.cls ≠ "java/lang/invoke/MethodHandle" ∧ yX8_countFor.cls ≠ "java/lang/invoke/VarHandle" ∧ (parseMethodDescriptor yX8_countFor.desc).map (fun d => d.parameters.length) = some 1 := by decide +kernel
abbrev HL_X8_countFor_4 (l : Launch) (D : va_G) (cA : Nat → ClassId) (z : Nat) (av : List Value) (r : Int32) (μ' : Mm) (p : Program) (e : Env) (s : State) (m : MethodId) (below : List Frame) (meth : Method) (c : Code) (rc : Mm → Int32 → Int32 → Int32 → Option (Int32 × Mm)) : Prop := ∀ (μ : Mm) (H : Heap) (locs : List Loc) (ls : Array Slot) (x1 : Int32) (x2 : Int32) (x3 : Int32), Wd D cA z μ H → va_S (Az z) s.heap H locs → lv_has ls 4 [(1, .int x1), (2, .int x2), (3, .int x3)] → rc μ x1 x2 x3 = some (r, μ') → WG l D cA z wsX8_countFor 0 0 av (some (.int r)) μ' p e s m below meth c H locs (F0 m 4 ls [])
def f_X8_countFor_L4b (rc4 : Mm → Int32 → Int32 → Int32 → Option (Int32 × Mm)) (μ : Mm) (x1 : Int32) (x2 : Int32) (x3 : Int32) : Option (Int32 × Mm) := if x1 ≤ x3 then (some (x2, μ)) else (bI (x2 * (3 : Int32)) (fun v2 => rc4 μ x1 v2 (x3 + (1 : Int32))))
set_option maxRecDepth 100000 in
theorem k_f_X8_countFor_L4b {l : Launch} {D : va_G} {cA : Nat → ClassId} {z : Nat} {av : List Value} {p : Program} {e : Env} {s : State} {m : MethodId} {below : List Frame} {meth : Method} {c : Code} {r : Int32} {μ' : Mm} (X : Fx D cA RX8 wsX8_countFor cX8_countFor 4 (some .int) p s m av.toArray meth c) {rc4 : Mm → Int32 → Int32 → Int32 → Option (Int32 × Mm)} (hrc4 : HL_X8_countFor_4 l D cA z av r μ' p e s m below meth c rc4) {μ : Mm} {x1 : Int32} {x2 : Int32} {x3 : Int32} {H : Heap} {locs : List Loc} {ls : Array Slot} (hd : Wd D cA z μ H) (hS : va_S (Az z) s.heap H locs) (hl : lv_has ls 4 [(1, .int x1), (2, .int x2), (3, .int x3)]) (h : f_X8_countFor_L4b rc4 μ x1 x2 x3 = some (r, μ')) : WG l D cA z wsX8_countFor 0 0 av (some (.int r)) μ' p e s m below meth c H locs (F0 m 4 ls []) := by
  obtain ⟨hx, hb, hr, hlk, hml, hown, hts, hK⟩ := id X
  unfold f_X8_countFor_L4b at h
  refine lv_iload_n hx hb dX8_countFor_4 rfl (lv_at hl 2 rfl) ?_
  refine lv_iload_n hx hb dX8_countFor_5 rfl (lv_at hl 0 rfl) ?_
  refine lv_icmp_ge (tgt := 19) hx hb dX8_countFor_6 (by decide) (fun q1 => ?_) (fun q1 => ?_)
  · have h := if_y q1 h
    refine lv_iload_n hx hb dX8_countFor_19 rfl (lv_at hl 1 rfl) ?_
    obtain ⟨rfl, rfl⟩ := so_e h
    exact rt_i hx hb hr hlk hd hS dX8_countFor_20
  · have h := if_n q1 h
    refine lv_iload_n hx hb dX8_countFor_9 rfl (lv_at hl 1 rfl) ?_
    refine lv_iconst (v := 3) hx hb dX8_countFor_10 (by decide) ?_
    refine lv_imul hx hb dX8_countFor_11 ?_
    refine lv_topi (fun v2 ev2 => ?_)
    have h := bI_e ev2 h
    refine lv_istore_n (lv' := [(2, .int v2), (1, .int x1), (3, .int x3)]) hx hb dX8_countFor_12 rfl hl (by decide) rfl (fun ls hl => ?_)
    refine lv_iinc (v := x3 + (1 : Int32)) (lv' := [(3, .int (x3 + (1 : Int32))), (2, .int v2), (1, .int x1)]) hx hb dX8_countFor_13 hl (k := 2) rfl rfl (by decide) rfl (fun ls hl => ?_)
    refine lv_goto (tgt := 4) hx hb dX8_countFor_16 (by decide) ?_
    exact hrc4 _ _ _ _ _ _ _  hd hS (lv_sub hl [2, 1, 0] rfl) h
def f_X8_countFor_L4 : Nat → Mm → Int32 → Int32 → Int32 → Option (Int32 × Mm)
  | 0 => fun _ _ _ _ => none
  | n + 1 => fun μ x1 x2 x3 => f_X8_countFor_L4b (f_X8_countFor_L4 n) μ x1 x2 x3
theorem k_f_X8_countFor_L4 {l : Launch} {D : va_G} {cA : Nat → ClassId} {z : Nat} {av : List Value} {p : Program} {e : Env} {s : State} {m : MethodId} {below : List Frame} {meth : Method} {c : Code} {r : Int32} {μ' : Mm} (X : Fx D cA RX8 wsX8_countFor cX8_countFor 4 (some .int) p s m av.toArray meth c) (n : Nat) : HL_X8_countFor_4 l D cA z av r μ' p e s m below meth c (f_X8_countFor_L4 n) := by
  induction n with
  | zero => intro _ _ _ _ _ _ _ _ _ _ h; have h2 : (none : Option _) = some _ := h; cases h2
  | succ n ih => intro μ H locs ls x1 x2 x3  hd hS hl h; exact k_f_X8_countFor_L4b X ih  hd hS hl h
def f_X8_countFor (μ : Mm) (a0 : Nat) (x1 : Int32) : Option (Int32 × Mm) := f_X8_countFor_L4 FU μ x1 (1 : Int32) (0 : Int32)
set_option maxRecDepth 100000 in
theorem c_X8_countFor {l : Launch} {D : va_G} {cA : Nat → ClassId} {z : Nat} {μ : Mm} {a0 : Nat} {x1 : Int32} {r : Int32} {μ' : Mm} (hk_a0 : kd a0 = 8) (h : f_X8_countFor μ a0 x1 = some (r, μ')) : Ct l D cA z yX8_countFor wsX8_countFor 0 0 [.ref (z + a0), .int x1] μ (some (.int r)) μ' := by
  refine m_in (cc := cX8_countFor) (maxL := 4) (ret := (some .int)) (own := RX8) (by decide) rfl rfl (Nat.le_of_ble_eq_true rfl) ?_
  intro p e s m below meth c ls X hd hS hl
  obtain ⟨hx, hb, hr, hlk, hml, hown, hts, hK⟩ := id X
  have hl : lv_has ls 4 [(0, .ref (z + a0)), (1, .int x1)] := hl
  unfold f_X8_countFor at h
  refine lv_iconst (v := 1) hx hb dX8_countFor_0 (by decide) ?_
  refine lv_istore_n (lv' := [(2, .int (1 : Int32)), (0, .ref (z + a0)), (1, .int x1)]) hx hb dX8_countFor_1 rfl hl (by decide) rfl (fun ls hl => ?_)
  refine lv_iconst (v := 0) hx hb dX8_countFor_2 (by decide) ?_
  refine lv_istore_n (lv' := [(3, .int (0 : Int32)), (2, .int (1 : Int32)), (0, .ref (z + a0)), (1, .int x1)]) hx hb dX8_countFor_3 rfl hl (by decide) rfl (fun ls hl => ?_)
  exact k_f_X8_countFor_L4 X FU _ _ _ _ _ _ _  hd hS (lv_sub hl [3, 1, 0] rfl) h
theorem hv_X8_become : yX8_become.cls = RX8 ∧ yX8_become.cls ≠ "java/lang/invoke/MethodHandle" ∧ yX8_become.cls ≠ "java/lang/invoke/VarHandle" ∧ (parseMethodDescriptor yX8_become.desc).map (fun d => d.parameters.length) = some 2 := by decide +kernel
abbrev HL_X8_become_19 (l : Launch) (D : va_G) (cA : Nat → ClassId) (z : Nat) (av : List Value) (μ' : Mm) (p : Program) (e : Env) (s : State) (m : MethodId) (below : List Frame) (meth : Method) (c : Code) (rc : Mm → Nat → Int32 → Int32 → Option Mm) : Prop := ∀ (μ : Mm) (H : Heap) (locs : List Loc) (ls : Array Slot) (a0 : Nat) (x3 : Int32) (x4 : Int32), kd a0 = 8 → Wd D cA z μ H → va_S (Az z) s.heap H locs → lv_has ls 5 [(0, .ref (z + a0)), (3, .int x3), (4, .int x4)] → rc μ a0 x3 x4 = some μ' → WG l D cA z wsX8_become 1 24 av none μ' p e s m below meth c H locs (F0 m 19 ls [])
def f_X8_become_L19b (rc19 : Mm → Nat → Int32 → Int32 → Option Mm) (μ : Mm) (a0 : Nat) (x3 : Int32) (x4 : Int32) : Option Mm := if x4 < 0 then (some μ) else (bR (μ.2 a0 0) (fun b2 => gd (ckb x4 (ln b2)) (bM (up2 μ.1 b2 (x4).toNatClampNeg (x3 - x3 / (3 : Int32) * (3 : Int32)), μ.2) (fun μ4 => bI (x3 / (3 : Int32)) (fun v5 => rc19 μ4 a0 v5 (x4 + (-1 : Int32)))))))
set_option maxRecDepth 100000 in
theorem k_f_X8_become_L19b {l : Launch} {D : va_G} {cA : Nat → ClassId} {z : Nat} {av : List Value} {p : Program} {e : Env} {s : State} {m : MethodId} {below : List Frame} {meth : Method} {c : Code} {μ' : Mm} (X : Fx D cA RX8 wsX8_become cX8_become 5 none p s m av.toArray meth c) {rc19 : Mm → Nat → Int32 → Int32 → Option Mm} (hrc19 : HL_X8_become_19 l D cA z av μ' p e s m below meth c rc19) {μ : Mm} {a0 : Nat} {x3 : Int32} {x4 : Int32} (hk_a0 : kd a0 = 8) {H : Heap} {locs : List Loc} {ls : Array Slot} (hd : Wd D cA z μ H) (hS : va_S (Az z) s.heap H locs) (hl : lv_has ls 5 [(0, .ref (z + a0)), (3, .int x3), (4, .int x4)]) (h : f_X8_become_L19b rc19 μ a0 x3 x4 = some μ') : WG l D cA z wsX8_become 1 24 av none μ' p e s m below meth c H locs (F0 m 19 ls []) := by
  obtain ⟨hx, hb, hr, hlk, hml, hown, hts, hK⟩ := id X
  unfold f_X8_become_L19b at h
  refine lv_iload hx hb dX8_become_19 (lv_at hl 2 rfl) ?_
  refine lv_if_lt (tgt := 44) hx hb dX8_become_21 (by decide) (fun q1 => ?_) (fun q1 => ?_)
  · have h := if_y q1 h
    obtain rfl := sv_e h
    exact rt_v hx hb hr hlk hd hS dX8_become_44
  · have h := if_n q1 h
    refine lv_aload_n hx hb dX8_become_24 rfl (lv_at hl 0 rfl) ?_
    obtain ⟨b2, hb2, h⟩ := bR_e h
    refine r_getr hx hb hts (fun w h => List.mem_cons_of_mem _ (List.mem_append_right _ (h))) hown hK hd hk_a0 hb2 rfl fs_8_0 (hts (.fieldLink RX8 9 "LevelVotes$Way" "stands" "[I") (List.mem_of_getElem? (i := 6) rfl)) dX8_become_25 (fun hq => ?_)
    have hk_b2 : kd b2 = 11 := hq
    refine lv_iload hx hb dX8_become_28 (lv_at hl 2 rfl) ?_
    refine lv_iload_n hx hb dX8_become_30 rfl (lv_at hl 1 rfl) ?_
    refine lv_iconst (v := 3) hx hb dX8_become_31 (by decide) ?_
    refine lv_irem hx hb dX8_become_32 (by decide) ?_
    obtain ⟨g3, h⟩ := gd_e h
    refine r_iast hx hb hK hd hS hk_b2 (ckb_in g3) dX8_become_33 (fun μ4 eμ4 H locs hd hS => ?_)
    have h := bM_e eμ4 h
    refine lv_iload_n hx hb dX8_become_34 rfl (lv_at hl 1 rfl) ?_
    refine lv_iconst (v := 3) hx hb dX8_become_35 (by decide) ?_
    refine lv_idiv hx hb dX8_become_36 (by decide) ?_
    refine lv_topi (fun v5 ev5 => ?_)
    have h := bI_e ev5 h
    refine lv_istore_n (lv' := [(3, .int v5), (0, .ref (z + a0)), (4, .int x4)]) hx hb dX8_become_37 rfl hl (by decide) rfl (fun ls hl => ?_)
    refine lv_iinc (v := x4 + (-1 : Int32)) (lv' := [(4, .int (x4 + (-1 : Int32))), (3, .int v5), (0, .ref (z + a0))]) hx hb dX8_become_38 hl (k := 2) rfl rfl (by decide) rfl (fun ls hl => ?_)
    refine lv_goto (tgt := 19) hx hb dX8_become_41 (by decide) ?_
    exact hrc19 _ _ _ _ _ _ _ hk_a0 hd hS (lv_sub hl [2, 1, 0] rfl) h
def f_X8_become_L19 : Nat → Mm → Nat → Int32 → Int32 → Option Mm
  | 0 => fun _ _ _ _ => none
  | n + 1 => fun μ a0 x3 x4 => f_X8_become_L19b (f_X8_become_L19 n) μ a0 x3 x4
theorem k_f_X8_become_L19 {l : Launch} {D : va_G} {cA : Nat → ClassId} {z : Nat} {av : List Value} {p : Program} {e : Env} {s : State} {m : MethodId} {below : List Frame} {meth : Method} {c : Code} {μ' : Mm} (X : Fx D cA RX8 wsX8_become cX8_become 5 none p s m av.toArray meth c) (n : Nat) : HL_X8_become_19 l D cA z av μ' p e s m below meth c (f_X8_become_L19 n) := by
  induction n with
  | zero => intro _ _ _ _ _ _ _ _ _ _ _ h; have h2 : (none : Option _) = some _ := h; cases h2
  | succ n ih => intro μ H locs ls a0 x3 x4 hk_a0 hd hS hl h; exact k_f_X8_become_L19b X ih hk_a0 hd hS hl h
def f_X8_become (μ : Mm) (a0 : Nat) (x1 : Int32) (x2 : Int32) : Option Mm := bM (up2 μ.1 a0 1 (if (5 : Int32) < x2 then (5 : Int32) else x2), μ.2) (fun μ1 => bI ((μ1.1 a0 1) - (1 : Int32)) (fun v2 => f_X8_become_L19 FU μ1 a0 x1 v2))
set_option maxRecDepth 100000 in
theorem c_X8_become {l : Launch} {D : va_G} {cA : Nat → ClassId} {z : Nat} {μ : Mm} {a0 : Nat} {x1 : Int32} {x2 : Int32} {μ' : Mm} (hk_a0 : kd a0 = 8) (h : f_X8_become μ a0 x1 x2 = some μ') : Ct l D cA z yX8_become wsX8_become 1 24 [.ref (z + a0), .int x1, .int x2] μ none μ' := by
  refine m_in (cc := cX8_become) (maxL := 5) (ret := none) (own := RX8) (by decide) rfl rfl (Nat.le_of_ble_eq_true rfl) ?_
  intro p e s m below meth c ls X hd hS hl
  obtain ⟨hx, hb, hr, hlk, hml, hown, hts, hK⟩ := id X
  have hl : lv_has ls 5 [(0, .ref (z + a0)), (1, .int x1), (2, .int x2)] := hl
  unfold f_X8_become at h
  refine lv_aload_n hx hb dX8_become_0 rfl (lv_at hl 0 rfl) ?_
  refine lv_iload_n hx hb dX8_become_1 rfl (lv_at hl 2 rfl) ?_
  refine lv_iconst (v := 5) hx hb dX8_become_2 (by decide) ?_
  refine va_mmin hx hb (hml.trans hl.1.symm) hown (hts (.methodLink RX8 15 Lib.Math.min.name) (List.mem_of_getElem? (i := 1) rfl)) (hts (.static Lib.Math.min.name) (List.mem_of_getElem? (i := 2) rfl)) (hts (.initialized "java/lang/Math") (List.mem_of_getElem? (i := 3) rfl)) (hts (.code Lib.Math.min.name Lib.Math.min.code 2 (some .int)) (List.mem_of_getElem? (i := 4) rfl)) (Nat.le_of_ble_eq_true rfl) (Nat.le_of_ble_eq_true rfl) (Nat.zero_le _) (Nat.zero_le _) dX8_become_3 ?_
  refine r_puti hx hb hts (fun w h => List.mem_cons_of_mem _ (List.mem_append_right _ (h))) tyX8 tyX8_ok nmX8 hown hK hd hS hk_a0 rfl 1 fs_8_1 rfl (hts (.fieldLink RX8 21 "LevelVotes$Way" "items" "I") (List.mem_of_getElem? (i := 5) rfl)) (vp_nar_int _) rfl dX8_become_6 (fun μ1 eμ1 H locs hd hS => ?_)
  have h := bM_e eμ1 h
  refine lv_iload_n hx hb dX8_become_9 rfl (lv_at hl 1 rfl) ?_
  refine lv_istore_n (lv' := [(3, .int x1), (0, .ref (z + a0)), (1, .int x1), (2, .int x2)]) hx hb dX8_become_10 rfl hl (by decide) rfl (fun ls hl => ?_)
  refine lv_aload_n hx hb dX8_become_11 rfl (lv_at hl 1 rfl) ?_
  refine r_geti hx hb hts (fun w h => List.mem_cons_of_mem _ (List.mem_append_right _ (h))) hown hK hd hk_a0 rfl 1 fs_8_1 (hts (.fieldLink RX8 21 "LevelVotes$Way" "items" "I") (List.mem_of_getElem? (i := 5) rfl)) dX8_become_12 ?_
  refine lv_iconst (v := 1) hx hb dX8_become_15 (by decide) ?_
  refine lv_isub hx hb dX8_become_16 ?_
  refine lv_topi (fun v2 ev2 => ?_)
  have h := bI_e ev2 h
  refine lv_istore (lv' := [(4, .int v2), (3, .int x1), (0, .ref (z + a0)), (1, .int x1), (2, .int x2)]) hx hb dX8_become_17 hl (by decide) rfl (fun ls hl => ?_)
  exact k_f_X8_become_L19 X FU _ _ _ _ _ _ _ hk_a0 hd hS (lv_sub hl [2, 1, 0] rfl) h
theorem hv_X8_follow : yX8_follow.cls = RX8 ∧ yX8_follow.cls ≠ "java/lang/invoke/MethodHandle" ∧ yX8_follow.cls ≠ "java/lang/invoke/VarHandle" ∧ (parseMethodDescriptor yX8_follow.desc).map (fun d => d.parameters.length) = some 2 := by decide +kernel
abbrev HL_X8_follow_11 (l : Launch) (D : va_G) (cA : Nat → ClassId) (z : Nat) (av : List Value) (μ' : Mm) (p : Program) (e : Env) (s : State) (m : MethodId) (below : List Frame) (meth : Method) (c : Code) (rc : Mm → Nat → Nat → Int32 → Option Mm) : Prop := ∀ (μ : Mm) (H : Heap) (locs : List Loc) (ls : Array Slot) (a0 : Nat) (a1 : Nat) (x3 : Int32), kd a0 = 8 → kd a1 = 0 → Wd D cA z μ H → va_S (Az z) s.heap H locs → lv_has ls 4 [(0, .ref (z + a0)), (1, .ref (z + a1)), (3, .int x3)] → rc μ a0 a1 x3 = some μ' → WG l D cA z wsX8_follow 3 63 av none μ' p e s m below meth c H locs (F0 m 11 ls [])
def f_X8_follow_L11b (rc11 : Mm → Nat → Nat → Int32 → Option Mm) (μ : Mm) (a0 : Nat) (a1 : Nat) (x3 : Int32) : Option Mm := if (μ.1 a0 1) ≤ x3 then (some μ) else (bR (μ.2 a0 0) (fun b2 => bC (f_X0_standOf μ a1 x3) (fun r4 μ3 => gd (ckb x3 (ln b2)) (bM (up2 μ3.1 b2 (x3).toNatClampNeg r4, μ3.2) (fun μ7 => rc11 μ7 a0 a1 (x3 + (1 : Int32)))))))
set_option maxRecDepth 100000 in
theorem k_f_X8_follow_L11b {l : Launch} {D : va_G} {cA : Nat → ClassId} {z : Nat} {av : List Value} {p : Program} {e : Env} {s : State} {m : MethodId} {below : List Frame} {meth : Method} {c : Code} {μ' : Mm} (X : Fx D cA RX8 wsX8_follow cX8_follow 4 none p s m av.toArray meth c) {rc11 : Mm → Nat → Nat → Int32 → Option Mm} (hrc11 : HL_X8_follow_11 l D cA z av μ' p e s m below meth c rc11) {μ : Mm} {a0 : Nat} {a1 : Nat} {x3 : Int32} (hk_a0 : kd a0 = 8) (hk_a1 : kd a1 = 0) {H : Heap} {locs : List Loc} {ls : Array Slot} (hd : Wd D cA z μ H) (hS : va_S (Az z) s.heap H locs) (hl : lv_has ls 4 [(0, .ref (z + a0)), (1, .ref (z + a1)), (3, .int x3)]) (h : f_X8_follow_L11b rc11 μ a0 a1 x3 = some μ') : WG l D cA z wsX8_follow 3 63 av none μ' p e s m below meth c H locs (F0 m 11 ls []) := by
  obtain ⟨hx, hb, hr, hlk, hml, hown, hts, hK⟩ := id X
  unfold f_X8_follow_L11b at h
  refine lv_iload_n hx hb dX8_follow_11 rfl (lv_at hl 2 rfl) ?_
  refine lv_aload_n hx hb dX8_follow_12 rfl (lv_at hl 0 rfl) ?_
  refine r_geti hx hb hts (fun w h => List.mem_cons_of_mem _ (List.mem_append_left _ (List.mem_append_right _ (h)))) hown hK hd hk_a0 rfl 1 fs_8_1 (hts (.fieldLink RX8 21 "LevelVotes$Way" "items" "I") (List.mem_of_getElem? (i := 5) rfl)) dX8_follow_13 ?_
  refine lv_icmp_ge (tgt := 36) hx hb dX8_follow_16 (by decide) (fun q1 => ?_) (fun q1 => ?_)
  · have h := if_y q1 h
    obtain rfl := sv_e h
    exact rt_v hx hb hr hlk hd hS dX8_follow_36
  · have h := if_n q1 h
    refine lv_aload_n hx hb dX8_follow_19 rfl (lv_at hl 0 rfl) ?_
    obtain ⟨b2, hb2, h⟩ := bR_e h
    refine r_getr hx hb hts (fun w h => List.mem_cons_of_mem _ (List.mem_append_left _ (List.mem_append_right _ (h)))) hown hK hd hk_a0 hb2 rfl fs_8_0 (hts (.fieldLink RX8 9 "LevelVotes$Way" "stands" "[I") (List.mem_of_getElem? (i := 6) rfl)) dX8_follow_20 (fun hq => ?_)
    have hk_b2 : kd b2 = 11 := hq
    refine lv_iload_n hx hb dX8_follow_23 rfl (lv_at hl 2 rfl) ?_
    refine lv_aload_n hx hb dX8_follow_24 rfl (lv_at hl 1 rfl) ?_
    refine lv_iload_n hx hb dX8_follow_25 rfl (lv_at hl 2 rfl) ?_
    obtain ⟨r4, μ3, hc5, h⟩ := bC_e h
    refine rc_Vi (rest := [.int x3, .ref (z + b2)]) [.int x3] ⟨hx, hb, hml, hown, hts⟩ hK hd hS (c_X0_standOf hk_a1 hc5) (cwV 1 hts gX8_follow_X0_standOf rfl rfl rfl hv_X0_standOf ⟨Nat.le_of_ble_eq_true rfl, Nat.le_of_ble_eq_true rfl⟩) hk_a1 rfl rfl rfl rfl hl.1 rfl (Nat.le_of_ble_eq_true rfl) dX8_follow_26 ⟨Nat.zero_le _, Nat.zero_le _⟩ (fun H locs hd hS => ?_)
    obtain ⟨g6, h⟩ := gd_e h
    refine r_iast hx hb hK hd hS hk_b2 (ckb_in g6) dX8_follow_29 (fun μ7 eμ7 H locs hd hS => ?_)
    have h := bM_e eμ7 h
    refine lv_iinc (v := x3 + (1 : Int32)) (lv' := [(3, .int (x3 + (1 : Int32))), (0, .ref (z + a0)), (1, .ref (z + a1))]) hx hb dX8_follow_30 hl (k := 2) rfl rfl (by decide) rfl (fun ls hl => ?_)
    refine lv_goto (tgt := 11) hx hb dX8_follow_33 (by decide) ?_
    exact hrc11 _ _ _ _ _ _ _ hk_a0 hk_a1 hd hS (lv_sub hl [1, 2, 0] rfl) h
def f_X8_follow_L11 : Nat → Mm → Nat → Nat → Int32 → Option Mm
  | 0 => fun _ _ _ _ => none
  | n + 1 => fun μ a0 a1 x3 => f_X8_follow_L11b (f_X8_follow_L11 n) μ a0 a1 x3
theorem k_f_X8_follow_L11 {l : Launch} {D : va_G} {cA : Nat → ClassId} {z : Nat} {av : List Value} {p : Program} {e : Env} {s : State} {m : MethodId} {below : List Frame} {meth : Method} {c : Code} {μ' : Mm} (X : Fx D cA RX8 wsX8_follow cX8_follow 4 none p s m av.toArray meth c) (n : Nat) : HL_X8_follow_11 l D cA z av μ' p e s m below meth c (f_X8_follow_L11 n) := by
  induction n with
  | zero => intro _ _ _ _ _ _ _ _ _ _ _ _ h; have h2 : (none : Option _) = some _ := h; cases h2
  | succ n ih => intro μ H locs ls a0 a1 x3 hk_a0 hk_a1 hd hS hl h; exact k_f_X8_follow_L11b X ih hk_a0 hk_a1 hd hS hl h
def f_X8_follow (μ : Mm) (a0 : Nat) (a1 : Nat) (x2 : Int32) : Option Mm := bM (up2 μ.1 a0 1 (if (5 : Int32) < x2 then (5 : Int32) else x2), μ.2) (fun μ1 => f_X8_follow_L11 FU μ1 a0 a1 (0 : Int32))
set_option maxRecDepth 100000 in
theorem c_X8_follow {l : Launch} {D : va_G} {cA : Nat → ClassId} {z : Nat} {μ : Mm} {a0 : Nat} {a1 : Nat} {x2 : Int32} {μ' : Mm} (hk_a0 : kd a0 = 8) (hk_a1 : kd a1 = 0) (h : f_X8_follow μ a0 a1 x2 = some μ') : Ct l D cA z yX8_follow wsX8_follow 3 63 [.ref (z + a0), .ref (z + a1), .int x2] μ none μ' := by
  refine m_in (cc := cX8_follow) (maxL := 4) (ret := none) (own := RX8) (by decide) rfl rfl (Nat.le_of_ble_eq_true rfl) ?_
  intro p e s m below meth c ls X hd hS hl
  obtain ⟨hx, hb, hr, hlk, hml, hown, hts, hK⟩ := id X
  have hl : lv_has ls 4 [(0, .ref (z + a0)), (1, .ref (z + a1)), (2, .int x2)] := hl
  unfold f_X8_follow at h
  refine lv_aload_n hx hb dX8_follow_0 rfl (lv_at hl 0 rfl) ?_
  refine lv_iload_n hx hb dX8_follow_1 rfl (lv_at hl 2 rfl) ?_
  refine lv_iconst (v := 5) hx hb dX8_follow_2 (by decide) ?_
  refine va_mmin hx hb (hml.trans hl.1.symm) hown (hts (.methodLink RX8 15 Lib.Math.min.name) (List.mem_of_getElem? (i := 1) rfl)) (hts (.static Lib.Math.min.name) (List.mem_of_getElem? (i := 2) rfl)) (hts (.initialized "java/lang/Math") (List.mem_of_getElem? (i := 3) rfl)) (hts (.code Lib.Math.min.name Lib.Math.min.code 2 (some .int)) (List.mem_of_getElem? (i := 4) rfl)) (Nat.le_of_ble_eq_true rfl) (Nat.le_of_ble_eq_true rfl) (Nat.zero_le _) (Nat.zero_le _) dX8_follow_3 ?_
  refine r_puti hx hb hts (fun w h => List.mem_cons_of_mem _ (List.mem_append_left _ (List.mem_append_right _ (h)))) tyX8 tyX8_ok nmX8 hown hK hd hS hk_a0 rfl 1 fs_8_1 rfl (hts (.fieldLink RX8 21 "LevelVotes$Way" "items" "I") (List.mem_of_getElem? (i := 5) rfl)) (vp_nar_int _) rfl dX8_follow_6 (fun μ1 eμ1 H locs hd hS => ?_)
  have h := bM_e eμ1 h
  refine lv_iconst (v := 0) hx hb dX8_follow_9 (by decide) ?_
  refine lv_istore_n (lv' := [(3, .int (0 : Int32)), (0, .ref (z + a0)), (1, .ref (z + a1)), (2, .int x2)]) hx hb dX8_follow_10 rfl hl (by decide) rfl (fun ls hl => ?_)
  exact k_f_X8_follow_L11 X FU _ _ _ _ _ _ _ hk_a0 hk_a1 hd hS (lv_sub hl [1, 2, 0] rfl) h
theorem hv_X8_figures : yX8_figures.cls = RX8 ∧ yX8_figures.cls ≠ "java/lang/invoke/MethodHandle" ∧ yX8_figures.cls ≠ "java/lang/invoke/VarHandle" ∧ (parseMethodDescriptor yX8_figures.desc).map (fun d => d.parameters.length) = some 0 := by decide +kernel
abbrev HL_X8_figures_4 (l : Launch) (D : va_G) (cA : Nat → ClassId) (z : Nat) (av : List Value) (r : Int32) (μ' : Mm) (p : Program) (e : Env) (s : State) (m : MethodId) (below : List Frame) (meth : Method) (c : Code) (rc : Mm → Nat → Int32 → Int32 → Option (Int32 × Mm)) : Prop := ∀ (μ : Mm) (H : Heap) (locs : List Loc) (ls : Array Slot) (a0 : Nat) (x1 : Int32) (x2 : Int32), kd a0 = 8 → Wd D cA z μ H → va_S (Az z) s.heap H locs → lv_has ls 3 [(0, .ref (z + a0)), (1, .int x1), (2, .int x2)] → rc μ a0 x1 x2 = some (r, μ') → WG l D cA z wsX8_figures 1 21 av (some (.int r)) μ' p e s m below meth c H locs (F0 m 4 ls [])
def f_X8_figures_L4b (rc4 : Mm → Nat → Int32 → Int32 → Option (Int32 × Mm)) (μ : Mm) (a0 : Nat) (x1 : Int32) (x2 : Int32) : Option (Int32 × Mm) := if (μ.1 a0 1) ≤ x2 then (some (x1, μ)) else (bC (f_X8_standOf μ a0 x2) (fun r3 μ2 => bI ((x1 * (10 : Int32)) + r3) (fun v5 => rc4 μ2 a0 v5 (x2 + (1 : Int32)))))
set_option maxRecDepth 100000 in
theorem k_f_X8_figures_L4b {l : Launch} {D : va_G} {cA : Nat → ClassId} {z : Nat} {av : List Value} {p : Program} {e : Env} {s : State} {m : MethodId} {below : List Frame} {meth : Method} {c : Code} {r : Int32} {μ' : Mm} (X : Fx D cA RX8 wsX8_figures cX8_figures 3 (some .int) p s m av.toArray meth c) {rc4 : Mm → Nat → Int32 → Int32 → Option (Int32 × Mm)} (hrc4 : HL_X8_figures_4 l D cA z av r μ' p e s m below meth c rc4) {μ : Mm} {a0 : Nat} {x1 : Int32} {x2 : Int32} (hk_a0 : kd a0 = 8) {H : Heap} {locs : List Loc} {ls : Array Slot} (hd : Wd D cA z μ H) (hS : va_S (Az z) s.heap H locs) (hl : lv_has ls 3 [(0, .ref (z + a0)), (1, .int x1), (2, .int x2)]) (h : f_X8_figures_L4b rc4 μ a0 x1 x2 = some (r, μ')) : WG l D cA z wsX8_figures 1 21 av (some (.int r)) μ' p e s m below meth c H locs (F0 m 4 ls []) := by
  obtain ⟨hx, hb, hr, hlk, hml, hown, hts, hK⟩ := id X
  unfold f_X8_figures_L4b at h
  refine lv_iload_n hx hb dX8_figures_4 rfl (lv_at hl 2 rfl) ?_
  refine lv_aload_n hx hb dX8_figures_5 rfl (lv_at hl 0 rfl) ?_
  refine r_geti hx hb hts (fun w h => List.mem_cons_of_mem _ (List.mem_append_right _ (h))) hown hK hd hk_a0 rfl 1 fs_8_1 (hts (.fieldLink RX8 21 "LevelVotes$Way" "items" "I") (List.mem_of_getElem? (i := 1) rfl)) dX8_figures_6 ?_
  refine lv_icmp_ge (tgt := 29) hx hb dX8_figures_9 (by decide) (fun q1 => ?_) (fun q1 => ?_)
  · have h := if_y q1 h
    refine lv_iload_n hx hb dX8_figures_29 rfl (lv_at hl 1 rfl) ?_
    obtain ⟨rfl, rfl⟩ := so_e h
    exact rt_i hx hb hr hlk hd hS dX8_figures_30
  · have h := if_n q1 h
    refine lv_iload_n hx hb dX8_figures_12 rfl (lv_at hl 1 rfl) ?_
    refine lv_bipush (v := 10) hx hb dX8_figures_13 (by decide) ?_
    refine lv_imul hx hb dX8_figures_15 ?_
    refine lv_aload_n hx hb dX8_figures_16 rfl (lv_at hl 0 rfl) ?_
    refine lv_iload_n hx hb dX8_figures_17 rfl (lv_at hl 2 rfl) ?_
    obtain ⟨r3, μ2, hc4, h⟩ := bC_e h
    refine rc_Vi (rest := [.int (x1 * (10 : Int32))]) [.int x2] ⟨hx, hb, hml, hown, hts⟩ hK hd hS (c_X8_standOf hk_a0 hc4) (cwV 1 hts gX8_figures_X8_standOf rfl rfl rfl hv_X8_standOf ⟨Nat.le_of_ble_eq_true rfl, Nat.le_of_ble_eq_true rfl⟩) hk_a0 rfl rfl rfl rfl hl.1 rfl (Nat.le_of_ble_eq_true rfl) dX8_figures_18 ⟨Nat.zero_le _, Nat.zero_le _⟩ (fun H locs hd hS => ?_)
    refine lv_iadd hx hb dX8_figures_21 ?_
    refine lv_topi (fun v5 ev5 => ?_)
    have h := bI_e ev5 h
    refine lv_istore_n (lv' := [(1, .int v5), (0, .ref (z + a0)), (2, .int x2)]) hx hb dX8_figures_22 rfl hl (by decide) rfl (fun ls hl => ?_)
    refine lv_iinc (v := x2 + (1 : Int32)) (lv' := [(2, .int (x2 + (1 : Int32))), (1, .int v5), (0, .ref (z + a0))]) hx hb dX8_figures_23 hl (k := 2) rfl rfl (by decide) rfl (fun ls hl => ?_)
    refine lv_goto (tgt := 4) hx hb dX8_figures_26 (by decide) ?_
    exact hrc4 _ _ _ _ _ _ _ hk_a0 hd hS (lv_sub hl [2, 1, 0] rfl) h
def f_X8_figures_L4 : Nat → Mm → Nat → Int32 → Int32 → Option (Int32 × Mm)
  | 0 => fun _ _ _ _ => none
  | n + 1 => fun μ a0 x1 x2 => f_X8_figures_L4b (f_X8_figures_L4 n) μ a0 x1 x2
theorem k_f_X8_figures_L4 {l : Launch} {D : va_G} {cA : Nat → ClassId} {z : Nat} {av : List Value} {p : Program} {e : Env} {s : State} {m : MethodId} {below : List Frame} {meth : Method} {c : Code} {r : Int32} {μ' : Mm} (X : Fx D cA RX8 wsX8_figures cX8_figures 3 (some .int) p s m av.toArray meth c) (n : Nat) : HL_X8_figures_4 l D cA z av r μ' p e s m below meth c (f_X8_figures_L4 n) := by
  induction n with
  | zero => intro _ _ _ _ _ _ _ _ _ _ _ h; have h2 : (none : Option _) = some _ := h; cases h2
  | succ n ih => intro μ H locs ls a0 x1 x2 hk_a0 hd hS hl h; exact k_f_X8_figures_L4b X ih hk_a0 hd hS hl h
def f_X8_figures (μ : Mm) (a0 : Nat) : Option (Int32 × Mm) := f_X8_figures_L4 FU μ a0 (0 : Int32) (0 : Int32)
set_option maxRecDepth 100000 in
theorem c_X8_figures {l : Launch} {D : va_G} {cA : Nat → ClassId} {z : Nat} {μ : Mm} {a0 : Nat} {r : Int32} {μ' : Mm} (hk_a0 : kd a0 = 8) (h : f_X8_figures μ a0 = some (r, μ')) : Ct l D cA z yX8_figures wsX8_figures 1 21 [.ref (z + a0)] μ (some (.int r)) μ' := by
  refine m_in (cc := cX8_figures) (maxL := 3) (ret := (some .int)) (own := RX8) (by decide) rfl rfl (Nat.le_of_ble_eq_true rfl) ?_
  intro p e s m below meth c ls X hd hS hl
  obtain ⟨hx, hb, hr, hlk, hml, hown, hts, hK⟩ := id X
  have hl : lv_has ls 3 [(0, .ref (z + a0))] := hl
  unfold f_X8_figures at h
  refine lv_iconst (v := 0) hx hb dX8_figures_0 (by decide) ?_
  refine lv_istore_n (lv' := [(1, .int (0 : Int32)), (0, .ref (z + a0))]) hx hb dX8_figures_1 rfl hl (by decide) rfl (fun ls hl => ?_)
  refine lv_iconst (v := 0) hx hb dX8_figures_2 (by decide) ?_
  refine lv_istore_n (lv' := [(2, .int (0 : Int32)), (1, .int (0 : Int32)), (0, .ref (z + a0))]) hx hb dX8_figures_3 rfl hl (by decide) rfl (fun ls hl => ?_)
  exact k_f_X8_figures_L4 X FU _ _ _ _ _ _ _ hk_a0 hd hS (lv_sub hl [2, 1, 0] rfl) h
theorem hv_X9_feed : yX9_feed.cls = RX9 ∧ yX9_feed.cls ≠ "java/lang/invoke/MethodHandle" ∧ yX9_feed.cls ≠ "java/lang/invoke/VarHandle" ∧ (parseMethodDescriptor yX9_feed.desc).map (fun d => d.parameters.length) = some 1 := by decide +kernel
def f_X9_feed (μ : Mm) (a0 : Nat) (x1 : Int32) : Option (Int32 × Mm) := if x1 < 0 then (some ((-1000000002 : Int32), μ)) else (if x1 ≤ (255 : Int32) then (bR (μ.2 a0 0) (fun b3 => bC (f_X7_isFull μ b3) (fun r5 μ4 => if r5 = 0 then (bR (μ4.2 a0 0) (fun b8 => bV (f_X7_add μ4 b8 x1) (fun μ9 => bR (μ9.2 a0 0) (fun b12 => some (μ9.1 b12 1, μ9))))) else (some ((-1000000004 : Int32), μ4))))) else (some ((-1000000002 : Int32), μ)))
set_option maxRecDepth 100000 in
theorem c_X9_feed {l : Launch} {D : va_G} {cA : Nat → ClassId} {z : Nat} {μ : Mm} {a0 : Nat} {x1 : Int32} {r : Int32} {μ' : Mm} (hk_a0 : kd a0 = 9) (h : f_X9_feed μ a0 x1 = some (r, μ')) : Ct l D cA z yX9_feed wsX9_feed 1 21 [.ref (z + a0), .int x1] μ (some (.int r)) μ' := by
  refine m_in (cc := cX9_feed) (maxL := 2) (ret := (some .int)) (own := RX9) (by decide) rfl rfl (Nat.le_of_ble_eq_true rfl) ?_
  intro p e s m below meth c ls X hd hS hl
  obtain ⟨hx, hb, hr, hlk, hml, hown, hts, hK⟩ := id X
  have hl : lv_has ls 2 [(0, .ref (z + a0)), (1, .int x1)] := hl
  unfold f_X9_feed at h
  refine lv_iload_n hx hb dX9_feed_0 rfl (lv_at hl 1 rfl) ?_
  refine lv_if_lt (tgt := 11) hx hb dX9_feed_1 (by decide) (fun q1 => ?_) (fun q1 => ?_)
  · have h := if_y q1 h
    refine lv_ldc (v := -1000000002) hx hb hown (hts (.constant RX9 86 (-1000000002)) (List.mem_of_getElem? (i := 1) rfl)) dX9_feed_11 ?_
    obtain ⟨rfl, rfl⟩ := so_e h
    exact rt_i hx hb hr hlk hd hS dX9_feed_13
  · have h := if_n q1 h
    refine lv_iload_n hx hb dX9_feed_4 rfl (lv_at hl 1 rfl) ?_
    refine lv_sipush (v := 255) hx hb dX9_feed_5 (by decide) ?_
    refine lv_icmp_le (tgt := 14) hx hb dX9_feed_8 (by decide) (fun q2 => ?_) (fun q2 => ?_)
    · have h := if_y q2 h
      refine lv_aload_n hx hb dX9_feed_14 rfl (lv_at hl 0 rfl) ?_
      obtain ⟨b3, hb3, h⟩ := bR_e h
      refine r_getr hx hb hts (fun w h => List.mem_cons_of_mem _ (List.mem_append_left _ (List.mem_append_right _ (h)))) hown hK hd hk_a0 hb3 rfl fs_9_0 (hts (.fieldLink RX9 10 "LevelVotes" "text" "LLevelVotes$Text;") (List.mem_of_getElem? (i := 2) rfl)) dX9_feed_15 (fun hq => ?_)
      have hk_b3 : kd b3 = 7 := hq
      obtain ⟨r5, μ4, hc6, h⟩ := bC_e h
      refine rc_Vi (rest := []) [] ⟨hx, hb, hml, hown, hts⟩ hK hd hS (c_X7_isFull hk_b3 hc6) (cwV 0 hts gX9_feed_X7_isFull rfl rfl rfl hv_X7_isFull ⟨Nat.le_of_ble_eq_true rfl, Nat.le_of_ble_eq_true rfl⟩) hk_b3 rfl rfl rfl rfl hl.1 rfl (Nat.le_of_ble_eq_true rfl) dX9_feed_18 ⟨Nat.zero_le _, Nat.zero_le _⟩ (fun H locs hd hS => ?_)
      refine lv_if_eq (tgt := 27) hx hb dX9_feed_21 (by decide) (fun q7 => ?_) (fun q7 => ?_)
      · have h := if_y q7 h
        refine lv_aload_n hx hb dX9_feed_27 rfl (lv_at hl 0 rfl) ?_
        obtain ⟨b8, hb8, h⟩ := bR_e h
        refine r_getr hx hb hts (fun w h => List.mem_cons_of_mem _ (List.mem_append_left _ (List.mem_append_right _ (h)))) hown hK hd hk_a0 hb8 rfl fs_9_0 (hts (.fieldLink RX9 10 "LevelVotes" "text" "LLevelVotes$Text;") (List.mem_of_getElem? (i := 2) rfl)) dX9_feed_28 (fun hq => ?_)
        have hk_b8 : kd b8 = 7 := hq
        refine lv_iload_n hx hb dX9_feed_31 rfl (lv_at hl 1 rfl) ?_
        obtain ⟨μ9, hc11, h⟩ := bV_e h
        refine rc_Vv (rest := []) [.int x1] ⟨hx, hb, hml, hown, hts⟩ hK hd hS (c_X7_add hk_b8 hc11) (cwV 1 hts gX9_feed_X7_add rfl rfl rfl hv_X7_add ⟨Nat.le_of_ble_eq_true rfl, Nat.le_of_ble_eq_true rfl⟩) hk_b8 rfl rfl rfl rfl hl.1 rfl (Nat.le_of_ble_eq_true rfl) dX9_feed_32 ⟨Nat.zero_le _, Nat.zero_le _⟩ (fun H locs hd hS => ?_)
        refine lv_aload_n hx hb dX9_feed_35 rfl (lv_at hl 0 rfl) ?_
        obtain ⟨b12, hb12, h⟩ := bR_e h
        refine r_getr hx hb hts (fun w h => List.mem_cons_of_mem _ (List.mem_append_left _ (List.mem_append_right _ (h)))) hown hK hd hk_a0 hb12 rfl fs_9_0 (hts (.fieldLink RX9 10 "LevelVotes" "text" "LLevelVotes$Text;") (List.mem_of_getElem? (i := 2) rfl)) dX9_feed_36 (fun hq => ?_)
        have hk_b12 : kd b12 = 7 := hq
        refine r_geti hx hb hts (fun w h => List.mem_cons_of_mem _ (List.mem_append_right _ (h))) hown hK hd hk_b12 rfl 1 fs_7_1 (hts (.fieldLink RX9 96 "LevelVotes$Text" "size" "I") (List.mem_of_getElem? (i := 4) rfl)) dX9_feed_39 ?_
        obtain ⟨rfl, rfl⟩ := so_e h
        exact rt_i hx hb hr hlk hd hS dX9_feed_42
      · have h := if_n q7 h
        refine lv_ldc (v := -1000000004) hx hb hown (hts (.constant RX9 91 (-1000000004)) (List.mem_of_getElem? (i := 3) rfl)) dX9_feed_24 ?_
        obtain ⟨rfl, rfl⟩ := so_e h
        exact rt_i hx hb hr hlk hd hS dX9_feed_26
    · have h := if_n q2 h
      refine lv_ldc (v := -1000000002) hx hb hown (hts (.constant RX9 86 (-1000000002)) (List.mem_of_getElem? (i := 1) rfl)) dX9_feed_11 ?_
      obtain ⟨rfl, rfl⟩ := so_e h
      exact rt_i hx hb hr hlk hd hS dX9_feed_13
theorem hv_X9_imageAt : yX9_imageAt.cls = RX9 ∧ yX9_imageAt.cls ≠ "java/lang/invoke/MethodHandle" ∧ yX9_imageAt.cls ≠ "java/lang/invoke/VarHandle" ∧ (parseMethodDescriptor yX9_imageAt.desc).map (fun d => d.parameters.length) = some 1 := by decide +kernel
def f_X9_imageAt (μ : Mm) (a0 : Nat) (x1 : Int32) : Option (Option Nat × Mm) := if x1 < 0 then (some (none, μ)) else (bR (μ.2 a0 6) (fun b2 => if (Int32.ofNat (ln b2)) ≤ x1 then (some (none, μ)) else (bR (μ.2 a0 6) (fun b4 => gd (ckb x1 (ln b4)) (bR (μ.2 b4 (x1).toNatClampNeg) (fun b6 => some (some b6, μ)))))))
set_option maxRecDepth 100000 in
theorem c_X9_imageAt {l : Launch} {D : va_G} {cA : Nat → ClassId} {z : Nat} {μ : Mm} {a0 : Nat} {x1 : Int32} {r : Option Nat} {μ' : Mm} (hk_a0 : kd a0 = 9) (h : f_X9_imageAt μ a0 x1 = some (r, μ')) : Ct l D cA z yX9_imageAt wsX9_imageAt 0 0 [.ref (z + a0), .int x1] μ (some (rv z r)) μ' := by
  refine m_in (cc := cX9_imageAt) (maxL := 2) (ret := (some (.object "LevelVotes$Image"))) (own := RX9) (by decide) rfl rfl (Nat.le_of_ble_eq_true rfl) ?_
  intro p e s m below meth c ls X hd hS hl
  obtain ⟨hx, hb, hr, hlk, hml, hown, hts, hK⟩ := id X
  have hl : lv_has ls 2 [(0, .ref (z + a0)), (1, .int x1)] := hl
  unfold f_X9_imageAt at h
  refine lv_iload_n hx hb dX9_imageAt_0 rfl (lv_at hl 1 rfl) ?_
  refine lv_if_lt (tgt := 22) hx hb dX9_imageAt_1 (by decide) (fun q1 => ?_) (fun q1 => ?_)
  · have h := if_y q1 h
    refine lv_null hx hb dX9_imageAt_22 ?_
    obtain ⟨rfl, rfl⟩ := so_e h
    exact rt_a hx hb hr ⟨_, rfl⟩ (Or.inl rfl) hlk hd hS dX9_imageAt_23
  · have h := if_n q1 h
    refine lv_iload_n hx hb dX9_imageAt_4 rfl (lv_at hl 1 rfl) ?_
    refine lv_aload_n hx hb dX9_imageAt_5 rfl (lv_at hl 0 rfl) ?_
    obtain ⟨b2, hb2, h⟩ := bR_e h
    refine r_getr hx hb hts (fun w h => List.mem_cons_of_mem _ (List.mem_append_right _ (h))) hown hK hd hk_a0 hb2 rfl fs_9_6 (hts (.fieldLink RX9 46 "LevelVotes" "images" "[LLevelVotes$Image;") (List.mem_of_getElem? (i := 1) rfl)) dX9_imageAt_6 (fun hq => ?_)
    have hk_b2 : kd b2 = 14 := hq
    refine r_alen hx hb hK hd hk_b2 rfl dX9_imageAt_9 ?_
    refine lv_icmp_ge (tgt := 22) hx hb dX9_imageAt_10 (by decide) (fun q3 => ?_) (fun q3 => ?_)
    · have h := if_y q3 h
      refine lv_null hx hb dX9_imageAt_22 ?_
      obtain ⟨rfl, rfl⟩ := so_e h
      exact rt_a hx hb hr ⟨_, rfl⟩ (Or.inl rfl) hlk hd hS dX9_imageAt_23
    · have h := if_n q3 h
      refine lv_aload_n hx hb dX9_imageAt_13 rfl (lv_at hl 0 rfl) ?_
      obtain ⟨b4, hb4, h⟩ := bR_e h
      refine r_getr hx hb hts (fun w h => List.mem_cons_of_mem _ (List.mem_append_right _ (h))) hown hK hd hk_a0 hb4 rfl fs_9_6 (hts (.fieldLink RX9 46 "LevelVotes" "images" "[LLevelVotes$Image;") (List.mem_of_getElem? (i := 1) rfl)) dX9_imageAt_14 (fun hq => ?_)
      have hk_b4 : kd b4 = 14 := hq
      refine lv_iload_n hx hb dX9_imageAt_17 rfl (lv_at hl 1 rfl) ?_
      obtain ⟨g5, h⟩ := gd_e h
      obtain ⟨b6, hb6, h⟩ := bR_e h
      refine r_aald hx hb hK hd hk_b4 rfl (ckb_in g5) hb6 dX9_imageAt_18 (fun hq => ?_)
      have hk_b6 : kd b6 = 5 := hq
      refine lv_goto (tgt := 23) hx hb dX9_imageAt_19 (by decide) ?_
      obtain ⟨rfl, rfl⟩ := so_e h
      exact rt_a hx hb hr ⟨_, rfl⟩ (Or.inr ⟨_, rfl⟩) hlk hd hS dX9_imageAt_23
theorem ko_X9_imageAt {μ : Mm} {a0 : Nat} {x1 : Int32} {b : Nat} {μ' : Mm} (hT : WT μ.2) (hk_a0 : kd a0 = 9) (h : f_X9_imageAt μ a0 x1 = some (some b, μ')) : kd b = 5 := by
  unfold f_X9_imageAt at h
  by_cases q1 : x1 < 0
  · have h := if_y q1 h
    cases h
  · have h := if_n q1 h
    obtain ⟨b2, e2, h⟩ := bR_e h
    by_cases q3 : Int32.ofNat (ln b2) ≤ x1
    · have h := if_y q3 h
      cases h
    · have h := if_n q3 h
      obtain ⟨b4, e4, h⟩ := bR_e h
      obtain ⟨g, h⟩ := gd_e h
      obtain ⟨b6, e6, h⟩ := bR_e h
      cases h
      have h1 : kd b4 = tg (kd a0) 6 := hT _ _ _ e4
      have h2 := hT _ _ _ e6
      rw [h2, h1, hk_a0]
      rfl
theorem hv_X9_moveIn : yX9_moveIn.cls = RX9 ∧ yX9_moveIn.cls ≠ "java/lang/invoke/MethodHandle" ∧ yX9_moveIn.cls ≠ "java/lang/invoke/VarHandle" ∧ (parseMethodDescriptor yX9_moveIn.desc).map (fun d => d.parameters.length) = some 0 := by decide +kernel
abbrev HL_X9_moveIn_30 (l : Launch) (D : va_G) (cA : Nat → ClassId) (z : Nat) (av : List Value) (μ' : Mm) (p : Program) (e : Env) (s : State) (m : MethodId) (below : List Frame) (meth : Method) (c : Code) (rc : Mm → Nat → Int32 → Option Mm) : Prop := ∀ (μ : Mm) (H : Heap) (locs : List Loc) (ls : Array Slot) (a0 : Nat) (x1 : Int32), kd a0 = 9 → Wd D cA z μ H → va_S (Az z) s.heap H locs → lv_has ls 3 [(0, .ref (z + a0)), (1, .int x1)] → rc μ a0 x1 = some μ' → WG l D cA z wsX9_moveIn 2 43 av none μ' p e s m below meth c H locs (F0 m 30 ls [])
def f_X9_moveIn_j54 (rc30 : Mm → Nat → Int32 → Option Mm) (μ : Mm) (a0 : Nat) (x1 : Int32) : Option Mm := rc30 μ a0 (x1 + (1 : Int32))
set_option maxRecDepth 100000 in
theorem k_f_X9_moveIn_j54 {l : Launch} {D : va_G} {cA : Nat → ClassId} {z : Nat} {av : List Value} {p : Program} {e : Env} {s : State} {m : MethodId} {below : List Frame} {meth : Method} {c : Code} {μ' : Mm} (X : Fx D cA RX9 wsX9_moveIn cX9_moveIn 3 none p s m av.toArray meth c) {rc30 : Mm → Nat → Int32 → Option Mm} (hrc30 : HL_X9_moveIn_30 l D cA z av μ' p e s m below meth c rc30) {μ : Mm} {a0 : Nat} {x1 : Int32} (hk_a0 : kd a0 = 9) {H : Heap} {locs : List Loc} {ls : Array Slot} (hd : Wd D cA z μ H) (hS : va_S (Az z) s.heap H locs) (hl : lv_has ls 3 [(0, .ref (z + a0)), (1, .int x1)]) (h : f_X9_moveIn_j54 rc30 μ a0 x1 = some μ') : WG l D cA z wsX9_moveIn 2 43 av none μ' p e s m below meth c H locs (F0 m 54 ls []) := by
  obtain ⟨hx, hb, hr, hlk, hml, hown, hts, hK⟩ := id X
  unfold f_X9_moveIn_j54 at h
  refine lv_iinc (v := x1 + (1 : Int32)) (lv' := [(1, .int (x1 + (1 : Int32))), (0, .ref (z + a0))]) hx hb dX9_moveIn_54 hl (k := 1) rfl rfl (by decide) rfl (fun ls hl => ?_)
  refine lv_goto (tgt := 30) hx hb dX9_moveIn_57 (by decide) ?_
  exact hrc30 _ _ _ _ _ _ hk_a0 hd hS (lv_sub hl [1, 0] rfl) h
def f_X9_moveIn_L30b (rc30 : Mm → Nat → Int32 → Option Mm) (μ : Mm) (a0 : Nat) (x1 : Int32) : Option Mm := bR (μ.2 a0 6) (fun b1 => if (Int32.ofNat (ln b1)) ≤ x1 then (some μ) else (bC (f_X9_imageAt μ a0 x1) (fun r4 μ3 => bN r4 (f_X9_moveIn_j54 rc30 μ3 a0 x1) (fun b6 => bM (up2 μ3.1 b6 2 (0 : Int32), μ3.2) (fun μ7 => f_X9_moveIn_j54 rc30 μ7 a0 x1)))))
set_option maxRecDepth 100000 in
theorem k_f_X9_moveIn_L30b {l : Launch} {D : va_G} {cA : Nat → ClassId} {z : Nat} {av : List Value} {p : Program} {e : Env} {s : State} {m : MethodId} {below : List Frame} {meth : Method} {c : Code} {μ' : Mm} (X : Fx D cA RX9 wsX9_moveIn cX9_moveIn 3 none p s m av.toArray meth c) {rc30 : Mm → Nat → Int32 → Option Mm} (hrc30 : HL_X9_moveIn_30 l D cA z av μ' p e s m below meth c rc30) {μ : Mm} {a0 : Nat} {x1 : Int32} (hk_a0 : kd a0 = 9) {H : Heap} {locs : List Loc} {ls : Array Slot} (hd : Wd D cA z μ H) (hS : va_S (Az z) s.heap H locs) (hl : lv_has ls 3 [(0, .ref (z + a0)), (1, .int x1)]) (h : f_X9_moveIn_L30b rc30 μ a0 x1 = some μ') : WG l D cA z wsX9_moveIn 2 43 av none μ' p e s m below meth c H locs (F0 m 30 ls []) := by
  obtain ⟨hx, hb, hr, hlk, hml, hown, hts, hK⟩ := id X
  unfold f_X9_moveIn_L30b at h
  refine lv_iload_n hx hb dX9_moveIn_30 rfl (lv_at hl 1 rfl) ?_
  refine lv_aload_n hx hb dX9_moveIn_31 rfl (lv_at hl 0 rfl) ?_
  obtain ⟨b1, hb1, h⟩ := bR_e h
  refine r_getr hx hb hts (fun w h => List.mem_cons_of_mem _ (List.mem_append_left _ (List.mem_append_left _ (List.mem_append_left _ (List.mem_append_left _ (List.mem_append_left _ (List.mem_append_right _ (h)))))))) hown hK hd hk_a0 hb1 rfl fs_9_6 (hts (.fieldLink RX9 46 "LevelVotes" "images" "[LLevelVotes$Image;") (List.mem_of_getElem? (i := 6) rfl)) dX9_moveIn_32 (fun hq => ?_)
  have hk_b1 : kd b1 = 14 := hq
  refine r_alen hx hb hK hd hk_b1 rfl dX9_moveIn_35 ?_
  refine lv_icmp_ge (tgt := 60) hx hb dX9_moveIn_36 (by decide) (fun q2 => ?_) (fun q2 => ?_)
  · have h := if_y q2 h
    obtain rfl := sv_e h
    exact rt_v hx hb hr hlk hd hS dX9_moveIn_60
  · have h := if_n q2 h
    refine lv_aload_n hx hb dX9_moveIn_39 rfl (lv_at hl 0 rfl) ?_
    refine lv_iload_n hx hb dX9_moveIn_40 rfl (lv_at hl 1 rfl) ?_
    have hT0 := hd.1
    obtain ⟨r4, μ3, hc5, h⟩ := bC_e h
    refine rc_Vr (rest := []) [.int x1] ⟨hx, hb, hml, hown, hts⟩ hK hd hS (c_X9_imageAt hk_a0 hc5) (cwV 1 hts gX9_moveIn_X9_imageAt rfl rfl rfl hv_X9_imageAt ⟨Nat.le_of_ble_eq_true rfl, Nat.le_of_ble_eq_true rfl⟩) hk_a0 rfl rfl rfl rfl hl.1 rfl (Nat.le_of_ble_eq_true rfl) dX9_moveIn_41 ⟨Nat.zero_le _, Nat.zero_le _⟩ (fun H locs hd hS => ?_)
    have hN := bN_e h
    clear h
    rcases hN with ⟨rfl, h⟩ | ⟨b6, rfl, h⟩
    · skip
      refine lv_astore_nN (lv' := [(2, .null), (0, .ref (z + a0)), (1, .int x1)]) hx hb dX9_moveIn_44 rfl hl (by decide) rfl (fun ls hl => ?_)
      refine lv_aload_nN hx hb dX9_moveIn_45 rfl (lv_at hl 0 rfl) ?_
      refine lv_ifnullN (tgt := 54) hx hb dX9_moveIn_46 (by decide) ?_
      exact k_f_X9_moveIn_j54 X hrc30 hk_a0 hd hS (lv_sub hl [1, 2] rfl) h
    · have hk_b6 : kd b6 = 5 := ko_X9_imageAt hT0 hk_a0 hc5
      refine lv_astore_n (lv' := [(2, .ref (z + b6)), (0, .ref (z + a0)), (1, .int x1)]) hx hb dX9_moveIn_44 rfl hl (by decide) rfl (fun ls hl => ?_)
      refine lv_aload_n hx hb dX9_moveIn_45 rfl (lv_at hl 0 rfl) ?_
      refine lv_ifnull hx hb dX9_moveIn_46 ?_
      refine lv_aload_n hx hb dX9_moveIn_49 rfl (lv_at hl 0 rfl) ?_
      refine lv_iconst (v := 0) hx hb dX9_moveIn_50 (by decide) ?_
      refine r_puti hx hb hts (fun w h => List.mem_cons_of_mem _ (List.mem_append_left _ (List.mem_append_left _ (List.mem_append_left _ (List.mem_append_right _ (h)))))) tyX5 tyX5_ok nmX5 hown hK hd hS hk_b6 rfl 2 fs_5_2 rfl (hts (.fieldLink RX9 306 "LevelVotes$Image" "isKept" "Z") (List.mem_of_getElem? (i := 7) rfl)) rfl rfl dX9_moveIn_51 (fun μ7 eμ7 H locs hd hS => ?_)
      have h := bM_e eμ7 h
      exact k_f_X9_moveIn_j54 X hrc30 hk_a0 hd hS (lv_sub hl [1, 2] rfl) h
def f_X9_moveIn_L30 : Nat → Mm → Nat → Int32 → Option Mm
  | 0 => fun _ _ _ => none
  | n + 1 => fun μ a0 x1 => f_X9_moveIn_L30b (f_X9_moveIn_L30 n) μ a0 x1
theorem k_f_X9_moveIn_L30 {l : Launch} {D : va_G} {cA : Nat → ClassId} {z : Nat} {av : List Value} {p : Program} {e : Env} {s : State} {m : MethodId} {below : List Frame} {meth : Method} {c : Code} {μ' : Mm} (X : Fx D cA RX9 wsX9_moveIn cX9_moveIn 3 none p s m av.toArray meth c) (n : Nat) : HL_X9_moveIn_30 l D cA z av μ' p e s m below meth c (f_X9_moveIn_L30 n) := by
  induction n with
  | zero => intro _ _ _ _ _ _ _ _ _ _ h; have h2 : (none : Option _) = some _ := h; cases h2
  | succ n ih => intro μ H locs ls a0 x1 hk_a0 hd hS hl h; exact k_f_X9_moveIn_L30b X ih hk_a0 hd hS hl h
def f_X9_moveIn (μ : Mm) (a0 : Nat) : Option Mm := bR (μ.2 a0 4) (fun b1 => bR (μ.2 a0 1) (fun b2 => bR (μ.2 b2 10) (fun b3 => bV (f_X0_copy μ b1 b3) (fun μ4 => bR (μ4.2 a0 5) (fun b7 => bV (f_X3_clear μ4 b7) (fun μ8 => bR (μ8.2 a0 8) (fun b11 => bV (f_X6_clear μ8 b11) (fun μ12 => f_X9_moveIn_L30 FU μ12 a0 (0 : Int32)))))))))
set_option maxRecDepth 100000 in
theorem c_X9_moveIn {l : Launch} {D : va_G} {cA : Nat → ClassId} {z : Nat} {μ : Mm} {a0 : Nat} {μ' : Mm} (hk_a0 : kd a0 = 9) (h : f_X9_moveIn μ a0 = some μ') : Ct l D cA z yX9_moveIn wsX9_moveIn 2 43 [.ref (z + a0)] μ none μ' := by
  refine m_in (cc := cX9_moveIn) (maxL := 3) (ret := none) (own := RX9) (by decide) rfl rfl (Nat.le_of_ble_eq_true rfl) ?_
  intro p e s m below meth c ls X hd hS hl
  obtain ⟨hx, hb, hr, hlk, hml, hown, hts, hK⟩ := id X
  have hl : lv_has ls 3 [(0, .ref (z + a0))] := hl
  unfold f_X9_moveIn at h
  refine lv_aload_n hx hb dX9_moveIn_0 rfl (lv_at hl 0 rfl) ?_
  obtain ⟨b1, hb1, h⟩ := bR_e h
  refine r_getr hx hb hts (fun w h => List.mem_cons_of_mem _ (List.mem_append_left _ (List.mem_append_left _ (List.mem_append_left _ (List.mem_append_left _ (List.mem_append_left _ (List.mem_append_right _ (h)))))))) hown hK hd hk_a0 hb1 rfl fs_9_4 (hts (.fieldLink RX9 33 "LevelVotes" "now" "LLevelVotes$Ballot;") (List.mem_of_getElem? (i := 1) rfl)) dX9_moveIn_1 (fun hq => ?_)
  have hk_b1 : kd b1 = 0 := hq
  refine lv_aload_n hx hb dX9_moveIn_4 rfl (lv_at hl 0 rfl) ?_
  obtain ⟨b2, hb2, h⟩ := bR_e h
  refine r_getr hx hb hts (fun w h => List.mem_cons_of_mem _ (List.mem_append_left _ (List.mem_append_left _ (List.mem_append_left _ (List.mem_append_left _ (List.mem_append_left _ (List.mem_append_right _ (h)))))))) hown hK hd hk_a0 hb2 rfl fs_9_1 (hts (.fieldLink RX9 19 "LevelVotes" "plan" "LLevelVotes$House;") (List.mem_of_getElem? (i := 2) rfl)) dX9_moveIn_5 (fun hq => ?_)
  have hk_b2 : kd b2 = 4 := hq
  obtain ⟨b3, hb3, h⟩ := bR_e h
  refine r_getr hx hb hts (fun w h => List.mem_cons_of_mem _ (List.mem_append_left _ (List.mem_append_left _ (List.mem_append_left _ (List.mem_append_left _ (List.mem_append_right _ (h))))))) hown hK hd hk_b2 hb3 rfl fs_4_10 (hts (.fieldLink RX9 311 "LevelVotes$House" "toldVotes" "LLevelVotes$Ballot;") (List.mem_of_getElem? (i := 3) rfl)) dX9_moveIn_8 (fun hq => ?_)
  have hk_b3 : kd b3 = 0 := hq
  obtain ⟨μ4, hc6, h⟩ := bV_e h
  refine rc_Vv (rest := []) [.ref (z + b3)] ⟨hx, hb, hml, hown, hts⟩ hK hd hS (c_X0_copy hk_b1 hk_b3 hc6) (cwV 1 hts gX9_moveIn_X0_copy rfl rfl rfl hv_X0_copy ⟨Nat.le_of_ble_eq_true rfl, Nat.le_of_ble_eq_true rfl⟩) hk_b1 rfl rfl rfl rfl hl.1 rfl (Nat.le_of_ble_eq_true rfl) dX9_moveIn_11 ⟨Nat.zero_le _, Nat.zero_le _⟩ (fun H locs hd hS => ?_)
  refine lv_aload_n hx hb dX9_moveIn_14 rfl (lv_at hl 0 rfl) ?_
  obtain ⟨b7, hb7, h⟩ := bR_e h
  refine r_getr hx hb hts (fun w h => List.mem_cons_of_mem _ (List.mem_append_left _ (List.mem_append_left _ (List.mem_append_left _ (List.mem_append_left _ (List.mem_append_left _ (List.mem_append_right _ (h)))))))) hown hK hd hk_a0 hb7 rfl fs_9_5 (hts (.fieldLink RX9 40 "LevelVotes" "history" "LLevelVotes$History;") (List.mem_of_getElem? (i := 4) rfl)) dX9_moveIn_15 (fun hq => ?_)
  have hk_b7 : kd b7 = 3 := hq
  obtain ⟨μ8, hc10, h⟩ := bV_e h
  refine rc_Vv (rest := []) [] ⟨hx, hb, hml, hown, hts⟩ hK hd hS (c_X3_clear hk_b7 hc10) (cwV 0 hts gX9_moveIn_X3_clear rfl rfl rfl hv_X3_clear ⟨Nat.le_of_ble_eq_true rfl, Nat.le_of_ble_eq_true rfl⟩) hk_b7 rfl rfl rfl rfl hl.1 rfl (Nat.le_of_ble_eq_true rfl) dX9_moveIn_18 ⟨Nat.zero_le _, Nat.zero_le _⟩ (fun H locs hd hS => ?_)
  refine lv_aload_n hx hb dX9_moveIn_21 rfl (lv_at hl 0 rfl) ?_
  obtain ⟨b11, hb11, h⟩ := bR_e h
  refine r_getr hx hb hts (fun w h => List.mem_cons_of_mem _ (List.mem_append_left _ (List.mem_append_left _ (List.mem_append_left _ (List.mem_append_left _ (List.mem_append_left _ (List.mem_append_right _ (h)))))))) hown hK hd hk_a0 hb11 rfl fs_9_8 (hts (.fieldLink RX9 60 "LevelVotes" "notebook" "LLevelVotes$Notebook;") (List.mem_of_getElem? (i := 5) rfl)) dX9_moveIn_22 (fun hq => ?_)
  have hk_b11 : kd b11 = 6 := hq
  obtain ⟨μ12, hc14, h⟩ := bV_e h
  refine rc_Vv (rest := []) [] ⟨hx, hb, hml, hown, hts⟩ hK hd hS (c_X6_clear hk_b11 hc14) (cwV 0 hts gX9_moveIn_X6_clear rfl rfl rfl hv_X6_clear ⟨Nat.le_of_ble_eq_true rfl, Nat.le_of_ble_eq_true rfl⟩) hk_b11 rfl rfl rfl rfl hl.1 rfl (Nat.le_of_ble_eq_true rfl) dX9_moveIn_25 ⟨Nat.zero_le _, Nat.zero_le _⟩ (fun H locs hd hS => ?_)
  refine lv_iconst (v := 0) hx hb dX9_moveIn_28 (by decide) ?_
  refine lv_istore_n (lv' := [(1, .int (0 : Int32)), (0, .ref (z + a0))]) hx hb dX9_moveIn_29 rfl hl (by decide) rfl (fun ls hl => ?_)
  exact k_f_X9_moveIn_L30 X FU _ _ _ _ _ _ hk_a0 hd hS (lv_sub hl [1, 0] rfl) h
theorem hv_X9_house : yX9_house.cls = RX9 ∧ yX9_house.cls ≠ "java/lang/invoke/MethodHandle" ∧ yX9_house.cls ≠ "java/lang/invoke/VarHandle" ∧ (parseMethodDescriptor yX9_house.desc).map (fun d => d.parameters.length) = some 0 := by decide +kernel
def f_X9_house (μ : Mm) (a0 : Nat) : Option (Int32 × Mm) := bR (μ.2 a0 0) (fun b1 => bR (μ.2 a0 2) (fun b2 => bC (f_X7_readInto μ b1 b2) (fun r4 μ3 => bR (μ3.2 a0 0) (fun b6 => bM (up2 μ3.1 a0 3 (μ3.1 b6 2), μ3.2) (fun μ7 => if r4 = 0 then (bR (μ7.2 a0 1) (fun b9 => bR (μ7.2 a0 2) (fun b10 => bM (μ7.1, up2 μ7.2 a0 1 (some b10)) (fun μ11 => bM (μ11.1, up2 μ11.2 a0 2 (some b9)) (fun μ12 => bV (f_X9_moveIn μ12 a0) (fun μ13 => bR (μ13.2 a0 1) (fun b16 => some (μ13.1 b16 3, μ13)))))))) else (some ((-10 : Int32) - r4, μ7)))))))
set_option maxRecDepth 100000 in
theorem c_X9_house {l : Launch} {D : va_G} {cA : Nat → ClassId} {z : Nat} {μ : Mm} {a0 : Nat} {r : Int32} {μ' : Mm} (hk_a0 : kd a0 = 9) (h : f_X9_house μ a0 = some (r, μ')) : Ct l D cA z yX9_house wsX9_house 6 137 [.ref (z + a0)] μ (some (.int r)) μ' := by
  refine m_in (cc := cX9_house) (maxL := 3) (ret := (some .int)) (own := RX9) (by decide) rfl rfl (Nat.le_of_ble_eq_true rfl) ?_
  intro p e s m below meth c ls X hd hS hl
  obtain ⟨hx, hb, hr, hlk, hml, hown, hts, hK⟩ := id X
  have hl : lv_has ls 3 [(0, .ref (z + a0))] := hl
  unfold f_X9_house at h
  refine lv_aload_n hx hb dX9_house_0 rfl (lv_at hl 0 rfl) ?_
  obtain ⟨b1, hb1, h⟩ := bR_e h
  refine r_getr hx hb hts (fun w h => List.mem_cons_of_mem _ (List.mem_append_left _ (List.mem_append_left _ (List.mem_append_left _ (List.mem_append_left _ (List.mem_append_left _ (List.mem_append_left _ (List.mem_append_right _ (h))))))))) hown hK hd hk_a0 hb1 rfl fs_9_0 (hts (.fieldLink RX9 10 "LevelVotes" "text" "LLevelVotes$Text;") (List.mem_of_getElem? (i := 1) rfl)) dX9_house_1 (fun hq => ?_)
  have hk_b1 : kd b1 = 7 := hq
  refine lv_aload_n hx hb dX9_house_4 rfl (lv_at hl 0 rfl) ?_
  obtain ⟨b2, hb2, h⟩ := bR_e h
  refine r_getr hx hb hts (fun w h => List.mem_cons_of_mem _ (List.mem_append_left _ (List.mem_append_left _ (List.mem_append_left _ (List.mem_append_left _ (List.mem_append_left _ (List.mem_append_left _ (List.mem_append_right _ (h))))))))) hown hK hd hk_a0 hb2 rfl fs_9_2 (hts (.fieldLink RX9 23 "LevelVotes" "draft" "LLevelVotes$House;") (List.mem_of_getElem? (i := 2) rfl)) dX9_house_5 (fun hq => ?_)
  have hk_b2 : kd b2 = 4 := hq
  obtain ⟨r4, μ3, hc5, h⟩ := bC_e h
  refine rc_Vi (rest := []) [.ref (z + b2)] ⟨hx, hb, hml, hown, hts⟩ hK hd hS (c_X7_readInto hk_b1 hk_b2 hc5) (cwV 1 hts gX9_house_X7_readInto rfl rfl rfl hv_X7_readInto ⟨Nat.le_of_ble_eq_true rfl, Nat.le_of_ble_eq_true rfl⟩) hk_b1 rfl rfl rfl rfl hl.1 rfl (Nat.le_of_ble_eq_true rfl) dX9_house_8 ⟨Nat.zero_le _, Nat.zero_le _⟩ (fun H locs hd hS => ?_)
  refine lv_istore_n (lv' := [(1, .int r4), (0, .ref (z + a0))]) hx hb dX9_house_11 rfl hl (by decide) rfl (fun ls hl => ?_)
  refine lv_aload_n hx hb dX9_house_12 rfl (lv_at hl 1 rfl) ?_
  refine lv_aload_n hx hb dX9_house_13 rfl (lv_at hl 1 rfl) ?_
  obtain ⟨b6, hb6, h⟩ := bR_e h
  refine r_getr hx hb hts (fun w h => List.mem_cons_of_mem _ (List.mem_append_left _ (List.mem_append_left _ (List.mem_append_left _ (List.mem_append_left _ (List.mem_append_left _ (List.mem_append_left _ (List.mem_append_right _ (h))))))))) hown hK hd hk_a0 hb6 rfl fs_9_0 (hts (.fieldLink RX9 10 "LevelVotes" "text" "LLevelVotes$Text;") (List.mem_of_getElem? (i := 1) rfl)) dX9_house_14 (fun hq => ?_)
  have hk_b6 : kd b6 = 7 := hq
  refine r_geti hx hb hts (fun w h => List.mem_cons_of_mem _ (List.mem_append_left _ (List.mem_append_left _ (List.mem_append_left _ (List.mem_append_left _ (List.mem_append_left _ (List.mem_append_right _ (h)))))))) hown hK hd hk_b6 rfl 2 fs_7_2 (hts (.fieldLink RX9 103 "LevelVotes$Text" "flawAt" "I") (List.mem_of_getElem? (i := 3) rfl)) dX9_house_17 ?_
  refine r_puti hx hb hts (fun w h => List.mem_cons_of_mem _ (List.mem_append_left _ (List.mem_append_left _ (List.mem_append_left _ (List.mem_append_left _ (List.mem_append_left _ (List.mem_append_left _ (List.mem_append_right _ (h))))))))) tyX9 tyX9_ok nmX9 hown hK hd hS hk_a0 rfl 3 fs_9_3 rfl (hts (.fieldLink RX9 26 "LevelVotes" "faultAt" "I") (List.mem_of_getElem? (i := 4) rfl)) (vp_nar_int _) rfl dX9_house_20 (fun μ7 eμ7 H locs hd hS => ?_)
  have h := bM_e eμ7 h
  refine lv_iload_n hx hb dX9_house_23 rfl (lv_at hl 0 rfl) ?_
  refine lv_if_eq (tgt := 32) hx hb dX9_house_24 (by decide) (fun q8 => ?_) (fun q8 => ?_)
  · have h := if_y q8 h
    refine lv_aload_n hx hb dX9_house_32 rfl (lv_at hl 1 rfl) ?_
    obtain ⟨b9, hb9, h⟩ := bR_e h
    refine r_getr hx hb hts (fun w h => List.mem_cons_of_mem _ (List.mem_append_left _ (List.mem_append_left _ (List.mem_append_left _ (List.mem_append_left _ (List.mem_append_left _ (List.mem_append_left _ (List.mem_append_right _ (h))))))))) hown hK hd hk_a0 hb9 rfl fs_9_1 (hts (.fieldLink RX9 19 "LevelVotes" "plan" "LLevelVotes$House;") (List.mem_of_getElem? (i := 5) rfl)) dX9_house_33 (fun hq => ?_)
    have hk_b9 : kd b9 = 4 := hq
    refine lv_astore_n (lv' := [(2, .ref (z + b9)), (1, .int r4), (0, .ref (z + a0))]) hx hb dX9_house_36 rfl hl (by decide) rfl (fun ls hl => ?_)
    refine lv_aload_n hx hb dX9_house_37 rfl (lv_at hl 2 rfl) ?_
    refine lv_aload_n hx hb dX9_house_38 rfl (lv_at hl 2 rfl) ?_
    obtain ⟨b10, hb10, h⟩ := bR_e h
    refine r_getr hx hb hts (fun w h => List.mem_cons_of_mem _ (List.mem_append_left _ (List.mem_append_left _ (List.mem_append_left _ (List.mem_append_left _ (List.mem_append_left _ (List.mem_append_left _ (List.mem_append_right _ (h))))))))) hown hK hd hk_a0 hb10 rfl fs_9_2 (hts (.fieldLink RX9 23 "LevelVotes" "draft" "LLevelVotes$House;") (List.mem_of_getElem? (i := 2) rfl)) dX9_house_39 (fun hq => ?_)
    have hk_b10 : kd b10 = 4 := hq
    refine r_putr hx hb hts (fun w h => List.mem_cons_of_mem _ (List.mem_append_left _ (List.mem_append_left _ (List.mem_append_left _ (List.mem_append_left _ (List.mem_append_left _ (List.mem_append_left _ (List.mem_append_right _ (h))))))))) tyX9 tyX9_ok nmX9 hown hK hd hS hk_a0 rfl 1 fs_9_1 rfl (hts (.fieldLink RX9 19 "LevelVotes" "plan" "LLevelVotes$House;") (List.mem_of_getElem? (i := 5) rfl)) hk_b10 rfl rfl dX9_house_42 (fun μ11 eμ11 H locs hd hS => ?_)
    have h := bM_e eμ11 h
    refine lv_aload_n hx hb dX9_house_45 rfl (lv_at hl 2 rfl) ?_
    refine lv_aload_n hx hb dX9_house_46 rfl (lv_at hl 0 rfl) ?_
    refine r_putr hx hb hts (fun w h => List.mem_cons_of_mem _ (List.mem_append_left _ (List.mem_append_left _ (List.mem_append_left _ (List.mem_append_left _ (List.mem_append_left _ (List.mem_append_left _ (List.mem_append_right _ (h))))))))) tyX9 tyX9_ok nmX9 hown hK hd hS hk_a0 rfl 2 fs_9_2 rfl (hts (.fieldLink RX9 23 "LevelVotes" "draft" "LLevelVotes$House;") (List.mem_of_getElem? (i := 2) rfl)) hk_b9 rfl rfl dX9_house_47 (fun μ12 eμ12 H locs hd hS => ?_)
    have h := bM_e eμ12 h
    refine lv_aload_n hx hb dX9_house_50 rfl (lv_at hl 2 rfl) ?_
    obtain ⟨μ13, hc15, h⟩ := bV_e h
    refine rc_Vv (rest := []) [] ⟨hx, hb, hml, hown, hts⟩ hK hd hS (c_X9_moveIn hk_a0 hc15) (cwV 0 hts gX9_house_X9_moveIn rfl rfl rfl hv_X9_moveIn ⟨Nat.le_of_ble_eq_true rfl, Nat.le_of_ble_eq_true rfl⟩) hk_a0 rfl rfl rfl rfl hl.1 rfl (Nat.le_of_ble_eq_true rfl) dX9_house_51 ⟨Nat.zero_le _, Nat.zero_le _⟩ (fun H locs hd hS => ?_)
    refine lv_aload_n hx hb dX9_house_54 rfl (lv_at hl 2 rfl) ?_
    obtain ⟨b16, hb16, h⟩ := bR_e h
    refine r_getr hx hb hts (fun w h => List.mem_cons_of_mem _ (List.mem_append_left _ (List.mem_append_left _ (List.mem_append_left _ (List.mem_append_left _ (List.mem_append_left _ (List.mem_append_left _ (List.mem_append_right _ (h))))))))) hown hK hd hk_a0 hb16 rfl fs_9_1 (hts (.fieldLink RX9 19 "LevelVotes" "plan" "LLevelVotes$House;") (List.mem_of_getElem? (i := 5) rfl)) dX9_house_55 (fun hq => ?_)
    have hk_b16 : kd b16 = 4 := hq
    refine r_geti hx hb hts (fun w h => List.mem_cons_of_mem _ (List.mem_append_left _ (List.mem_append_left _ (List.mem_append_left _ (List.mem_append_left _ (List.mem_append_right _ (h))))))) hown hK hd hk_b16 rfl 3 fs_4_3 (hts (.fieldLink RX9 109 "LevelVotes$House" "items" "I") (List.mem_of_getElem? (i := 6) rfl)) dX9_house_58 ?_
    obtain ⟨rfl, rfl⟩ := so_e h
    exact rt_i hx hb hr hlk hd hS dX9_house_61
  · have h := if_n q8 h
    refine lv_bipush (v := -10) hx hb dX9_house_27 (by decide) ?_
    refine lv_iload_n hx hb dX9_house_29 rfl (lv_at hl 0 rfl) ?_
    refine lv_isub hx hb dX9_house_30 ?_
    obtain ⟨rfl, rfl⟩ := so_e h
    exact rt_i hx hb hr hlk hd hS dX9_house_31
theorem hv_X9_fault : yX9_fault.cls = RX9 ∧ yX9_fault.cls ≠ "java/lang/invoke/MethodHandle" ∧ yX9_fault.cls ≠ "java/lang/invoke/VarHandle" ∧ (parseMethodDescriptor yX9_fault.desc).map (fun d => d.parameters.length) = some 0 := by decide +kernel
def f_X9_fault (μ : Mm) (a0 : Nat) : Option (Int32 × Mm) := some (μ.1 a0 3, μ)
set_option maxRecDepth 100000 in
theorem c_X9_fault {l : Launch} {D : va_G} {cA : Nat → ClassId} {z : Nat} {μ : Mm} {a0 : Nat} {r : Int32} {μ' : Mm} (hk_a0 : kd a0 = 9) (h : f_X9_fault μ a0 = some (r, μ')) : Ct l D cA z yX9_fault wsX9_fault 0 0 [.ref (z + a0)] μ (some (.int r)) μ' := by
  refine m_in (cc := cX9_fault) (maxL := 1) (ret := (some .int)) (own := RX9) (by decide) rfl rfl (Nat.le_of_ble_eq_true rfl) ?_
  intro p e s m below meth c ls X hd hS hl
  obtain ⟨hx, hb, hr, hlk, hml, hown, hts, hK⟩ := id X
  have hl : lv_has ls 1 [(0, .ref (z + a0))] := hl
  unfold f_X9_fault at h
  refine lv_aload_n hx hb dX9_fault_0 rfl (lv_at hl 0 rfl) ?_
  refine r_geti hx hb hts (fun w h => List.mem_cons_of_mem _ (List.mem_append_right _ (h))) hown hK hd hk_a0 rfl 3 fs_9_3 (hts (.fieldLink RX9 26 "LevelVotes" "faultAt" "I") (List.mem_of_getElem? (i := 1) rfl)) dX9_fault_1 ?_
  obtain ⟨rfl, rfl⟩ := so_e h
  exact rt_i hx hb hr hlk hd hS dX9_fault_4
theorem hv_X9_standNow : yX9_standNow.cls = RX9 ∧ yX9_standNow.cls ≠ "java/lang/invoke/MethodHandle" ∧ yX9_standNow.cls ≠ "java/lang/invoke/VarHandle" ∧ (parseMethodDescriptor yX9_standNow.desc).map (fun d => d.parameters.length) = some 0 := by decide +kernel
def f_X9_standNow (μ : Mm) (a0 : Nat) : Option (Int32 × Mm) := bR (μ.2 a0 9) (fun b1 => bR (μ.2 a0 4) (fun b2 => bR (μ.2 a0 1) (fun b3 => bV (f_X8_follow μ b1 b2 (μ.1 b3 3)) (fun μ4 => bR (μ4.2 a0 9) (fun b7 => bC (f_X8_figures μ4 b7) (fun r9 μ8 => some (r9, μ8)))))))
set_option maxRecDepth 100000 in
theorem c_X9_standNow {l : Launch} {D : va_G} {cA : Nat → ClassId} {z : Nat} {μ : Mm} {a0 : Nat} {r : Int32} {μ' : Mm} (hk_a0 : kd a0 = 9) (h : f_X9_standNow μ a0 = some (r, μ')) : Ct l D cA z yX9_standNow wsX9_standNow 4 86 [.ref (z + a0)] μ (some (.int r)) μ' := by
  refine m_in (cc := cX9_standNow) (maxL := 1) (ret := (some .int)) (own := RX9) (by decide) rfl rfl (Nat.le_of_ble_eq_true rfl) ?_
  intro p e s m below meth c ls X hd hS hl
  obtain ⟨hx, hb, hr, hlk, hml, hown, hts, hK⟩ := id X
  have hl : lv_has ls 1 [(0, .ref (z + a0))] := hl
  unfold f_X9_standNow at h
  refine lv_aload_n hx hb dX9_standNow_0 rfl (lv_at hl 0 rfl) ?_
  obtain ⟨b1, hb1, h⟩ := bR_e h
  refine r_getr hx hb hts (fun w h => List.mem_cons_of_mem _ (List.mem_append_left _ (List.mem_append_left _ (List.mem_append_left _ (List.mem_append_right _ (h)))))) hown hK hd hk_a0 hb1 rfl fs_9_9 (hts (.fieldLink RX9 67 "LevelVotes" "way" "LLevelVotes$Way;") (List.mem_of_getElem? (i := 1) rfl)) dX9_standNow_1 (fun hq => ?_)
  have hk_b1 : kd b1 = 8 := hq
  refine lv_aload_n hx hb dX9_standNow_4 rfl (lv_at hl 0 rfl) ?_
  obtain ⟨b2, hb2, h⟩ := bR_e h
  refine r_getr hx hb hts (fun w h => List.mem_cons_of_mem _ (List.mem_append_left _ (List.mem_append_left _ (List.mem_append_left _ (List.mem_append_right _ (h)))))) hown hK hd hk_a0 hb2 rfl fs_9_4 (hts (.fieldLink RX9 33 "LevelVotes" "now" "LLevelVotes$Ballot;") (List.mem_of_getElem? (i := 2) rfl)) dX9_standNow_5 (fun hq => ?_)
  have hk_b2 : kd b2 = 0 := hq
  refine lv_aload_n hx hb dX9_standNow_8 rfl (lv_at hl 0 rfl) ?_
  obtain ⟨b3, hb3, h⟩ := bR_e h
  refine r_getr hx hb hts (fun w h => List.mem_cons_of_mem _ (List.mem_append_left _ (List.mem_append_left _ (List.mem_append_left _ (List.mem_append_right _ (h)))))) hown hK hd hk_a0 hb3 rfl fs_9_1 (hts (.fieldLink RX9 19 "LevelVotes" "plan" "LLevelVotes$House;") (List.mem_of_getElem? (i := 3) rfl)) dX9_standNow_9 (fun hq => ?_)
  have hk_b3 : kd b3 = 4 := hq
  refine r_geti hx hb hts (fun w h => List.mem_cons_of_mem _ (List.mem_append_left _ (List.mem_append_left _ (List.mem_append_right _ (h))))) hown hK hd hk_b3 rfl 3 fs_4_3 (hts (.fieldLink RX9 109 "LevelVotes$House" "items" "I") (List.mem_of_getElem? (i := 4) rfl)) dX9_standNow_12 ?_
  obtain ⟨μ4, hc6, h⟩ := bV_e h
  refine rc_Vv (rest := []) [.ref (z + b2), .int (μ.1 b3 3)] ⟨hx, hb, hml, hown, hts⟩ hK hd hS (c_X8_follow hk_b1 hk_b2 hc6) (cwV 2 hts gX9_standNow_X8_follow rfl rfl rfl hv_X8_follow ⟨Nat.le_of_ble_eq_true rfl, Nat.le_of_ble_eq_true rfl⟩) hk_b1 rfl rfl rfl rfl hl.1 rfl (Nat.le_of_ble_eq_true rfl) dX9_standNow_15 ⟨Nat.zero_le _, Nat.zero_le _⟩ (fun H locs hd hS => ?_)
  refine lv_aload_n hx hb dX9_standNow_18 rfl (lv_at hl 0 rfl) ?_
  obtain ⟨b7, hb7, h⟩ := bR_e h
  refine r_getr hx hb hts (fun w h => List.mem_cons_of_mem _ (List.mem_append_left _ (List.mem_append_left _ (List.mem_append_left _ (List.mem_append_right _ (h)))))) hown hK hd hk_a0 hb7 rfl fs_9_9 (hts (.fieldLink RX9 67 "LevelVotes" "way" "LLevelVotes$Way;") (List.mem_of_getElem? (i := 1) rfl)) dX9_standNow_19 (fun hq => ?_)
  have hk_b7 : kd b7 = 8 := hq
  obtain ⟨r9, μ8, hc10, h⟩ := bC_e h
  refine rc_Vi (rest := []) [] ⟨hx, hb, hml, hown, hts⟩ hK hd hS (c_X8_figures hk_b7 hc10) (cwV 0 hts gX9_standNow_X8_figures rfl rfl rfl hv_X8_figures ⟨Nat.le_of_ble_eq_true rfl, Nat.le_of_ble_eq_true rfl⟩) hk_b7 rfl rfl rfl rfl hl.1 rfl (Nat.le_of_ble_eq_true rfl) dX9_standNow_22 ⟨Nat.zero_le _, Nat.zero_le _⟩ (fun H locs hd hS => ?_)
  obtain ⟨rfl, rfl⟩ := so_e h
  exact rt_i hx hb hr hlk hd hS dX9_standNow_25
theorem hn_X9_weightOf : yX9_weightOf.cls ≠ "java/lang/invoke/MethodHandle" ∧ yX9_weightOf.cls ≠ "java/lang/invoke/VarHandle" ∧ (parseMethodDescriptor yX9_weightOf.desc).map (fun d => d.parameters.length) = some 1 := by decide +kernel
def f_X9_weightOf (μ : Mm) (x0 : Int32) : Option (Int32 × Mm) := if x0 = (1 : Int32) then (some ((1 : Int32), μ)) else (if x0 = 0 then (some ((-1 : Int32), μ)) else (some ((0 : Int32), μ)))
set_option maxRecDepth 100000 in
theorem c_X9_weightOf {l : Launch} {D : va_G} {cA : Nat → ClassId} {z : Nat} {μ : Mm} {x0 : Int32} {r : Int32} {μ' : Mm} (h : f_X9_weightOf μ x0 = some (r, μ')) : Ct l D cA z yX9_weightOf wsX9_weightOf 0 0 [.int x0] μ (some (.int r)) μ' := by
  refine m_in (cc := cX9_weightOf) (maxL := 1) (ret := (some .int)) (own := RX9) (by decide) rfl rfl (Nat.le_of_ble_eq_true rfl) ?_
  intro p e s m below meth c ls X hd hS hl
  obtain ⟨hx, hb, hr, hlk, hml, hown, hts, hK⟩ := id X
  have hl : lv_has ls 1 [(0, .int x0)] := hl
  unfold f_X9_weightOf at h
  refine lv_iload_n hx hb dX9_weightOf_0 rfl (lv_at hl 0 rfl) ?_
  refine lv_iconst (v := 1) hx hb dX9_weightOf_1 (by decide) ?_
  refine lv_icmp_ne (tgt := 9) hx hb dX9_weightOf_2 (by decide) (fun q1 => ?_) (fun q1 => ?_)
  · have h := if_n q1 h
    refine lv_iload_n hx hb dX9_weightOf_9 rfl (lv_at hl 0 rfl) ?_
    refine lv_if_ne (tgt := 17) hx hb dX9_weightOf_10 (by decide) (fun q2 => ?_) (fun q2 => ?_)
    · have h := if_n q2 h
      refine lv_iconst (v := 0) hx hb dX9_weightOf_17 (by decide) ?_
      obtain ⟨rfl, rfl⟩ := so_e h
      exact rt_i hx hb hr hlk hd hS dX9_weightOf_18
    · have h := if_y q2 h
      refine lv_iconst (v := -1) hx hb dX9_weightOf_13 (by decide) ?_
      refine lv_goto (tgt := 18) hx hb dX9_weightOf_14 (by decide) ?_
      obtain ⟨rfl, rfl⟩ := so_e h
      exact rt_i hx hb hr hlk hd hS dX9_weightOf_18
  · have h := if_y q1 h
    refine lv_iconst (v := 1) hx hb dX9_weightOf_5 (by decide) ?_
    refine lv_goto (tgt := 18) hx hb dX9_weightOf_6 (by decide) ?_
    obtain ⟨rfl, rfl⟩ := so_e h
    exact rt_i hx hb hr hlk hd hS dX9_weightOf_18
theorem hv_X9_lostMore : yX9_lostMore.cls = RX9 ∧ yX9_lostMore.cls ≠ "java/lang/invoke/MethodHandle" ∧ yX9_lostMore.cls ≠ "java/lang/invoke/VarHandle" ∧ (parseMethodDescriptor yX9_lostMore.desc).map (fun d => d.parameters.length) = some 1 := by decide +kernel
abbrev HL_X9_lostMore_4 (l : Launch) (D : va_G) (cA : Nat → ClassId) (z : Nat) (av : List Value) (r : Int32) (μ' : Mm) (p : Program) (e : Env) (s : State) (m : MethodId) (below : List Frame) (meth : Method) (c : Code) (rc : Mm → Nat → Int32 → Int32 → Int32 → Option (Int32 × Mm)) : Prop := ∀ (μ : Mm) (H : Heap) (locs : List Loc) (ls : Array Slot) (a0 : Nat) (x1 : Int32) (x2 : Int32) (x3 : Int32), kd a0 = 9 → Wd D cA z μ H → va_S (Az z) s.heap H locs → lv_has ls 4 [(0, .ref (z + a0)), (1, .int x1), (2, .int x2), (3, .int x3)] → rc μ a0 x1 x2 x3 = some (r, μ') → WG l D cA z wsX9_lostMore 3 63 av (some (.int r)) μ' p e s m below meth c H locs (F0 m 4 ls [])
def f_X9_lostMore_j41 (rc4 : Mm → Nat → Int32 → Int32 → Int32 → Option (Int32 × Mm)) (μ : Mm) (a0 : Nat) (x1 : Int32) (x2 : Int32) (x3 : Int32) : Option (Int32 × Mm) := rc4 μ a0 x1 x2 (x3 + (1 : Int32))
set_option maxRecDepth 100000 in
theorem k_f_X9_lostMore_j41 {l : Launch} {D : va_G} {cA : Nat → ClassId} {z : Nat} {av : List Value} {p : Program} {e : Env} {s : State} {m : MethodId} {below : List Frame} {meth : Method} {c : Code} {r : Int32} {μ' : Mm} (X : Fx D cA RX9 wsX9_lostMore cX9_lostMore 4 (some .boolean) p s m av.toArray meth c) {rc4 : Mm → Nat → Int32 → Int32 → Int32 → Option (Int32 × Mm)} (hrc4 : HL_X9_lostMore_4 l D cA z av r μ' p e s m below meth c rc4) {μ : Mm} {a0 : Nat} {x1 : Int32} {x2 : Int32} {x3 : Int32} (hk_a0 : kd a0 = 9) {H : Heap} {locs : List Loc} {ls : Array Slot} (hd : Wd D cA z μ H) (hS : va_S (Az z) s.heap H locs) (hl : lv_has ls 4 [(0, .ref (z + a0)), (1, .int x1), (2, .int x2), (3, .int x3)]) (h : f_X9_lostMore_j41 rc4 μ a0 x1 x2 x3 = some (r, μ')) : WG l D cA z wsX9_lostMore 3 63 av (some (.int r)) μ' p e s m below meth c H locs (F0 m 41 ls []) := by
  obtain ⟨hx, hb, hr, hlk, hml, hown, hts, hK⟩ := id X
  unfold f_X9_lostMore_j41 at h
  refine lv_iinc (v := x3 + (1 : Int32)) (lv' := [(3, .int (x3 + (1 : Int32))), (0, .ref (z + a0)), (1, .int x1), (2, .int x2)]) hx hb dX9_lostMore_41 hl (k := 3) rfl rfl (by decide) rfl (fun ls hl => ?_)
  refine lv_goto (tgt := 4) hx hb dX9_lostMore_44 (by decide) ?_
  exact hrc4 _ _ _ _ _ _ _ _ hk_a0 hd hS (lv_sub hl [1, 2, 3, 0] rfl) h
def f_X9_lostMore_L4b (rc4 : Mm → Nat → Int32 → Int32 → Int32 → Option (Int32 × Mm)) (μ : Mm) (a0 : Nat) (x1 : Int32) (x2 : Int32) (x3 : Int32) : Option (Int32 × Mm) := bR (μ.2 a0 1) (fun b1 => if (μ.1 b1 3) ≤ x3 then (if x2 ≤ 0 then (some ((0 : Int32), μ)) else (some ((1 : Int32), μ))) else (bR (μ.2 a0 4) (fun b4 => bC (f_X0_standOf μ b4 x3) (fun r6 μ5 => if r6 = 0 then (f_X9_lostMore_j41 rc4 μ5 a0 x1 x2 x3) else (bR (μ5.2 a0 4) (fun b9 => bC (f_X0_howOf μ5 b9 x1 x3) (fun r11 μ10 => bC (f_X9_weightOf μ10 r11) (fun r14 μ13 => bI (x2 - r14) (fun v16 => f_X9_lostMore_j41 rc4 μ13 a0 x1 v16 x3)))))))))
set_option maxRecDepth 100000 in
theorem k_f_X9_lostMore_L4b {l : Launch} {D : va_G} {cA : Nat → ClassId} {z : Nat} {av : List Value} {p : Program} {e : Env} {s : State} {m : MethodId} {below : List Frame} {meth : Method} {c : Code} {r : Int32} {μ' : Mm} (X : Fx D cA RX9 wsX9_lostMore cX9_lostMore 4 (some .boolean) p s m av.toArray meth c) {rc4 : Mm → Nat → Int32 → Int32 → Int32 → Option (Int32 × Mm)} (hrc4 : HL_X9_lostMore_4 l D cA z av r μ' p e s m below meth c rc4) {μ : Mm} {a0 : Nat} {x1 : Int32} {x2 : Int32} {x3 : Int32} (hk_a0 : kd a0 = 9) {H : Heap} {locs : List Loc} {ls : Array Slot} (hd : Wd D cA z μ H) (hS : va_S (Az z) s.heap H locs) (hl : lv_has ls 4 [(0, .ref (z + a0)), (1, .int x1), (2, .int x2), (3, .int x3)]) (h : f_X9_lostMore_L4b rc4 μ a0 x1 x2 x3 = some (r, μ')) : WG l D cA z wsX9_lostMore 3 63 av (some (.int r)) μ' p e s m below meth c H locs (F0 m 4 ls []) := by
  obtain ⟨hx, hb, hr, hlk, hml, hown, hts, hK⟩ := id X
  unfold f_X9_lostMore_L4b at h
  refine lv_iload_n hx hb dX9_lostMore_4 rfl (lv_at hl 3 rfl) ?_
  refine lv_aload_n hx hb dX9_lostMore_5 rfl (lv_at hl 0 rfl) ?_
  obtain ⟨b1, hb1, h⟩ := bR_e h
  refine r_getr hx hb hts (fun w h => List.mem_cons_of_mem _ (List.mem_append_left _ (List.mem_append_left _ (List.mem_append_right _ (h))))) hown hK hd hk_a0 hb1 rfl fs_9_1 (hts (.fieldLink RX9 19 "LevelVotes" "plan" "LLevelVotes$House;") (List.mem_of_getElem? (i := 1) rfl)) dX9_lostMore_6 (fun hq => ?_)
  have hk_b1 : kd b1 = 4 := hq
  refine r_geti hx hb hts (fun w h => List.mem_cons_of_mem _ (List.mem_append_left _ (List.mem_append_right _ (h)))) hown hK hd hk_b1 rfl 3 fs_4_3 (hts (.fieldLink RX9 109 "LevelVotes$House" "items" "I") (List.mem_of_getElem? (i := 2) rfl)) dX9_lostMore_9 ?_
  refine lv_icmp_ge (tgt := 47) hx hb dX9_lostMore_12 (by decide) (fun q2 => ?_) (fun q2 => ?_)
  · have h := if_y q2 h
    refine lv_iload_n hx hb dX9_lostMore_47 rfl (lv_at hl 2 rfl) ?_
    refine lv_if_le (tgt := 55) hx hb dX9_lostMore_48 (by decide) (fun q3 => ?_) (fun q3 => ?_)
    · have h := if_y q3 h
      refine lv_iconst (v := 0) hx hb dX9_lostMore_55 (by decide) ?_
      obtain ⟨rfl, rfl⟩ := so_e h
      exact rt_z hx hb hr rfl hlk hd hS dX9_lostMore_56
    · have h := if_n q3 h
      refine lv_iconst (v := 1) hx hb dX9_lostMore_51 (by decide) ?_
      refine lv_goto (tgt := 56) hx hb dX9_lostMore_52 (by decide) ?_
      obtain ⟨rfl, rfl⟩ := so_e h
      exact rt_z hx hb hr rfl hlk hd hS dX9_lostMore_56
  · have h := if_n q2 h
    refine lv_aload_n hx hb dX9_lostMore_15 rfl (lv_at hl 0 rfl) ?_
    obtain ⟨b4, hb4, h⟩ := bR_e h
    refine r_getr hx hb hts (fun w h => List.mem_cons_of_mem _ (List.mem_append_left _ (List.mem_append_left _ (List.mem_append_right _ (h))))) hown hK hd hk_a0 hb4 rfl fs_9_4 (hts (.fieldLink RX9 33 "LevelVotes" "now" "LLevelVotes$Ballot;") (List.mem_of_getElem? (i := 3) rfl)) dX9_lostMore_16 (fun hq => ?_)
    have hk_b4 : kd b4 = 0 := hq
    refine lv_iload_n hx hb dX9_lostMore_19 rfl (lv_at hl 3 rfl) ?_
    obtain ⟨r6, μ5, hc7, h⟩ := bC_e h
    refine rc_Vi (rest := []) [.int x3] ⟨hx, hb, hml, hown, hts⟩ hK hd hS (c_X0_standOf hk_b4 hc7) (cwV 1 hts gX9_lostMore_X0_standOf rfl rfl rfl hv_X0_standOf ⟨Nat.le_of_ble_eq_true rfl, Nat.le_of_ble_eq_true rfl⟩) hk_b4 rfl rfl rfl rfl hl.1 rfl (Nat.le_of_ble_eq_true rfl) dX9_lostMore_20 ⟨Nat.zero_le _, Nat.zero_le _⟩ (fun H locs hd hS => ?_)
    refine lv_if_eq (tgt := 41) hx hb dX9_lostMore_23 (by decide) (fun q8 => ?_) (fun q8 => ?_)
    · have h := if_y q8 h
      exact k_f_X9_lostMore_j41 X hrc4 hk_a0 hd hS (lv_sub hl [0, 1, 2, 3] rfl) h
    · have h := if_n q8 h
      refine lv_iload_n hx hb dX9_lostMore_26 rfl (lv_at hl 2 rfl) ?_
      refine lv_aload_n hx hb dX9_lostMore_27 rfl (lv_at hl 0 rfl) ?_
      obtain ⟨b9, hb9, h⟩ := bR_e h
      refine r_getr hx hb hts (fun w h => List.mem_cons_of_mem _ (List.mem_append_left _ (List.mem_append_left _ (List.mem_append_right _ (h))))) hown hK hd hk_a0 hb9 rfl fs_9_4 (hts (.fieldLink RX9 33 "LevelVotes" "now" "LLevelVotes$Ballot;") (List.mem_of_getElem? (i := 3) rfl)) dX9_lostMore_28 (fun hq => ?_)
      have hk_b9 : kd b9 = 0 := hq
      refine lv_iload_n hx hb dX9_lostMore_31 rfl (lv_at hl 1 rfl) ?_
      refine lv_iload_n hx hb dX9_lostMore_32 rfl (lv_at hl 3 rfl) ?_
      obtain ⟨r11, μ10, hc12, h⟩ := bC_e h
      refine rc_Vi (rest := [.int x2]) [.int x1, .int x3] ⟨hx, hb, hml, hown, hts⟩ hK hd hS (c_X0_howOf hk_b9 hc12) (cwV 2 hts gX9_lostMore_X0_howOf rfl rfl rfl hv_X0_howOf ⟨Nat.le_of_ble_eq_true rfl, Nat.le_of_ble_eq_true rfl⟩) hk_b9 rfl rfl rfl rfl hl.1 rfl (Nat.le_of_ble_eq_true rfl) dX9_lostMore_33 ⟨Nat.zero_le _, Nat.zero_le _⟩ (fun H locs hd hS => ?_)
      obtain ⟨r14, μ13, hc15, h⟩ := bC_e h
      refine rc_Si (rest := [.int x2]) [.int r11] ⟨hx, hb, hml, hown, hts⟩ hK hd hS (c_X9_weightOf  hc15) (va_cwS 1 hts gX9_lostMore_X9_weightOf rfl rfl rfl hn_X9_weightOf ⟨Nat.le_of_ble_eq_true rfl, Nat.le_of_ble_eq_true rfl⟩) rfl hl.1 rfl (Nat.le_of_ble_eq_true rfl) dX9_lostMore_36 ⟨Nat.zero_le _, Nat.zero_le _⟩ (fun H locs hd hS => ?_)
      refine lv_isub hx hb dX9_lostMore_39 ?_
      refine lv_topi (fun v16 ev16 => ?_)
      have h := bI_e ev16 h
      refine lv_istore_n (lv' := [(2, .int v16), (0, .ref (z + a0)), (1, .int x1), (3, .int x3)]) hx hb dX9_lostMore_40 rfl hl (by decide) rfl (fun ls hl => ?_)
      exact k_f_X9_lostMore_j41 X hrc4 hk_a0 hd hS (lv_sub hl [1, 2, 0, 3] rfl) h
def f_X9_lostMore_L4 : Nat → Mm → Nat → Int32 → Int32 → Int32 → Option (Int32 × Mm)
  | 0 => fun _ _ _ _ _ => none
  | n + 1 => fun μ a0 x1 x2 x3 => f_X9_lostMore_L4b (f_X9_lostMore_L4 n) μ a0 x1 x2 x3
theorem k_f_X9_lostMore_L4 {l : Launch} {D : va_G} {cA : Nat → ClassId} {z : Nat} {av : List Value} {p : Program} {e : Env} {s : State} {m : MethodId} {below : List Frame} {meth : Method} {c : Code} {r : Int32} {μ' : Mm} (X : Fx D cA RX9 wsX9_lostMore cX9_lostMore 4 (some .boolean) p s m av.toArray meth c) (n : Nat) : HL_X9_lostMore_4 l D cA z av r μ' p e s m below meth c (f_X9_lostMore_L4 n) := by
  induction n with
  | zero => intro _ _ _ _ _ _ _ _ _ _ _ _ h; have h2 : (none : Option _) = some _ := h; cases h2
  | succ n ih => intro μ H locs ls a0 x1 x2 x3 hk_a0 hd hS hl h; exact k_f_X9_lostMore_L4b X ih hk_a0 hd hS hl h
def f_X9_lostMore (μ : Mm) (a0 : Nat) (x1 : Int32) : Option (Int32 × Mm) := f_X9_lostMore_L4 FU μ a0 x1 (0 : Int32) (0 : Int32)
set_option maxRecDepth 100000 in
theorem c_X9_lostMore {l : Launch} {D : va_G} {cA : Nat → ClassId} {z : Nat} {μ : Mm} {a0 : Nat} {x1 : Int32} {r : Int32} {μ' : Mm} (hk_a0 : kd a0 = 9) (h : f_X9_lostMore μ a0 x1 = some (r, μ')) : Ct l D cA z yX9_lostMore wsX9_lostMore 3 63 [.ref (z + a0), .int x1] μ (some (.int r)) μ' := by
  refine m_in (cc := cX9_lostMore) (maxL := 4) (ret := (some .boolean)) (own := RX9) (by decide) rfl rfl (Nat.le_of_ble_eq_true rfl) ?_
  intro p e s m below meth c ls X hd hS hl
  obtain ⟨hx, hb, hr, hlk, hml, hown, hts, hK⟩ := id X
  have hl : lv_has ls 4 [(0, .ref (z + a0)), (1, .int x1)] := hl
  unfold f_X9_lostMore at h
  refine lv_iconst (v := 0) hx hb dX9_lostMore_0 (by decide) ?_
  refine lv_istore_n (lv' := [(2, .int (0 : Int32)), (0, .ref (z + a0)), (1, .int x1)]) hx hb dX9_lostMore_1 rfl hl (by decide) rfl (fun ls hl => ?_)
  refine lv_iconst (v := 0) hx hb dX9_lostMore_2 (by decide) ?_
  refine lv_istore_n (lv' := [(3, .int (0 : Int32)), (2, .int (0 : Int32)), (0, .ref (z + a0)), (1, .int x1)]) hx hb dX9_lostMore_3 rfl hl (by decide) rfl (fun ls hl => ?_)
  exact k_f_X9_lostMore_L4 X FU _ _ _ _ _ _ _ _ hk_a0 hd hS (lv_sub hl [2, 3, 1, 0] rfl) h
theorem hv_X9_downhill : yX9_downhill.cls = RX9 ∧ yX9_downhill.cls ≠ "java/lang/invoke/MethodHandle" ∧ yX9_downhill.cls ≠ "java/lang/invoke/VarHandle" ∧ (parseMethodDescriptor yX9_downhill.desc).map (fun d => d.parameters.length) = some 0 := by decide +kernel
abbrev HL_X9_downhill_4 (l : Launch) (D : va_G) (cA : Nat → ClassId) (z : Nat) (av : List Value) (r : Int32) (μ' : Mm) (p : Program) (e : Env) (s : State) (m : MethodId) (below : List Frame) (meth : Method) (c : Code) (rc : Mm → Nat → Int32 → Int32 → Option (Int32 × Mm)) : Prop := ∀ (μ : Mm) (H : Heap) (locs : List Loc) (ls : Array Slot) (a0 : Nat) (x1 : Int32) (x2 : Int32), kd a0 = 9 → Wd D cA z μ H → va_S (Az z) s.heap H locs → lv_has ls 3 [(0, .ref (z + a0)), (1, .int x1), (2, .int x2)] → rc μ a0 x1 x2 = some (r, μ') → WG l D cA z wsX9_downhill 4 86 av (some (.int r)) μ' p e s m below meth c H locs (F0 m 4 ls [])
def f_X9_downhill_j29 (rc4 : Mm → Nat → Int32 → Int32 → Option (Int32 × Mm)) (μ : Mm) (a0 : Nat) (x1 : Int32) (x2 : Int32) : Option (Int32 × Mm) := rc4 μ a0 x1 (x2 + (1 : Int32))
set_option maxRecDepth 100000 in
theorem k_f_X9_downhill_j29 {l : Launch} {D : va_G} {cA : Nat → ClassId} {z : Nat} {av : List Value} {p : Program} {e : Env} {s : State} {m : MethodId} {below : List Frame} {meth : Method} {c : Code} {r : Int32} {μ' : Mm} (X : Fx D cA RX9 wsX9_downhill cX9_downhill 3 (some .int) p s m av.toArray meth c) {rc4 : Mm → Nat → Int32 → Int32 → Option (Int32 × Mm)} (hrc4 : HL_X9_downhill_4 l D cA z av r μ' p e s m below meth c rc4) {μ : Mm} {a0 : Nat} {x1 : Int32} {x2 : Int32} (hk_a0 : kd a0 = 9) {H : Heap} {locs : List Loc} {ls : Array Slot} (hd : Wd D cA z μ H) (hS : va_S (Az z) s.heap H locs) (hl : lv_has ls 3 [(0, .ref (z + a0)), (1, .int x1), (2, .int x2)]) (h : f_X9_downhill_j29 rc4 μ a0 x1 x2 = some (r, μ')) : WG l D cA z wsX9_downhill 4 86 av (some (.int r)) μ' p e s m below meth c H locs (F0 m 29 ls []) := by
  obtain ⟨hx, hb, hr, hlk, hml, hown, hts, hK⟩ := id X
  unfold f_X9_downhill_j29 at h
  refine lv_iinc (v := x2 + (1 : Int32)) (lv' := [(2, .int (x2 + (1 : Int32))), (0, .ref (z + a0)), (1, .int x1)]) hx hb dX9_downhill_29 hl (k := 2) rfl rfl (by decide) rfl (fun ls hl => ?_)
  refine lv_goto (tgt := 4) hx hb dX9_downhill_32 (by decide) ?_
  exact hrc4 _ _ _ _ _ _ _ hk_a0 hd hS (lv_sub hl [1, 2, 0] rfl) h
def f_X9_downhill_L4b (rc4 : Mm → Nat → Int32 → Int32 → Option (Int32 × Mm)) (μ : Mm) (a0 : Nat) (x1 : Int32) (x2 : Int32) : Option (Int32 × Mm) := bR (μ.2 a0 1) (fun b1 => if (μ.1 b1 4) ≤ x2 then (some (x1, μ)) else (bC (f_X9_lostMore μ a0 x2) (fun r4 μ3 => if r4 = 0 then (f_X9_downhill_j29 rc4 μ3 a0 x1 x2) else (bI (x1 ||| ((1 : Int32) <<< (x2 &&& 31))) (fun v7 => f_X9_downhill_j29 rc4 μ3 a0 v7 x2)))))
set_option maxRecDepth 100000 in
theorem k_f_X9_downhill_L4b {l : Launch} {D : va_G} {cA : Nat → ClassId} {z : Nat} {av : List Value} {p : Program} {e : Env} {s : State} {m : MethodId} {below : List Frame} {meth : Method} {c : Code} {r : Int32} {μ' : Mm} (X : Fx D cA RX9 wsX9_downhill cX9_downhill 3 (some .int) p s m av.toArray meth c) {rc4 : Mm → Nat → Int32 → Int32 → Option (Int32 × Mm)} (hrc4 : HL_X9_downhill_4 l D cA z av r μ' p e s m below meth c rc4) {μ : Mm} {a0 : Nat} {x1 : Int32} {x2 : Int32} (hk_a0 : kd a0 = 9) {H : Heap} {locs : List Loc} {ls : Array Slot} (hd : Wd D cA z μ H) (hS : va_S (Az z) s.heap H locs) (hl : lv_has ls 3 [(0, .ref (z + a0)), (1, .int x1), (2, .int x2)]) (h : f_X9_downhill_L4b rc4 μ a0 x1 x2 = some (r, μ')) : WG l D cA z wsX9_downhill 4 86 av (some (.int r)) μ' p e s m below meth c H locs (F0 m 4 ls []) := by
  obtain ⟨hx, hb, hr, hlk, hml, hown, hts, hK⟩ := id X
  unfold f_X9_downhill_L4b at h
  refine lv_iload_n hx hb dX9_downhill_4 rfl (lv_at hl 2 rfl) ?_
  refine lv_aload_n hx hb dX9_downhill_5 rfl (lv_at hl 0 rfl) ?_
  obtain ⟨b1, hb1, h⟩ := bR_e h
  refine r_getr hx hb hts (fun w h => List.mem_cons_of_mem _ (List.mem_append_left _ (List.mem_append_left _ (List.mem_append_right _ (h))))) hown hK hd hk_a0 hb1 rfl fs_9_1 (hts (.fieldLink RX9 19 "LevelVotes" "plan" "LLevelVotes$House;") (List.mem_of_getElem? (i := 1) rfl)) dX9_downhill_6 (fun hq => ?_)
  have hk_b1 : kd b1 = 4 := hq
  refine r_geti hx hb hts (fun w h => List.mem_cons_of_mem _ (List.mem_append_left _ (List.mem_append_right _ (h)))) hown hK hd hk_b1 rfl 4 fs_4_4 (hts (.fieldLink RX9 118 "LevelVotes$House" "persons" "I") (List.mem_of_getElem? (i := 2) rfl)) dX9_downhill_9 ?_
  refine lv_icmp_ge (tgt := 35) hx hb dX9_downhill_12 (by decide) (fun q2 => ?_) (fun q2 => ?_)
  · have h := if_y q2 h
    refine lv_iload_n hx hb dX9_downhill_35 rfl (lv_at hl 1 rfl) ?_
    obtain ⟨rfl, rfl⟩ := so_e h
    exact rt_i hx hb hr hlk hd hS dX9_downhill_36
  · have h := if_n q2 h
    refine lv_aload_n hx hb dX9_downhill_15 rfl (lv_at hl 0 rfl) ?_
    refine lv_iload_n hx hb dX9_downhill_16 rfl (lv_at hl 2 rfl) ?_
    obtain ⟨r4, μ3, hc5, h⟩ := bC_e h
    refine rc_Vi (rest := []) [.int x2] ⟨hx, hb, hml, hown, hts⟩ hK hd hS (c_X9_lostMore hk_a0 hc5) (cwV 1 hts gX9_downhill_X9_lostMore rfl rfl rfl hv_X9_lostMore ⟨Nat.le_of_ble_eq_true rfl, Nat.le_of_ble_eq_true rfl⟩) hk_a0 rfl rfl rfl rfl hl.1 rfl (Nat.le_of_ble_eq_true rfl) dX9_downhill_17 ⟨Nat.zero_le _, Nat.zero_le _⟩ (fun H locs hd hS => ?_)
    refine lv_if_eq (tgt := 29) hx hb dX9_downhill_20 (by decide) (fun q6 => ?_) (fun q6 => ?_)
    · have h := if_y q6 h
      exact k_f_X9_downhill_j29 X hrc4 hk_a0 hd hS (lv_sub hl [0, 1, 2] rfl) h
    · have h := if_n q6 h
      refine lv_iload_n hx hb dX9_downhill_23 rfl (lv_at hl 1 rfl) ?_
      refine lv_iconst (v := 1) hx hb dX9_downhill_24 (by decide) ?_
      refine lv_iload_n hx hb dX9_downhill_25 rfl (lv_at hl 2 rfl) ?_
      refine lv_ishl hx hb dX9_downhill_26 ?_
      refine lv_ior hx hb dX9_downhill_27 ?_
      refine lv_topi (fun v7 ev7 => ?_)
      have h := bI_e ev7 h
      refine lv_istore_n (lv' := [(1, .int v7), (0, .ref (z + a0)), (2, .int x2)]) hx hb dX9_downhill_28 rfl hl (by decide) rfl (fun ls hl => ?_)
      exact k_f_X9_downhill_j29 X hrc4 hk_a0 hd hS (lv_sub hl [1, 0, 2] rfl) h
def f_X9_downhill_L4 : Nat → Mm → Nat → Int32 → Int32 → Option (Int32 × Mm)
  | 0 => fun _ _ _ _ => none
  | n + 1 => fun μ a0 x1 x2 => f_X9_downhill_L4b (f_X9_downhill_L4 n) μ a0 x1 x2
theorem k_f_X9_downhill_L4 {l : Launch} {D : va_G} {cA : Nat → ClassId} {z : Nat} {av : List Value} {p : Program} {e : Env} {s : State} {m : MethodId} {below : List Frame} {meth : Method} {c : Code} {r : Int32} {μ' : Mm} (X : Fx D cA RX9 wsX9_downhill cX9_downhill 3 (some .int) p s m av.toArray meth c) (n : Nat) : HL_X9_downhill_4 l D cA z av r μ' p e s m below meth c (f_X9_downhill_L4 n) := by
  induction n with
  | zero => intro _ _ _ _ _ _ _ _ _ _ _ h; have h2 : (none : Option _) = some _ := h; cases h2
  | succ n ih => intro μ H locs ls a0 x1 x2 hk_a0 hd hS hl h; exact k_f_X9_downhill_L4b X ih hk_a0 hd hS hl h
def f_X9_downhill (μ : Mm) (a0 : Nat) : Option (Int32 × Mm) := f_X9_downhill_L4 FU μ a0 (0 : Int32) (0 : Int32)
set_option maxRecDepth 100000 in
theorem c_X9_downhill {l : Launch} {D : va_G} {cA : Nat → ClassId} {z : Nat} {μ : Mm} {a0 : Nat} {r : Int32} {μ' : Mm} (hk_a0 : kd a0 = 9) (h : f_X9_downhill μ a0 = some (r, μ')) : Ct l D cA z yX9_downhill wsX9_downhill 4 86 [.ref (z + a0)] μ (some (.int r)) μ' := by
  refine m_in (cc := cX9_downhill) (maxL := 3) (ret := (some .int)) (own := RX9) (by decide) rfl rfl (Nat.le_of_ble_eq_true rfl) ?_
  intro p e s m below meth c ls X hd hS hl
  obtain ⟨hx, hb, hr, hlk, hml, hown, hts, hK⟩ := id X
  have hl : lv_has ls 3 [(0, .ref (z + a0))] := hl
  unfold f_X9_downhill at h
  refine lv_iconst (v := 0) hx hb dX9_downhill_0 (by decide) ?_
  refine lv_istore_n (lv' := [(1, .int (0 : Int32)), (0, .ref (z + a0))]) hx hb dX9_downhill_1 rfl hl (by decide) rfl (fun ls hl => ?_)
  refine lv_iconst (v := 0) hx hb dX9_downhill_2 (by decide) ?_
  refine lv_istore_n (lv' := [(2, .int (0 : Int32)), (1, .int (0 : Int32)), (0, .ref (z + a0))]) hx hb dX9_downhill_3 rfl hl (by decide) rfl (fun ls hl => ?_)
  exact k_f_X9_downhill_L4 X FU _ _ _ _ _ _ _ hk_a0 hd hS (lv_sub hl [2, 1, 0] rfl) h
theorem hv_X9_shapeNow : yX9_shapeNow.cls = RX9 ∧ yX9_shapeNow.cls ≠ "java/lang/invoke/MethodHandle" ∧ yX9_shapeNow.cls ≠ "java/lang/invoke/VarHandle" ∧ (parseMethodDescriptor yX9_shapeNow.desc).map (fun d => d.parameters.length) = some 0 := by decide +kernel
def f_X9_shapeNow (μ : Mm) (a0 : Nat) : Option Mm := bR (μ.2 a0 9) (fun b1 => bR (μ.2 a0 4) (fun b2 => bR (μ.2 a0 1) (fun b3 => bV (f_X8_follow μ b1 b2 (μ.1 b3 3)) (fun μ4 => bR (μ4.2 a0 10) (fun b7 => bR (μ4.2 a0 1) (fun b8 => bR (μ4.2 a0 9) (fun b9 => bV (f_X2_shape μ4 b7 b8 b9) (fun μ10 => some μ10))))))))
set_option maxRecDepth 100000 in
theorem c_X9_shapeNow {l : Launch} {D : va_G} {cA : Nat → ClassId} {z : Nat} {μ : Mm} {a0 : Nat} {μ' : Mm} (hk_a0 : kd a0 = 9) (h : f_X9_shapeNow μ a0 = some μ') : Ct l D cA z yX9_shapeNow wsX9_shapeNow 4 86 [.ref (z + a0)] μ none μ' := by
  refine m_in (cc := cX9_shapeNow) (maxL := 1) (ret := none) (own := RX9) (by decide) rfl rfl (Nat.le_of_ble_eq_true rfl) ?_
  intro p e s m below meth c ls X hd hS hl
  obtain ⟨hx, hb, hr, hlk, hml, hown, hts, hK⟩ := id X
  have hl : lv_has ls 1 [(0, .ref (z + a0))] := hl
  unfold f_X9_shapeNow at h
  refine lv_aload_n hx hb dX9_shapeNow_0 rfl (lv_at hl 0 rfl) ?_
  obtain ⟨b1, hb1, h⟩ := bR_e h
  refine r_getr hx hb hts (fun w h => List.mem_cons_of_mem _ (List.mem_append_left _ (List.mem_append_left _ (List.mem_append_left _ (List.mem_append_left _ (List.mem_append_right _ (h))))))) hown hK hd hk_a0 hb1 rfl fs_9_9 (hts (.fieldLink RX9 67 "LevelVotes" "way" "LLevelVotes$Way;") (List.mem_of_getElem? (i := 1) rfl)) dX9_shapeNow_1 (fun hq => ?_)
  have hk_b1 : kd b1 = 8 := hq
  refine lv_aload_n hx hb dX9_shapeNow_4 rfl (lv_at hl 0 rfl) ?_
  obtain ⟨b2, hb2, h⟩ := bR_e h
  refine r_getr hx hb hts (fun w h => List.mem_cons_of_mem _ (List.mem_append_left _ (List.mem_append_left _ (List.mem_append_left _ (List.mem_append_left _ (List.mem_append_right _ (h))))))) hown hK hd hk_a0 hb2 rfl fs_9_4 (hts (.fieldLink RX9 33 "LevelVotes" "now" "LLevelVotes$Ballot;") (List.mem_of_getElem? (i := 2) rfl)) dX9_shapeNow_5 (fun hq => ?_)
  have hk_b2 : kd b2 = 0 := hq
  refine lv_aload_n hx hb dX9_shapeNow_8 rfl (lv_at hl 0 rfl) ?_
  obtain ⟨b3, hb3, h⟩ := bR_e h
  refine r_getr hx hb hts (fun w h => List.mem_cons_of_mem _ (List.mem_append_left _ (List.mem_append_left _ (List.mem_append_left _ (List.mem_append_left _ (List.mem_append_right _ (h))))))) hown hK hd hk_a0 hb3 rfl fs_9_1 (hts (.fieldLink RX9 19 "LevelVotes" "plan" "LLevelVotes$House;") (List.mem_of_getElem? (i := 3) rfl)) dX9_shapeNow_9 (fun hq => ?_)
  have hk_b3 : kd b3 = 4 := hq
  refine r_geti hx hb hts (fun w h => List.mem_cons_of_mem _ (List.mem_append_left _ (List.mem_append_left _ (List.mem_append_left _ (List.mem_append_right _ (h)))))) hown hK hd hk_b3 rfl 3 fs_4_3 (hts (.fieldLink RX9 109 "LevelVotes$House" "items" "I") (List.mem_of_getElem? (i := 4) rfl)) dX9_shapeNow_12 ?_
  obtain ⟨μ4, hc6, h⟩ := bV_e h
  refine rc_Vv (rest := []) [.ref (z + b2), .int (μ.1 b3 3)] ⟨hx, hb, hml, hown, hts⟩ hK hd hS (c_X8_follow hk_b1 hk_b2 hc6) (cwV 2 hts gX9_shapeNow_X8_follow rfl rfl rfl hv_X8_follow ⟨Nat.le_of_ble_eq_true rfl, Nat.le_of_ble_eq_true rfl⟩) hk_b1 rfl rfl rfl rfl hl.1 rfl (Nat.le_of_ble_eq_true rfl) dX9_shapeNow_15 ⟨Nat.zero_le _, Nat.zero_le _⟩ (fun H locs hd hS => ?_)
  refine lv_aload_n hx hb dX9_shapeNow_18 rfl (lv_at hl 0 rfl) ?_
  obtain ⟨b7, hb7, h⟩ := bR_e h
  refine r_getr hx hb hts (fun w h => List.mem_cons_of_mem _ (List.mem_append_left _ (List.mem_append_left _ (List.mem_append_left _ (List.mem_append_left _ (List.mem_append_right _ (h))))))) hown hK hd hk_a0 hb7 rfl fs_9_10 (hts (.fieldLink RX9 74 "LevelVotes" "hill" "LLevelVotes$Hill;") (List.mem_of_getElem? (i := 5) rfl)) dX9_shapeNow_19 (fun hq => ?_)
  have hk_b7 : kd b7 = 2 := hq
  refine lv_aload_n hx hb dX9_shapeNow_22 rfl (lv_at hl 0 rfl) ?_
  obtain ⟨b8, hb8, h⟩ := bR_e h
  refine r_getr hx hb hts (fun w h => List.mem_cons_of_mem _ (List.mem_append_left _ (List.mem_append_left _ (List.mem_append_left _ (List.mem_append_left _ (List.mem_append_right _ (h))))))) hown hK hd hk_a0 hb8 rfl fs_9_1 (hts (.fieldLink RX9 19 "LevelVotes" "plan" "LLevelVotes$House;") (List.mem_of_getElem? (i := 3) rfl)) dX9_shapeNow_23 (fun hq => ?_)
  have hk_b8 : kd b8 = 4 := hq
  refine lv_aload_n hx hb dX9_shapeNow_26 rfl (lv_at hl 0 rfl) ?_
  obtain ⟨b9, hb9, h⟩ := bR_e h
  refine r_getr hx hb hts (fun w h => List.mem_cons_of_mem _ (List.mem_append_left _ (List.mem_append_left _ (List.mem_append_left _ (List.mem_append_left _ (List.mem_append_right _ (h))))))) hown hK hd hk_a0 hb9 rfl fs_9_9 (hts (.fieldLink RX9 67 "LevelVotes" "way" "LLevelVotes$Way;") (List.mem_of_getElem? (i := 1) rfl)) dX9_shapeNow_27 (fun hq => ?_)
  have hk_b9 : kd b9 = 8 := hq
  obtain ⟨μ10, hc12, h⟩ := bV_e h
  refine rc_Vv (rest := []) [.ref (z + b8), .ref (z + b9)] ⟨hx, hb, hml, hown, hts⟩ hK hd hS (c_X2_shape hk_b7 hk_b8 hk_b9 hc12) (cwV 2 hts gX9_shapeNow_X2_shape rfl rfl rfl hv_X2_shape ⟨Nat.le_of_ble_eq_true rfl, Nat.le_of_ble_eq_true rfl⟩) hk_b7 rfl rfl rfl rfl hl.1 rfl (Nat.le_of_ble_eq_true rfl) dX9_shapeNow_30 ⟨Nat.zero_le _, Nat.zero_le _⟩ (fun H locs hd hS => ?_)
  obtain rfl := sv_e h
  exact rt_v hx hb hr hlk hd hS dX9_shapeNow_33
theorem hv_X9_pools : yX9_pools.cls = RX9 ∧ yX9_pools.cls ≠ "java/lang/invoke/MethodHandle" ∧ yX9_pools.cls ≠ "java/lang/invoke/VarHandle" ∧ (parseMethodDescriptor yX9_pools.desc).map (fun d => d.parameters.length) = some 0 := by decide +kernel
abbrev HL_X9_pools_8 (l : Launch) (D : va_G) (cA : Nat → ClassId) (z : Nat) (av : List Value) (r : Int32) (μ' : Mm) (p : Program) (e : Env) (s : State) (m : MethodId) (below : List Frame) (meth : Method) (c : Code) (rc : Mm → Nat → Int32 → Int32 → Option (Int32 × Mm)) : Prop := ∀ (μ : Mm) (H : Heap) (locs : List Loc) (ls : Array Slot) (a0 : Nat) (x1 : Int32) (x2 : Int32), kd a0 = 9 → Wd D cA z μ H → va_S (Az z) s.heap H locs → lv_has ls 3 [(0, .ref (z + a0)), (1, .int x1), (2, .int x2)] → rc μ a0 x1 x2 = some (r, μ') → WG l D cA z wsX9_pools 5 106 av (some (.int r)) μ' p e s m below meth c H locs (F0 m 8 ls [])
def f_X9_pools_L8b (rc8 : Mm → Nat → Int32 → Int32 → Option (Int32 × Mm)) (μ : Mm) (a0 : Nat) (x1 : Int32) (x2 : Int32) : Option (Int32 × Mm) := bR (μ.2 a0 1) (fun b1 => if (μ.1 b1 2) ≤ x2 then (some (x1, μ)) else (bR (μ.2 a0 10) (fun b3 => bC (f_X2_restFrom μ b3 x2) (fun r5 μ4 => bI (x1 ||| ((1 : Int32) <<< (r5 &&& 31))) (fun v7 => rc8 μ4 a0 v7 (x2 + (1 : Int32)))))))
set_option maxRecDepth 100000 in
theorem k_f_X9_pools_L8b {l : Launch} {D : va_G} {cA : Nat → ClassId} {z : Nat} {av : List Value} {p : Program} {e : Env} {s : State} {m : MethodId} {below : List Frame} {meth : Method} {c : Code} {r : Int32} {μ' : Mm} (X : Fx D cA RX9 wsX9_pools cX9_pools 3 (some .int) p s m av.toArray meth c) {rc8 : Mm → Nat → Int32 → Int32 → Option (Int32 × Mm)} (hrc8 : HL_X9_pools_8 l D cA z av r μ' p e s m below meth c rc8) {μ : Mm} {a0 : Nat} {x1 : Int32} {x2 : Int32} (hk_a0 : kd a0 = 9) {H : Heap} {locs : List Loc} {ls : Array Slot} (hd : Wd D cA z μ H) (hS : va_S (Az z) s.heap H locs) (hl : lv_has ls 3 [(0, .ref (z + a0)), (1, .int x1), (2, .int x2)]) (h : f_X9_pools_L8b rc8 μ a0 x1 x2 = some (r, μ')) : WG l D cA z wsX9_pools 5 106 av (some (.int r)) μ' p e s m below meth c H locs (F0 m 8 ls []) := by
  obtain ⟨hx, hb, hr, hlk, hml, hown, hts, hK⟩ := id X
  unfold f_X9_pools_L8b at h
  refine lv_iload_n hx hb dX9_pools_8 rfl (lv_at hl 2 rfl) ?_
  refine lv_aload_n hx hb dX9_pools_9 rfl (lv_at hl 0 rfl) ?_
  obtain ⟨b1, hb1, h⟩ := bR_e h
  refine r_getr hx hb hts (fun w h => List.mem_cons_of_mem _ (List.mem_append_left _ (List.mem_append_left _ (List.mem_append_left _ (List.mem_append_left _ (List.mem_append_right _ (h))))))) hown hK hd hk_a0 hb1 rfl fs_9_1 (hts (.fieldLink RX9 19 "LevelVotes" "plan" "LLevelVotes$House;") (List.mem_of_getElem? (i := 1) rfl)) dX9_pools_10 (fun hq => ?_)
  have hk_b1 : kd b1 = 4 := hq
  refine r_geti hx hb hts (fun w h => List.mem_cons_of_mem _ (List.mem_append_left _ (List.mem_append_left _ (List.mem_append_left _ (List.mem_append_right _ (h)))))) hown hK hd hk_b1 rfl 2 fs_4_2 (hts (.fieldLink RX9 222 "LevelVotes$House" "cells" "I") (List.mem_of_getElem? (i := 2) rfl)) dX9_pools_13 ?_
  refine lv_icmp_ge (tgt := 38) hx hb dX9_pools_16 (by decide) (fun q2 => ?_) (fun q2 => ?_)
  · have h := if_y q2 h
    refine lv_iload_n hx hb dX9_pools_38 rfl (lv_at hl 1 rfl) ?_
    obtain ⟨rfl, rfl⟩ := so_e h
    exact rt_i hx hb hr hlk hd hS dX9_pools_39
  · have h := if_n q2 h
    refine lv_iload_n hx hb dX9_pools_19 rfl (lv_at hl 1 rfl) ?_
    refine lv_iconst (v := 1) hx hb dX9_pools_20 (by decide) ?_
    refine lv_aload_n hx hb dX9_pools_21 rfl (lv_at hl 0 rfl) ?_
    obtain ⟨b3, hb3, h⟩ := bR_e h
    refine r_getr hx hb hts (fun w h => List.mem_cons_of_mem _ (List.mem_append_left _ (List.mem_append_left _ (List.mem_append_left _ (List.mem_append_left _ (List.mem_append_right _ (h))))))) hown hK hd hk_a0 hb3 rfl fs_9_10 (hts (.fieldLink RX9 74 "LevelVotes" "hill" "LLevelVotes$Hill;") (List.mem_of_getElem? (i := 3) rfl)) dX9_pools_22 (fun hq => ?_)
    have hk_b3 : kd b3 = 2 := hq
    refine lv_iload_n hx hb dX9_pools_25 rfl (lv_at hl 2 rfl) ?_
    obtain ⟨r5, μ4, hc6, h⟩ := bC_e h
    refine rc_Vi (rest := [.int (1 : Int32), .int x1]) [.int x2] ⟨hx, hb, hml, hown, hts⟩ hK hd hS (c_X2_restFrom hk_b3 hc6) (cwV 1 hts gX9_pools_X2_restFrom rfl rfl rfl hv_X2_restFrom ⟨Nat.le_of_ble_eq_true rfl, Nat.le_of_ble_eq_true rfl⟩) hk_b3 rfl rfl rfl rfl hl.1 rfl (Nat.le_of_ble_eq_true rfl) dX9_pools_26 ⟨Nat.zero_le _, Nat.zero_le _⟩ (fun H locs hd hS => ?_)
    refine lv_ishl hx hb dX9_pools_29 ?_
    refine lv_ior hx hb dX9_pools_30 ?_
    refine lv_topi (fun v7 ev7 => ?_)
    have h := bI_e ev7 h
    refine lv_istore_n (lv' := [(1, .int v7), (0, .ref (z + a0)), (2, .int x2)]) hx hb dX9_pools_31 rfl hl (by decide) rfl (fun ls hl => ?_)
    refine lv_iinc (v := x2 + (1 : Int32)) (lv' := [(2, .int (x2 + (1 : Int32))), (1, .int v7), (0, .ref (z + a0))]) hx hb dX9_pools_32 hl (k := 2) rfl rfl (by decide) rfl (fun ls hl => ?_)
    refine lv_goto (tgt := 8) hx hb dX9_pools_35 (by decide) ?_
    exact hrc8 _ _ _ _ _ _ _ hk_a0 hd hS (lv_sub hl [2, 1, 0] rfl) h
def f_X9_pools_L8 : Nat → Mm → Nat → Int32 → Int32 → Option (Int32 × Mm)
  | 0 => fun _ _ _ _ => none
  | n + 1 => fun μ a0 x1 x2 => f_X9_pools_L8b (f_X9_pools_L8 n) μ a0 x1 x2
theorem k_f_X9_pools_L8 {l : Launch} {D : va_G} {cA : Nat → ClassId} {z : Nat} {av : List Value} {p : Program} {e : Env} {s : State} {m : MethodId} {below : List Frame} {meth : Method} {c : Code} {r : Int32} {μ' : Mm} (X : Fx D cA RX9 wsX9_pools cX9_pools 3 (some .int) p s m av.toArray meth c) (n : Nat) : HL_X9_pools_8 l D cA z av r μ' p e s m below meth c (f_X9_pools_L8 n) := by
  induction n with
  | zero => intro _ _ _ _ _ _ _ _ _ _ _ h; have h2 : (none : Option _) = some _ := h; cases h2
  | succ n ih => intro μ H locs ls a0 x1 x2 hk_a0 hd hS hl h; exact k_f_X9_pools_L8b X ih hk_a0 hd hS hl h
def f_X9_pools (μ : Mm) (a0 : Nat) : Option (Int32 × Mm) := bV (f_X9_shapeNow μ a0) (fun μ1 => f_X9_pools_L8 FU μ1 a0 (0 : Int32) (0 : Int32))
set_option maxRecDepth 100000 in
theorem c_X9_pools {l : Launch} {D : va_G} {cA : Nat → ClassId} {z : Nat} {μ : Mm} {a0 : Nat} {r : Int32} {μ' : Mm} (hk_a0 : kd a0 = 9) (h : f_X9_pools μ a0 = some (r, μ')) : Ct l D cA z yX9_pools wsX9_pools 5 106 [.ref (z + a0)] μ (some (.int r)) μ' := by
  refine m_in (cc := cX9_pools) (maxL := 3) (ret := (some .int)) (own := RX9) (by decide) rfl rfl (Nat.le_of_ble_eq_true rfl) ?_
  intro p e s m below meth c ls X hd hS hl
  obtain ⟨hx, hb, hr, hlk, hml, hown, hts, hK⟩ := id X
  have hl : lv_has ls 3 [(0, .ref (z + a0))] := hl
  unfold f_X9_pools at h
  refine lv_aload_n hx hb dX9_pools_0 rfl (lv_at hl 0 rfl) ?_
  obtain ⟨μ1, hc3, h⟩ := bV_e h
  refine rc_Vv (rest := []) [] ⟨hx, hb, hml, hown, hts⟩ hK hd hS (c_X9_shapeNow hk_a0 hc3) (cwV 0 hts gX9_pools_X9_shapeNow rfl rfl rfl hv_X9_shapeNow ⟨Nat.le_of_ble_eq_true rfl, Nat.le_of_ble_eq_true rfl⟩) hk_a0 rfl rfl rfl rfl hl.1 rfl (Nat.le_of_ble_eq_true rfl) dX9_pools_1 ⟨Nat.zero_le _, Nat.zero_le _⟩ (fun H locs hd hS => ?_)
  refine lv_iconst (v := 0) hx hb dX9_pools_4 (by decide) ?_
  refine lv_istore_n (lv' := [(1, .int (0 : Int32)), (0, .ref (z + a0))]) hx hb dX9_pools_5 rfl hl (by decide) rfl (fun ls hl => ?_)
  refine lv_iconst (v := 0) hx hb dX9_pools_6 (by decide) ?_
  refine lv_istore_n (lv' := [(2, .int (0 : Int32)), (1, .int (0 : Int32)), (0, .ref (z + a0))]) hx hb dX9_pools_7 rfl hl (by decide) rfl (fun ls hl => ?_)
  exact k_f_X9_pools_L8 X FU _ _ _ _ _ _ _ hk_a0 hd hS (lv_sub hl [2, 1, 0] rfl) h
theorem hv_X9_told : yX9_told.cls = RX9 ∧ yX9_told.cls ≠ "java/lang/invoke/MethodHandle" ∧ yX9_told.cls ≠ "java/lang/invoke/VarHandle" ∧ (parseMethodDescriptor yX9_told.desc).map (fun d => d.parameters.length) = some 1 := by decide +kernel
def f_X9_told (μ : Mm) (a0 : Nat) (x1 : Int32) : Option (Int32 × Mm) := if x1 = 0 then (bR (μ.2 a0 1) (fun b2 => some (μ.1 b2 0, μ))) else (if x1 = 1 then (bR (μ.2 a0 1) (fun b4 => some (μ.1 b4 1, μ))) else (if x1 = 2 then (bR (μ.2 a0 1) (fun b6 => some (μ.1 b6 3, μ))) else (if x1 = 3 then (bR (μ.2 a0 1) (fun b8 => some (μ.1 b8 4, μ))) else (if x1 = 4 then (bR (μ.2 a0 0) (fun b10 => some (μ.1 b10 1, μ))) else (if x1 = 5 then (bR (μ.2 a0 4) (fun b12 => some (μ.1 b12 2, μ))) else (if x1 = 6 then (bC (f_X9_standNow μ a0) (fun r15 μ14 => some (r15, μ14))) else (if x1 = 7 then (bR (μ.2 a0 4) (fun b18 => some (μ.1 b18 3, μ))) else (if x1 = 8 then (bC (f_X9_downhill μ a0) (fun r21 μ20 => some (r21, μ20))) else (if x1 = 9 then (bC (f_X9_pools μ a0) (fun r25 μ24 => some (r25, μ24))) else (if x1 = 10 then (bR (μ.2 a0 8) (fun b28 => some (μ.1 b28 4, μ))) else (if x1 = 11 then (bR (μ.2 a0 8) (fun b30 => some (μ.1 b30 5, μ))) else (if x1 = 12 then (bR (μ.2 a0 5) (fun b32 => some (μ.1 b32 1, μ))) else (some ((-1000000002 : Int32), μ))))))))))))))
set_option maxRecDepth 100000 in
theorem c_X9_told {l : Launch} {D : va_G} {cA : Nat → ClassId} {z : Nat} {μ : Mm} {a0 : Nat} {x1 : Int32} {r : Int32} {μ' : Mm} (hk_a0 : kd a0 = 9) (h : f_X9_told μ a0 x1 = some (r, μ')) : Ct l D cA z yX9_told wsX9_told 6 128 [.ref (z + a0), .int x1] μ (some (.int r)) μ' := by
  refine m_in (cc := cX9_told) (maxL := 2) (ret := (some .int)) (own := RX9) (by decide) rfl rfl (Nat.le_of_ble_eq_true rfl) ?_
  intro p e s m below meth c ls X hd hS hl
  obtain ⟨hx, hb, hr, hlk, hml, hown, hts, hK⟩ := id X
  have hl : lv_has ls 2 [(0, .ref (z + a0)), (1, .int x1)] := hl
  unfold f_X9_told at h
  refine lv_iload_n hx hb dX9_told_0 rfl (lv_at hl 1 rfl) ?_
  by_cases q1 : x1 = 0
  · have h := if_y q1 h
    refine lv_tableIn (off := 67) (tgt := 68) hx hb dX9_told_1 (by rw [q1]; decide) (by rw [q1]; decide) (by rw [q1]; rfl) (by decide) ?_
    refine lv_aload_n hx hb dX9_told_68 rfl (lv_at hl 0 rfl) ?_
    obtain ⟨b2, hb2, h⟩ := bR_e h
    refine r_getr hx hb hts (fun w h => List.mem_cons_of_mem _ (List.mem_append_left _ (List.mem_append_left _ (List.mem_append_left _ (List.mem_append_left _ (List.mem_append_left _ (List.mem_append_left _ (List.mem_append_left _ (List.mem_append_right _ (h)))))))))) hown hK hd hk_a0 hb2 rfl fs_9_1 (hts (.fieldLink RX9 19 "LevelVotes" "plan" "LLevelVotes$House;") (List.mem_of_getElem? (i := 1) rfl)) dX9_told_69 (fun hq => ?_)
    have hk_b2 : kd b2 = 4 := hq
    refine r_geti hx hb hts (fun w h => List.mem_cons_of_mem _ (List.mem_append_left _ (List.mem_append_left _ (List.mem_append_left _ (List.mem_append_left _ (List.mem_append_left _ (List.mem_append_left _ (List.mem_append_right _ (h))))))))) hown hK hd hk_b2 rfl 0 fs_4_0 (hts (.fieldLink RX9 112 "LevelVotes$House" "columns" "I") (List.mem_of_getElem? (i := 2) rfl)) dX9_told_72 ?_
    obtain ⟨rfl, rfl⟩ := so_e h
    exact rt_i hx hb hr hlk hd hS dX9_told_75
  have h := if_n q1 h
  by_cases q3 : x1 = 1
  · have h := if_y q3 h
    refine lv_tableIn (off := 75) (tgt := 76) hx hb dX9_told_1 (by rw [q3]; decide) (by rw [q3]; decide) (by rw [q3]; rfl) (by decide) ?_
    refine lv_aload_n hx hb dX9_told_76 rfl (lv_at hl 0 rfl) ?_
    obtain ⟨b4, hb4, h⟩ := bR_e h
    refine r_getr hx hb hts (fun w h => List.mem_cons_of_mem _ (List.mem_append_left _ (List.mem_append_left _ (List.mem_append_left _ (List.mem_append_left _ (List.mem_append_left _ (List.mem_append_left _ (List.mem_append_left _ (List.mem_append_right _ (h)))))))))) hown hK hd hk_a0 hb4 rfl fs_9_1 (hts (.fieldLink RX9 19 "LevelVotes" "plan" "LLevelVotes$House;") (List.mem_of_getElem? (i := 1) rfl)) dX9_told_77 (fun hq => ?_)
    have hk_b4 : kd b4 = 4 := hq
    refine r_geti hx hb hts (fun w h => List.mem_cons_of_mem _ (List.mem_append_left _ (List.mem_append_left _ (List.mem_append_left _ (List.mem_append_left _ (List.mem_append_left _ (List.mem_append_left _ (List.mem_append_right _ (h))))))))) hown hK hd hk_b4 rfl 1 fs_4_1 (hts (.fieldLink RX9 115 "LevelVotes$House" "rows" "I") (List.mem_of_getElem? (i := 3) rfl)) dX9_told_80 ?_
    obtain ⟨rfl, rfl⟩ := so_e h
    exact rt_i hx hb hr hlk hd hS dX9_told_83
  have h := if_n q3 h
  by_cases q5 : x1 = 2
  · have h := if_y q5 h
    refine lv_tableIn (off := 83) (tgt := 84) hx hb dX9_told_1 (by rw [q5]; decide) (by rw [q5]; decide) (by rw [q5]; rfl) (by decide) ?_
    refine lv_aload_n hx hb dX9_told_84 rfl (lv_at hl 0 rfl) ?_
    obtain ⟨b6, hb6, h⟩ := bR_e h
    refine r_getr hx hb hts (fun w h => List.mem_cons_of_mem _ (List.mem_append_left _ (List.mem_append_left _ (List.mem_append_left _ (List.mem_append_left _ (List.mem_append_left _ (List.mem_append_left _ (List.mem_append_left _ (List.mem_append_right _ (h)))))))))) hown hK hd hk_a0 hb6 rfl fs_9_1 (hts (.fieldLink RX9 19 "LevelVotes" "plan" "LLevelVotes$House;") (List.mem_of_getElem? (i := 1) rfl)) dX9_told_85 (fun hq => ?_)
    have hk_b6 : kd b6 = 4 := hq
    refine r_geti hx hb hts (fun w h => List.mem_cons_of_mem _ (List.mem_append_left _ (List.mem_append_left _ (List.mem_append_left _ (List.mem_append_left _ (List.mem_append_left _ (List.mem_append_left _ (List.mem_append_right _ (h))))))))) hown hK hd hk_b6 rfl 3 fs_4_3 (hts (.fieldLink RX9 109 "LevelVotes$House" "items" "I") (List.mem_of_getElem? (i := 4) rfl)) dX9_told_88 ?_
    obtain ⟨rfl, rfl⟩ := so_e h
    exact rt_i hx hb hr hlk hd hS dX9_told_91
  have h := if_n q5 h
  by_cases q7 : x1 = 3
  · have h := if_y q7 h
    refine lv_tableIn (off := 91) (tgt := 92) hx hb dX9_told_1 (by rw [q7]; decide) (by rw [q7]; decide) (by rw [q7]; rfl) (by decide) ?_
    refine lv_aload_n hx hb dX9_told_92 rfl (lv_at hl 0 rfl) ?_
    obtain ⟨b8, hb8, h⟩ := bR_e h
    refine r_getr hx hb hts (fun w h => List.mem_cons_of_mem _ (List.mem_append_left _ (List.mem_append_left _ (List.mem_append_left _ (List.mem_append_left _ (List.mem_append_left _ (List.mem_append_left _ (List.mem_append_left _ (List.mem_append_right _ (h)))))))))) hown hK hd hk_a0 hb8 rfl fs_9_1 (hts (.fieldLink RX9 19 "LevelVotes" "plan" "LLevelVotes$House;") (List.mem_of_getElem? (i := 1) rfl)) dX9_told_93 (fun hq => ?_)
    have hk_b8 : kd b8 = 4 := hq
    refine r_geti hx hb hts (fun w h => List.mem_cons_of_mem _ (List.mem_append_left _ (List.mem_append_left _ (List.mem_append_left _ (List.mem_append_left _ (List.mem_append_left _ (List.mem_append_left _ (List.mem_append_right _ (h))))))))) hown hK hd hk_b8 rfl 4 fs_4_4 (hts (.fieldLink RX9 118 "LevelVotes$House" "persons" "I") (List.mem_of_getElem? (i := 5) rfl)) dX9_told_96 ?_
    obtain ⟨rfl, rfl⟩ := so_e h
    exact rt_i hx hb hr hlk hd hS dX9_told_99
  have h := if_n q7 h
  by_cases q9 : x1 = 4
  · have h := if_y q9 h
    refine lv_tableIn (off := 99) (tgt := 100) hx hb dX9_told_1 (by rw [q9]; decide) (by rw [q9]; decide) (by rw [q9]; rfl) (by decide) ?_
    refine lv_aload_n hx hb dX9_told_100 rfl (lv_at hl 0 rfl) ?_
    obtain ⟨b10, hb10, h⟩ := bR_e h
    refine r_getr hx hb hts (fun w h => List.mem_cons_of_mem _ (List.mem_append_left _ (List.mem_append_left _ (List.mem_append_left _ (List.mem_append_left _ (List.mem_append_left _ (List.mem_append_left _ (List.mem_append_left _ (List.mem_append_right _ (h)))))))))) hown hK hd hk_a0 hb10 rfl fs_9_0 (hts (.fieldLink RX9 10 "LevelVotes" "text" "LLevelVotes$Text;") (List.mem_of_getElem? (i := 6) rfl)) dX9_told_101 (fun hq => ?_)
    have hk_b10 : kd b10 = 7 := hq
    refine r_geti hx hb hts (fun w h => List.mem_cons_of_mem _ (List.mem_append_left _ (List.mem_append_left _ (List.mem_append_left _ (List.mem_append_left _ (List.mem_append_left _ (List.mem_append_right _ (h)))))))) hown hK hd hk_b10 rfl 1 fs_7_1 (hts (.fieldLink RX9 96 "LevelVotes$Text" "size" "I") (List.mem_of_getElem? (i := 7) rfl)) dX9_told_104 ?_
    obtain ⟨rfl, rfl⟩ := so_e h
    exact rt_i hx hb hr hlk hd hS dX9_told_107
  have h := if_n q9 h
  by_cases q11 : x1 = 5
  · have h := if_y q11 h
    refine lv_tableIn (off := 107) (tgt := 108) hx hb dX9_told_1 (by rw [q11]; decide) (by rw [q11]; decide) (by rw [q11]; rfl) (by decide) ?_
    refine lv_aload_n hx hb dX9_told_108 rfl (lv_at hl 0 rfl) ?_
    obtain ⟨b12, hb12, h⟩ := bR_e h
    refine r_getr hx hb hts (fun w h => List.mem_cons_of_mem _ (List.mem_append_left _ (List.mem_append_left _ (List.mem_append_left _ (List.mem_append_left _ (List.mem_append_left _ (List.mem_append_left _ (List.mem_append_left _ (List.mem_append_right _ (h)))))))))) hown hK hd hk_a0 hb12 rfl fs_9_4 (hts (.fieldLink RX9 33 "LevelVotes" "now" "LLevelVotes$Ballot;") (List.mem_of_getElem? (i := 8) rfl)) dX9_told_109 (fun hq => ?_)
    have hk_b12 : kd b12 = 0 := hq
    refine r_geti hx hb hts (fun w h => List.mem_cons_of_mem _ (List.mem_append_left _ (List.mem_append_left _ (List.mem_append_left _ (List.mem_append_left _ (List.mem_append_right _ (h))))))) hown hK hd hk_b12 rfl 2 fs_0_2 (hts (.fieldLink RX9 121 "LevelVotes$Ballot" "sessions" "I") (List.mem_of_getElem? (i := 9) rfl)) dX9_told_112 ?_
    obtain ⟨rfl, rfl⟩ := so_e h
    exact rt_i hx hb hr hlk hd hS dX9_told_115
  have h := if_n q11 h
  by_cases q13 : x1 = 6
  · have h := if_y q13 h
    refine lv_tableIn (off := 115) (tgt := 116) hx hb dX9_told_1 (by rw [q13]; decide) (by rw [q13]; decide) (by rw [q13]; rfl) (by decide) ?_
    refine lv_aload_n hx hb dX9_told_116 rfl (lv_at hl 0 rfl) ?_
    obtain ⟨r15, μ14, hc16, h⟩ := bC_e h
    refine rc_Vi (rest := []) [] ⟨hx, hb, hml, hown, hts⟩ hK hd hS (c_X9_standNow hk_a0 hc16) (cwV 0 hts gX9_told_X9_standNow rfl rfl rfl hv_X9_standNow ⟨Nat.le_of_ble_eq_true rfl, Nat.le_of_ble_eq_true rfl⟩) hk_a0 rfl rfl rfl rfl hl.1 rfl (Nat.le_of_ble_eq_true rfl) dX9_told_117 ⟨Nat.zero_le _, Nat.zero_le _⟩ (fun H locs hd hS => ?_)
    obtain ⟨rfl, rfl⟩ := so_e h
    exact rt_i hx hb hr hlk hd hS dX9_told_120
  have h := if_n q13 h
  by_cases q17 : x1 = 7
  · have h := if_y q17 h
    refine lv_tableIn (off := 120) (tgt := 121) hx hb dX9_told_1 (by rw [q17]; decide) (by rw [q17]; decide) (by rw [q17]; rfl) (by decide) ?_
    refine lv_aload_n hx hb dX9_told_121 rfl (lv_at hl 0 rfl) ?_
    obtain ⟨b18, hb18, h⟩ := bR_e h
    refine r_getr hx hb hts (fun w h => List.mem_cons_of_mem _ (List.mem_append_left _ (List.mem_append_left _ (List.mem_append_left _ (List.mem_append_left _ (List.mem_append_left _ (List.mem_append_left _ (List.mem_append_left _ (List.mem_append_right _ (h)))))))))) hown hK hd hk_a0 hb18 rfl fs_9_4 (hts (.fieldLink RX9 33 "LevelVotes" "now" "LLevelVotes$Ballot;") (List.mem_of_getElem? (i := 8) rfl)) dX9_told_122 (fun hq => ?_)
    have hk_b18 : kd b18 = 0 := hq
    refine r_geti hx hb hts (fun w h => List.mem_cons_of_mem _ (List.mem_append_left _ (List.mem_append_left _ (List.mem_append_left _ (List.mem_append_left _ (List.mem_append_right _ (h))))))) hown hK hd hk_b18 rfl 3 fs_0_3 (hts (.fieldLink RX9 128 "LevelVotes$Ballot" "last" "I") (List.mem_of_getElem? (i := 10) rfl)) dX9_told_125 ?_
    obtain ⟨rfl, rfl⟩ := so_e h
    exact rt_i hx hb hr hlk hd hS dX9_told_128
  have h := if_n q17 h
  by_cases q19 : x1 = 8
  · have h := if_y q19 h
    refine lv_tableIn (off := 128) (tgt := 129) hx hb dX9_told_1 (by rw [q19]; decide) (by rw [q19]; decide) (by rw [q19]; rfl) (by decide) ?_
    refine lv_aload_n hx hb dX9_told_129 rfl (lv_at hl 0 rfl) ?_
    obtain ⟨r21, μ20, hc22, h⟩ := bC_e h
    refine rc_Vi (rest := []) [] ⟨hx, hb, hml, hown, hts⟩ hK hd hS (c_X9_downhill hk_a0 hc22) (cwV 0 hts gX9_told_X9_downhill rfl rfl rfl hv_X9_downhill ⟨Nat.le_of_ble_eq_true rfl, Nat.le_of_ble_eq_true rfl⟩) hk_a0 rfl rfl rfl rfl hl.1 rfl (Nat.le_of_ble_eq_true rfl) dX9_told_130 ⟨Nat.zero_le _, Nat.zero_le _⟩ (fun H locs hd hS => ?_)
    obtain ⟨rfl, rfl⟩ := so_e h
    exact rt_i hx hb hr hlk hd hS dX9_told_133
  have h := if_n q19 h
  by_cases q23 : x1 = 9
  · have h := if_y q23 h
    refine lv_tableIn (off := 133) (tgt := 134) hx hb dX9_told_1 (by rw [q23]; decide) (by rw [q23]; decide) (by rw [q23]; rfl) (by decide) ?_
    refine lv_aload_n hx hb dX9_told_134 rfl (lv_at hl 0 rfl) ?_
    obtain ⟨r25, μ24, hc26, h⟩ := bC_e h
    refine rc_Vi (rest := []) [] ⟨hx, hb, hml, hown, hts⟩ hK hd hS (c_X9_pools hk_a0 hc26) (cwV 0 hts gX9_told_X9_pools rfl rfl rfl hv_X9_pools ⟨Nat.le_of_ble_eq_true rfl, Nat.le_of_ble_eq_true rfl⟩) hk_a0 rfl rfl rfl rfl hl.1 rfl (Nat.le_of_ble_eq_true rfl) dX9_told_135 ⟨Nat.zero_le _, Nat.zero_le _⟩ (fun H locs hd hS => ?_)
    obtain ⟨rfl, rfl⟩ := so_e h
    exact rt_i hx hb hr hlk hd hS dX9_told_138
  have h := if_n q23 h
  by_cases q27 : x1 = 10
  · have h := if_y q27 h
    refine lv_tableIn (off := 138) (tgt := 139) hx hb dX9_told_1 (by rw [q27]; decide) (by rw [q27]; decide) (by rw [q27]; rfl) (by decide) ?_
    refine lv_aload_n hx hb dX9_told_139 rfl (lv_at hl 0 rfl) ?_
    obtain ⟨b28, hb28, h⟩ := bR_e h
    refine r_getr hx hb hts (fun w h => List.mem_cons_of_mem _ (List.mem_append_left _ (List.mem_append_left _ (List.mem_append_left _ (List.mem_append_left _ (List.mem_append_left _ (List.mem_append_left _ (List.mem_append_left _ (List.mem_append_right _ (h)))))))))) hown hK hd hk_a0 hb28 rfl fs_9_8 (hts (.fieldLink RX9 60 "LevelVotes" "notebook" "LLevelVotes$Notebook;") (List.mem_of_getElem? (i := 11) rfl)) dX9_told_140 (fun hq => ?_)
    have hk_b28 : kd b28 = 6 := hq
    refine r_geti hx hb hts (fun w h => List.mem_cons_of_mem _ (List.mem_append_left _ (List.mem_append_left _ (List.mem_append_left _ (List.mem_append_right _ (h)))))) hown hK hd hk_b28 rfl 4 fs_6_4 (hts (.fieldLink RX9 137 "LevelVotes$Notebook" "seen" "I") (List.mem_of_getElem? (i := 12) rfl)) dX9_told_143 ?_
    obtain ⟨rfl, rfl⟩ := so_e h
    exact rt_i hx hb hr hlk hd hS dX9_told_146
  have h := if_n q27 h
  by_cases q29 : x1 = 11
  · have h := if_y q29 h
    refine lv_tableIn (off := 146) (tgt := 147) hx hb dX9_told_1 (by rw [q29]; decide) (by rw [q29]; decide) (by rw [q29]; rfl) (by decide) ?_
    refine lv_aload_n hx hb dX9_told_147 rfl (lv_at hl 0 rfl) ?_
    obtain ⟨b30, hb30, h⟩ := bR_e h
    refine r_getr hx hb hts (fun w h => List.mem_cons_of_mem _ (List.mem_append_left _ (List.mem_append_left _ (List.mem_append_left _ (List.mem_append_left _ (List.mem_append_left _ (List.mem_append_left _ (List.mem_append_left _ (List.mem_append_right _ (h)))))))))) hown hK hd hk_a0 hb30 rfl fs_9_8 (hts (.fieldLink RX9 60 "LevelVotes" "notebook" "LLevelVotes$Notebook;") (List.mem_of_getElem? (i := 11) rfl)) dX9_told_148 (fun hq => ?_)
    have hk_b30 : kd b30 = 6 := hq
    refine r_geti hx hb hts (fun w h => List.mem_cons_of_mem _ (List.mem_append_left _ (List.mem_append_left _ (List.mem_append_left _ (List.mem_append_right _ (h)))))) hown hK hd hk_b30 rfl 5 fs_6_5 (hts (.fieldLink RX9 140 "LevelVotes$Notebook" "entries" "I") (List.mem_of_getElem? (i := 13) rfl)) dX9_told_151 ?_
    obtain ⟨rfl, rfl⟩ := so_e h
    exact rt_i hx hb hr hlk hd hS dX9_told_154
  have h := if_n q29 h
  by_cases q31 : x1 = 12
  · have h := if_y q31 h
    refine lv_tableIn (off := 154) (tgt := 155) hx hb dX9_told_1 (by rw [q31]; decide) (by rw [q31]; decide) (by rw [q31]; rfl) (by decide) ?_
    refine lv_aload_n hx hb dX9_told_155 rfl (lv_at hl 0 rfl) ?_
    obtain ⟨b32, hb32, h⟩ := bR_e h
    refine r_getr hx hb hts (fun w h => List.mem_cons_of_mem _ (List.mem_append_left _ (List.mem_append_left _ (List.mem_append_left _ (List.mem_append_left _ (List.mem_append_left _ (List.mem_append_left _ (List.mem_append_left _ (List.mem_append_right _ (h)))))))))) hown hK hd hk_a0 hb32 rfl fs_9_5 (hts (.fieldLink RX9 40 "LevelVotes" "history" "LLevelVotes$History;") (List.mem_of_getElem? (i := 14) rfl)) dX9_told_156 (fun hq => ?_)
    have hk_b32 : kd b32 = 3 := hq
    refine r_geti hx hb hts (fun w h => List.mem_cons_of_mem _ (List.mem_append_left _ (List.mem_append_left _ (List.mem_append_right _ (h))))) hown hK hd hk_b32 rfl 1 fs_3_1 (hts (.fieldLink RX9 143 "LevelVotes$History" "count" "I") (List.mem_of_getElem? (i := 15) rfl)) dX9_told_159 ?_
    obtain ⟨rfl, rfl⟩ := so_e h
    exact rt_i hx hb hr hlk hd hS dX9_told_162
  have h := if_n q31 h
  refine lv_tableOut (tgt := 163) hx hb dX9_told_1 (sw_out 0 13 rfl rfl (by decide) (fun k hk => match k, hk with | 0, _ => q1 | 1, _ => q3 | 2, _ => q5 | 3, _ => q7 | 4, _ => q9 | 5, _ => q11 | 6, _ => q13 | 7, _ => q17 | 8, _ => q19 | 9, _ => q23 | 10, _ => q27 | 11, _ => q29 | 12, _ => q31 | k + 13, hk => absurd hk (by omega))) (by decide) ?_
  refine lv_ldc (v := -1000000002) hx hb hown (hts (.constant RX9 86 (-1000000002)) (List.mem_of_getElem? (i := 16) rfl)) dX9_told_163 ?_
  obtain ⟨rfl, rfl⟩ := so_e h
  exact rt_i hx hb hr hlk hd hS dX9_told_165
theorem hv_X9_cell : yX9_cell.cls = RX9 ∧ yX9_cell.cls ≠ "java/lang/invoke/MethodHandle" ∧ yX9_cell.cls ≠ "java/lang/invoke/VarHandle" ∧ (parseMethodDescriptor yX9_cell.desc).map (fun d => d.parameters.length) = some 2 := by decide +kernel
def f_X9_cell (μ : Mm) (a0 : Nat) (x1 : Int32) (x2 : Int32) : Option (Int32 × Mm) := bR (μ.2 a0 1) (fun b1 => bC (f_X4_hasCell μ b1 x1) (fun r3 μ2 => if r3 = 0 then (some ((-1000000001 : Int32), μ2)) else (if x2 < 0 then (some ((-1000000002 : Int32), μ2)) else (if x2 ≤ (2 : Int32) then (if x2 = (1 : Int32) then (bR (μ2.2 a0 1) (fun b21 => bC (f_X4_ownHeight μ2 b21 x1) (fun r23 μ22 => some (r23, μ22)))) else (bV (f_X9_shapeNow μ2 a0) (fun μ9 => if x2 = 0 then (bR (μ9.2 a0 10) (fun b17 => bC (f_X2_heightOf μ9 b17 x1) (fun r19 μ18 => some (r19, μ18)))) else (bR (μ9.2 a0 10) (fun b13 => bC (f_X2_itemOf μ9 b13 x1) (fun r15 μ14 => some (r15, μ14))))))) else (some ((-1000000002 : Int32), μ2))))))
set_option maxRecDepth 100000 in
theorem c_X9_cell {l : Launch} {D : va_G} {cA : Nat → ClassId} {z : Nat} {μ : Mm} {a0 : Nat} {x1 : Int32} {x2 : Int32} {r : Int32} {μ' : Mm} (hk_a0 : kd a0 = 9) (h : f_X9_cell μ a0 x1 x2 = some (r, μ')) : Ct l D cA z yX9_cell wsX9_cell 5 106 [.ref (z + a0), .int x1, .int x2] μ (some (.int r)) μ' := by
  refine m_in (cc := cX9_cell) (maxL := 3) (ret := (some .int)) (own := RX9) (by decide) rfl rfl (Nat.le_of_ble_eq_true rfl) ?_
  intro p e s m below meth c ls X hd hS hl
  obtain ⟨hx, hb, hr, hlk, hml, hown, hts, hK⟩ := id X
  have hl : lv_has ls 3 [(0, .ref (z + a0)), (1, .int x1), (2, .int x2)] := hl
  unfold f_X9_cell at h
  refine lv_aload_n hx hb dX9_cell_0 rfl (lv_at hl 0 rfl) ?_
  obtain ⟨b1, hb1, h⟩ := bR_e h
  refine r_getr hx hb hts (fun w h => List.mem_cons_of_mem _ (List.mem_append_left _ (List.mem_append_left _ (List.mem_append_left _ (List.mem_append_left _ (List.mem_append_right _ (h))))))) hown hK hd hk_a0 hb1 rfl fs_9_1 (hts (.fieldLink RX9 19 "LevelVotes" "plan" "LLevelVotes$House;") (List.mem_of_getElem? (i := 1) rfl)) dX9_cell_1 (fun hq => ?_)
  have hk_b1 : kd b1 = 4 := hq
  refine lv_iload_n hx hb dX9_cell_4 rfl (lv_at hl 1 rfl) ?_
  obtain ⟨r3, μ2, hc4, h⟩ := bC_e h
  refine rc_Vi (rest := []) [.int x1] ⟨hx, hb, hml, hown, hts⟩ hK hd hS (c_X4_hasCell hk_b1 hc4) (cwV 1 hts gX9_cell_X4_hasCell rfl rfl rfl hv_X4_hasCell ⟨Nat.le_of_ble_eq_true rfl, Nat.le_of_ble_eq_true rfl⟩) hk_b1 rfl rfl rfl rfl hl.1 rfl (Nat.le_of_ble_eq_true rfl) dX9_cell_5 ⟨Nat.zero_le _, Nat.zero_le _⟩ (fun H locs hd hS => ?_)
  refine lv_if_ne (tgt := 14) hx hb dX9_cell_8 (by decide) (fun q5 => ?_) (fun q5 => ?_)
  · have h := if_n q5 h
    refine lv_iload_n hx hb dX9_cell_14 rfl (lv_at hl 2 rfl) ?_
    refine lv_if_lt (tgt := 23) hx hb dX9_cell_15 (by decide) (fun q6 => ?_) (fun q6 => ?_)
    · have h := if_y q6 h
      refine lv_ldc (v := -1000000002) hx hb hown (hts (.constant RX9 86 (-1000000002)) (List.mem_of_getElem? (i := 3) rfl)) dX9_cell_23 ?_
      obtain ⟨rfl, rfl⟩ := so_e h
      exact rt_i hx hb hr hlk hd hS dX9_cell_25
    · have h := if_n q6 h
      refine lv_iload_n hx hb dX9_cell_18 rfl (lv_at hl 2 rfl) ?_
      refine lv_iconst (v := 2) hx hb dX9_cell_19 (by decide) ?_
      refine lv_icmp_le (tgt := 26) hx hb dX9_cell_20 (by decide) (fun q7 => ?_) (fun q7 => ?_)
      · have h := if_y q7 h
        refine lv_iload_n hx hb dX9_cell_26 rfl (lv_at hl 2 rfl) ?_
        refine lv_iconst (v := 1) hx hb dX9_cell_27 (by decide) ?_
        refine lv_icmp_ne (tgt := 40) hx hb dX9_cell_28 (by decide) (fun q8 => ?_) (fun q8 => ?_)
        · have h := if_n q8 h
          refine lv_aload_n hx hb dX9_cell_40 rfl (lv_at hl 0 rfl) ?_
          obtain ⟨μ9, hc11, h⟩ := bV_e h
          refine rc_Vv (rest := []) [] ⟨hx, hb, hml, hown, hts⟩ hK hd hS (c_X9_shapeNow hk_a0 hc11) (cwV 0 hts gX9_cell_X9_shapeNow rfl rfl rfl hv_X9_shapeNow ⟨Nat.le_of_ble_eq_true rfl, Nat.le_of_ble_eq_true rfl⟩) hk_a0 rfl rfl rfl rfl hl.1 rfl (Nat.le_of_ble_eq_true rfl) dX9_cell_41 ⟨Nat.zero_le _, Nat.zero_le _⟩ (fun H locs hd hS => ?_)
          refine lv_iload_n hx hb dX9_cell_44 rfl (lv_at hl 2 rfl) ?_
          refine lv_if_ne (tgt := 59) hx hb dX9_cell_45 (by decide) (fun q12 => ?_) (fun q12 => ?_)
          · have h := if_n q12 h
            refine lv_aload_n hx hb dX9_cell_59 rfl (lv_at hl 0 rfl) ?_
            obtain ⟨b13, hb13, h⟩ := bR_e h
            refine r_getr hx hb hts (fun w h => List.mem_cons_of_mem _ (List.mem_append_left _ (List.mem_append_left _ (List.mem_append_left _ (List.mem_append_left _ (List.mem_append_right _ (h))))))) hown hK hd hk_a0 hb13 rfl fs_9_10 (hts (.fieldLink RX9 74 "LevelVotes" "hill" "LLevelVotes$Hill;") (List.mem_of_getElem? (i := 4) rfl)) dX9_cell_60 (fun hq => ?_)
            have hk_b13 : kd b13 = 2 := hq
            refine lv_iload_n hx hb dX9_cell_63 rfl (lv_at hl 1 rfl) ?_
            obtain ⟨r15, μ14, hc16, h⟩ := bC_e h
            refine rc_Vi (rest := []) [.int x1] ⟨hx, hb, hml, hown, hts⟩ hK hd hS (c_X2_itemOf hk_b13 hc16) (cwV 1 hts gX9_cell_X2_itemOf rfl rfl rfl hv_X2_itemOf ⟨Nat.le_of_ble_eq_true rfl, Nat.le_of_ble_eq_true rfl⟩) hk_b13 rfl rfl rfl rfl hl.1 rfl (Nat.le_of_ble_eq_true rfl) dX9_cell_64 ⟨Nat.zero_le _, Nat.zero_le _⟩ (fun H locs hd hS => ?_)
            obtain ⟨rfl, rfl⟩ := so_e h
            exact rt_i hx hb hr hlk hd hS dX9_cell_67
          · have h := if_y q12 h
            refine lv_aload_n hx hb dX9_cell_48 rfl (lv_at hl 0 rfl) ?_
            obtain ⟨b17, hb17, h⟩ := bR_e h
            refine r_getr hx hb hts (fun w h => List.mem_cons_of_mem _ (List.mem_append_left _ (List.mem_append_left _ (List.mem_append_left _ (List.mem_append_left _ (List.mem_append_right _ (h))))))) hown hK hd hk_a0 hb17 rfl fs_9_10 (hts (.fieldLink RX9 74 "LevelVotes" "hill" "LLevelVotes$Hill;") (List.mem_of_getElem? (i := 4) rfl)) dX9_cell_49 (fun hq => ?_)
            have hk_b17 : kd b17 = 2 := hq
            refine lv_iload_n hx hb dX9_cell_52 rfl (lv_at hl 1 rfl) ?_
            obtain ⟨r19, μ18, hc20, h⟩ := bC_e h
            refine rc_Vi (rest := []) [.int x1] ⟨hx, hb, hml, hown, hts⟩ hK hd hS (c_X2_heightOf hk_b17 hc20) (cwV 1 hts gX9_cell_X2_heightOf rfl rfl rfl hv_X2_heightOf ⟨Nat.le_of_ble_eq_true rfl, Nat.le_of_ble_eq_true rfl⟩) hk_b17 rfl rfl rfl rfl hl.1 rfl (Nat.le_of_ble_eq_true rfl) dX9_cell_53 ⟨Nat.zero_le _, Nat.zero_le _⟩ (fun H locs hd hS => ?_)
            refine lv_goto (tgt := 67) hx hb dX9_cell_56 (by decide) ?_
            obtain ⟨rfl, rfl⟩ := so_e h
            exact rt_i hx hb hr hlk hd hS dX9_cell_67
        · have h := if_y q8 h
          refine lv_aload_n hx hb dX9_cell_31 rfl (lv_at hl 0 rfl) ?_
          obtain ⟨b21, hb21, h⟩ := bR_e h
          refine r_getr hx hb hts (fun w h => List.mem_cons_of_mem _ (List.mem_append_left _ (List.mem_append_left _ (List.mem_append_left _ (List.mem_append_left _ (List.mem_append_right _ (h))))))) hown hK hd hk_a0 hb21 rfl fs_9_1 (hts (.fieldLink RX9 19 "LevelVotes" "plan" "LLevelVotes$House;") (List.mem_of_getElem? (i := 1) rfl)) dX9_cell_32 (fun hq => ?_)
          have hk_b21 : kd b21 = 4 := hq
          refine lv_iload_n hx hb dX9_cell_35 rfl (lv_at hl 1 rfl) ?_
          obtain ⟨r23, μ22, hc24, h⟩ := bC_e h
          refine rc_Vi (rest := []) [.int x1] ⟨hx, hb, hml, hown, hts⟩ hK hd hS (c_X4_ownHeight hk_b21 hc24) (cwV 1 hts gX9_cell_X4_ownHeight rfl rfl rfl hv_X4_ownHeight ⟨Nat.le_of_ble_eq_true rfl, Nat.le_of_ble_eq_true rfl⟩) hk_b21 rfl rfl rfl rfl hl.1 rfl (Nat.le_of_ble_eq_true rfl) dX9_cell_36 ⟨Nat.zero_le _, Nat.zero_le _⟩ (fun H locs hd hS => ?_)
          obtain ⟨rfl, rfl⟩ := so_e h
          exact rt_i hx hb hr hlk hd hS dX9_cell_39
      · have h := if_n q7 h
        refine lv_ldc (v := -1000000002) hx hb hown (hts (.constant RX9 86 (-1000000002)) (List.mem_of_getElem? (i := 3) rfl)) dX9_cell_23 ?_
        obtain ⟨rfl, rfl⟩ := so_e h
        exact rt_i hx hb hr hlk hd hS dX9_cell_25
  · have h := if_y q5 h
    refine lv_ldc (v := -1000000001) hx hb hown (hts (.constant RX9 150 (-1000000001)) (List.mem_of_getElem? (i := 2) rfl)) dX9_cell_11 ?_
    obtain ⟨rfl, rfl⟩ := so_e h
    exact rt_i hx hb hr hlk hd hS dX9_cell_13
theorem hv_X9_spread : yX9_spread.cls = RX9 ∧ yX9_spread.cls ≠ "java/lang/invoke/MethodHandle" ∧ yX9_spread.cls ≠ "java/lang/invoke/VarHandle" ∧ (parseMethodDescriptor yX9_spread.desc).map (fun d => d.parameters.length) = some 1 := by decide +kernel
abbrev HL_X9_spread_8 (l : Launch) (D : va_G) (cA : Nat → ClassId) (z : Nat) (av : List Value) (r : Int32) (μ' : Mm) (p : Program) (e : Env) (s : State) (m : MethodId) (below : List Frame) (meth : Method) (c : Code) (rc : Mm → Nat → Int32 → Int32 → Int32 → Int32 → Option (Int32 × Mm)) : Prop := ∀ (μ : Mm) (H : Heap) (locs : List Loc) (ls : Array Slot) (a0 : Nat) (x1 : Int32) (x2 : Int32) (x3 : Int32) (x4 : Int32), kd a0 = 9 → Wd D cA z μ H → va_S (Az z) s.heap H locs → lv_has ls 5 [(0, .ref (z + a0)), (1, .int x1), (2, .int x2), (3, .int x3), (4, .int x4)] → rc μ a0 x1 x2 x3 x4 = some (r, μ') → WG l D cA z wsX9_spread 1 24 av (some (.int r)) μ' p e s m below meth c H locs (F0 m 8 ls [])
def f_X9_spread_j57 (rc8 : Mm → Nat → Int32 → Int32 → Int32 → Int32 → Option (Int32 × Mm)) (μ : Mm) (a0 : Nat) (x1 : Int32) (x2 : Int32) (x3 : Int32) (x4 : Int32) : Option (Int32 × Mm) := rc8 μ a0 x1 x2 x3 (x4 + (1 : Int32))
set_option maxRecDepth 100000 in
theorem k_f_X9_spread_j57 {l : Launch} {D : va_G} {cA : Nat → ClassId} {z : Nat} {av : List Value} {p : Program} {e : Env} {s : State} {m : MethodId} {below : List Frame} {meth : Method} {c : Code} {r : Int32} {μ' : Mm} (X : Fx D cA RX9 wsX9_spread cX9_spread 5 (some .int) p s m av.toArray meth c) {rc8 : Mm → Nat → Int32 → Int32 → Int32 → Int32 → Option (Int32 × Mm)} (hrc8 : HL_X9_spread_8 l D cA z av r μ' p e s m below meth c rc8) {μ : Mm} {a0 : Nat} {x1 : Int32} {x2 : Int32} {x3 : Int32} {x4 : Int32} (hk_a0 : kd a0 = 9) {H : Heap} {locs : List Loc} {ls : Array Slot} (hd : Wd D cA z μ H) (hS : va_S (Az z) s.heap H locs) (hl : lv_has ls 5 [(0, .ref (z + a0)), (1, .int x1), (2, .int x2), (3, .int x3), (4, .int x4)]) (h : f_X9_spread_j57 rc8 μ a0 x1 x2 x3 x4 = some (r, μ')) : WG l D cA z wsX9_spread 1 24 av (some (.int r)) μ' p e s m below meth c H locs (F0 m 57 ls []) := by
  obtain ⟨hx, hb, hr, hlk, hml, hown, hts, hK⟩ := id X
  unfold f_X9_spread_j57 at h
  refine lv_iinc (v := x4 + (1 : Int32)) (lv' := [(4, .int (x4 + (1 : Int32))), (0, .ref (z + a0)), (1, .int x1), (2, .int x2), (3, .int x3)]) hx hb dX9_spread_57 hl (k := 4) rfl rfl (by decide) rfl (fun ls hl => ?_)
  refine lv_goto (tgt := 8) hx hb dX9_spread_60 (by decide) ?_
  exact hrc8 _ _ _ _ _ _ _ _ _ hk_a0 hd hS (lv_sub hl [1, 2, 3, 4, 0] rfl) h
def f_X9_spread_L8b (rc8 : Mm → Nat → Int32 → Int32 → Int32 → Int32 → Option (Int32 × Mm)) (μ : Mm) (a0 : Nat) (x1 : Int32) (x2 : Int32) (x3 : Int32) (x4 : Int32) : Option (Int32 × Mm) := bR (μ.2 a0 1) (fun b1 => if (μ.1 b1 2) ≤ x4 then (some (if (0 : Int32) < (x3 - x2) then (x3 - x2) else (0 : Int32), μ)) else (if ((x1 >>> (x4 &&& 31)) &&& (1 : Int32)) = 0 then (f_X9_spread_j57 rc8 μ a0 x1 x2 x3 x4) else (bR (μ.2 a0 10) (fun b4 => bC (f_X2_heightOf μ b4 x4) (fun r6 μ5 => bI (if r6 < x2 then r6 else x2) (fun v8 => bR (μ5.2 a0 10) (fun b9 => bC (f_X2_heightOf μ5 b9 x4) (fun r11 μ10 => bI (if x3 < r11 then r11 else x3) (fun v13 => f_X9_spread_j57 rc8 μ10 a0 x1 v8 v13 x4)))))))))
set_option maxRecDepth 100000 in
theorem k_f_X9_spread_L8b {l : Launch} {D : va_G} {cA : Nat → ClassId} {z : Nat} {av : List Value} {p : Program} {e : Env} {s : State} {m : MethodId} {below : List Frame} {meth : Method} {c : Code} {r : Int32} {μ' : Mm} (X : Fx D cA RX9 wsX9_spread cX9_spread 5 (some .int) p s m av.toArray meth c) {rc8 : Mm → Nat → Int32 → Int32 → Int32 → Int32 → Option (Int32 × Mm)} (hrc8 : HL_X9_spread_8 l D cA z av r μ' p e s m below meth c rc8) {μ : Mm} {a0 : Nat} {x1 : Int32} {x2 : Int32} {x3 : Int32} {x4 : Int32} (hk_a0 : kd a0 = 9) {H : Heap} {locs : List Loc} {ls : Array Slot} (hd : Wd D cA z μ H) (hS : va_S (Az z) s.heap H locs) (hl : lv_has ls 5 [(0, .ref (z + a0)), (1, .int x1), (2, .int x2), (3, .int x3), (4, .int x4)]) (h : f_X9_spread_L8b rc8 μ a0 x1 x2 x3 x4 = some (r, μ')) : WG l D cA z wsX9_spread 1 24 av (some (.int r)) μ' p e s m below meth c H locs (F0 m 8 ls []) := by
  obtain ⟨hx, hb, hr, hlk, hml, hown, hts, hK⟩ := id X
  unfold f_X9_spread_L8b at h
  refine lv_iload hx hb dX9_spread_8 (lv_at hl 4 rfl) ?_
  refine lv_aload_n hx hb dX9_spread_10 rfl (lv_at hl 0 rfl) ?_
  obtain ⟨b1, hb1, h⟩ := bR_e h
  refine r_getr hx hb hts (fun w h => List.mem_cons_of_mem _ (List.mem_append_left _ (List.mem_append_left _ (List.mem_append_right _ (h))))) hown hK hd hk_a0 hb1 rfl fs_9_1 (hts (.fieldLink RX9 19 "LevelVotes" "plan" "LLevelVotes$House;") (List.mem_of_getElem? (i := 1) rfl)) dX9_spread_11 (fun hq => ?_)
  have hk_b1 : kd b1 = 4 := hq
  refine r_geti hx hb hts (fun w h => List.mem_cons_of_mem _ (List.mem_append_left _ (List.mem_append_right _ (h)))) hown hK hd hk_b1 rfl 2 fs_4_2 (hts (.fieldLink RX9 222 "LevelVotes$House" "cells" "I") (List.mem_of_getElem? (i := 2) rfl)) dX9_spread_14 ?_
  refine lv_icmp_ge (tgt := 63) hx hb dX9_spread_17 (by decide) (fun q2 => ?_) (fun q2 => ?_)
  · have h := if_y q2 h
    refine lv_iconst (v := 0) hx hb dX9_spread_63 (by decide) ?_
    refine lv_iload_n hx hb dX9_spread_64 rfl (lv_at hl 3 rfl) ?_
    refine lv_iload_n hx hb dX9_spread_65 rfl (lv_at hl 2 rfl) ?_
    refine lv_isub hx hb dX9_spread_66 ?_
    refine va_mmax hx hb (hml.trans hl.1.symm) hown (hts (.methodLink RX9 336 Lib.Math.max.name) (List.mem_of_getElem? (i := 8) rfl)) (hts (.static Lib.Math.max.name) (List.mem_of_getElem? (i := 9) rfl)) (hts (.initialized "java/lang/Math") (List.mem_of_getElem? (i := 6) rfl)) (hts (.code Lib.Math.max.name Lib.Math.max.code 2 (some .int)) (List.mem_of_getElem? (i := 10) rfl)) (Nat.le_of_ble_eq_true rfl) (Nat.le_of_ble_eq_true rfl) (Nat.zero_le _) (Nat.zero_le _) dX9_spread_67 ?_
    obtain ⟨rfl, rfl⟩ := so_e h
    exact rt_i hx hb hr hlk hd hS dX9_spread_70
  · have h := if_n q2 h
    refine lv_iload_n hx hb dX9_spread_20 rfl (lv_at hl 1 rfl) ?_
    refine lv_iload hx hb dX9_spread_21 (lv_at hl 4 rfl) ?_
    refine lv_ishr hx hb dX9_spread_23 ?_
    refine lv_iconst (v := 1) hx hb dX9_spread_24 (by decide) ?_
    refine lv_iand hx hb dX9_spread_25 ?_
    refine lv_if_eq (tgt := 57) hx hb dX9_spread_26 (by decide) (fun q3 => ?_) (fun q3 => ?_)
    · have h := if_y q3 h
      exact k_f_X9_spread_j57 X hrc8 hk_a0 hd hS (lv_sub hl [0, 1, 2, 3, 4] rfl) h
    · have h := if_n q3 h
      refine lv_iload_n hx hb dX9_spread_29 rfl (lv_at hl 2 rfl) ?_
      refine lv_aload_n hx hb dX9_spread_30 rfl (lv_at hl 0 rfl) ?_
      obtain ⟨b4, hb4, h⟩ := bR_e h
      refine r_getr hx hb hts (fun w h => List.mem_cons_of_mem _ (List.mem_append_left _ (List.mem_append_left _ (List.mem_append_right _ (h))))) hown hK hd hk_a0 hb4 rfl fs_9_10 (hts (.fieldLink RX9 74 "LevelVotes" "hill" "LLevelVotes$Hill;") (List.mem_of_getElem? (i := 3) rfl)) dX9_spread_31 (fun hq => ?_)
      have hk_b4 : kd b4 = 2 := hq
      refine lv_iload hx hb dX9_spread_34 (lv_at hl 4 rfl) ?_
      obtain ⟨r6, μ5, hc7, h⟩ := bC_e h
      refine rc_Vi (rest := [.int x2]) [.int x4] ⟨hx, hb, hml, hown, hts⟩ hK hd hS (c_X2_heightOf hk_b4 hc7) (cwV 1 hts gX9_spread_X2_heightOf rfl rfl rfl hv_X2_heightOf ⟨Nat.le_of_ble_eq_true rfl, Nat.le_of_ble_eq_true rfl⟩) hk_b4 rfl rfl rfl rfl hl.1 rfl (Nat.le_of_ble_eq_true rfl) dX9_spread_36 ⟨Nat.zero_le _, Nat.zero_le _⟩ (fun H locs hd hS => ?_)
      refine va_mmin hx hb (hml.trans hl.1.symm) hown (hts (.methodLink RX9 331 Lib.Math.min.name) (List.mem_of_getElem? (i := 4) rfl)) (hts (.static Lib.Math.min.name) (List.mem_of_getElem? (i := 5) rfl)) (hts (.initialized "java/lang/Math") (List.mem_of_getElem? (i := 6) rfl)) (hts (.code Lib.Math.min.name Lib.Math.min.code 2 (some .int)) (List.mem_of_getElem? (i := 7) rfl)) (Nat.le_of_ble_eq_true rfl) (Nat.le_of_ble_eq_true rfl) (Nat.zero_le _) (Nat.zero_le _) dX9_spread_39 ?_
      refine lv_topi (fun v8 ev8 => ?_)
      have h := bI_e ev8 h
      refine lv_istore_n (lv' := [(2, .int v8), (0, .ref (z + a0)), (1, .int x1), (3, .int x3), (4, .int x4)]) hx hb dX9_spread_42 rfl hl (by decide) rfl (fun ls hl => ?_)
      refine lv_iload_n hx hb dX9_spread_43 rfl (lv_at hl 3 rfl) ?_
      refine lv_aload_n hx hb dX9_spread_44 rfl (lv_at hl 1 rfl) ?_
      obtain ⟨b9, hb9, h⟩ := bR_e h
      refine r_getr hx hb hts (fun w h => List.mem_cons_of_mem _ (List.mem_append_left _ (List.mem_append_left _ (List.mem_append_right _ (h))))) hown hK hd hk_a0 hb9 rfl fs_9_10 (hts (.fieldLink RX9 74 "LevelVotes" "hill" "LLevelVotes$Hill;") (List.mem_of_getElem? (i := 3) rfl)) dX9_spread_45 (fun hq => ?_)
      have hk_b9 : kd b9 = 2 := hq
      refine lv_iload hx hb dX9_spread_48 (lv_at hl 4 rfl) ?_
      obtain ⟨r11, μ10, hc12, h⟩ := bC_e h
      refine rc_Vi (rest := [.int x3]) [.int x4] ⟨hx, hb, hml, hown, hts⟩ hK hd hS (c_X2_heightOf hk_b9 hc12) (cwV 1 hts gX9_spread_X2_heightOf rfl rfl rfl hv_X2_heightOf ⟨Nat.le_of_ble_eq_true rfl, Nat.le_of_ble_eq_true rfl⟩) hk_b9 rfl rfl rfl rfl hl.1 rfl (Nat.le_of_ble_eq_true rfl) dX9_spread_50 ⟨Nat.zero_le _, Nat.zero_le _⟩ (fun H locs hd hS => ?_)
      refine va_mmax hx hb (hml.trans hl.1.symm) hown (hts (.methodLink RX9 336 Lib.Math.max.name) (List.mem_of_getElem? (i := 8) rfl)) (hts (.static Lib.Math.max.name) (List.mem_of_getElem? (i := 9) rfl)) (hts (.initialized "java/lang/Math") (List.mem_of_getElem? (i := 6) rfl)) (hts (.code Lib.Math.max.name Lib.Math.max.code 2 (some .int)) (List.mem_of_getElem? (i := 10) rfl)) (Nat.le_of_ble_eq_true rfl) (Nat.le_of_ble_eq_true rfl) (Nat.zero_le _) (Nat.zero_le _) dX9_spread_53 ?_
      refine lv_topi (fun v13 ev13 => ?_)
      have h := bI_e ev13 h
      refine lv_istore_n (lv' := [(3, .int v13), (2, .int v8), (0, .ref (z + a0)), (1, .int x1), (4, .int x4)]) hx hb dX9_spread_56 rfl hl (by decide) rfl (fun ls hl => ?_)
      exact k_f_X9_spread_j57 X hrc8 hk_a0 hd hS (lv_sub hl [2, 3, 1, 0, 4] rfl) h
def f_X9_spread_L8 : Nat → Mm → Nat → Int32 → Int32 → Int32 → Int32 → Option (Int32 × Mm)
  | 0 => fun _ _ _ _ _ _ => none
  | n + 1 => fun μ a0 x1 x2 x3 x4 => f_X9_spread_L8b (f_X9_spread_L8 n) μ a0 x1 x2 x3 x4
theorem k_f_X9_spread_L8 {l : Launch} {D : va_G} {cA : Nat → ClassId} {z : Nat} {av : List Value} {p : Program} {e : Env} {s : State} {m : MethodId} {below : List Frame} {meth : Method} {c : Code} {r : Int32} {μ' : Mm} (X : Fx D cA RX9 wsX9_spread cX9_spread 5 (some .int) p s m av.toArray meth c) (n : Nat) : HL_X9_spread_8 l D cA z av r μ' p e s m below meth c (f_X9_spread_L8 n) := by
  induction n with
  | zero => intro _ _ _ _ _ _ _ _ _ _ _ _ _ h; have h2 : (none : Option _) = some _ := h; cases h2
  | succ n ih => intro μ H locs ls a0 x1 x2 x3 x4 hk_a0 hd hS hl h; exact k_f_X9_spread_L8b X ih hk_a0 hd hS hl h
def f_X9_spread (μ : Mm) (a0 : Nat) (x1 : Int32) : Option (Int32 × Mm) := f_X9_spread_L8 FU μ a0 x1 (9 : Int32) (0 : Int32) (0 : Int32)
set_option maxRecDepth 100000 in
theorem c_X9_spread {l : Launch} {D : va_G} {cA : Nat → ClassId} {z : Nat} {μ : Mm} {a0 : Nat} {x1 : Int32} {r : Int32} {μ' : Mm} (hk_a0 : kd a0 = 9) (h : f_X9_spread μ a0 x1 = some (r, μ')) : Ct l D cA z yX9_spread wsX9_spread 1 24 [.ref (z + a0), .int x1] μ (some (.int r)) μ' := by
  refine m_in (cc := cX9_spread) (maxL := 5) (ret := (some .int)) (own := RX9) (by decide) rfl rfl (Nat.le_of_ble_eq_true rfl) ?_
  intro p e s m below meth c ls X hd hS hl
  obtain ⟨hx, hb, hr, hlk, hml, hown, hts, hK⟩ := id X
  have hl : lv_has ls 5 [(0, .ref (z + a0)), (1, .int x1)] := hl
  unfold f_X9_spread at h
  refine lv_bipush (v := 9) hx hb dX9_spread_0 (by decide) ?_
  refine lv_istore_n (lv' := [(2, .int (9 : Int32)), (0, .ref (z + a0)), (1, .int x1)]) hx hb dX9_spread_2 rfl hl (by decide) rfl (fun ls hl => ?_)
  refine lv_iconst (v := 0) hx hb dX9_spread_3 (by decide) ?_
  refine lv_istore_n (lv' := [(3, .int (0 : Int32)), (2, .int (9 : Int32)), (0, .ref (z + a0)), (1, .int x1)]) hx hb dX9_spread_4 rfl hl (by decide) rfl (fun ls hl => ?_)
  refine lv_iconst (v := 0) hx hb dX9_spread_5 (by decide) ?_
  refine lv_istore (lv' := [(4, .int (0 : Int32)), (3, .int (0 : Int32)), (2, .int (9 : Int32)), (0, .ref (z + a0)), (1, .int x1)]) hx hb dX9_spread_6 hl (by decide) rfl (fun ls hl => ?_)
  exact k_f_X9_spread_L8 X FU _ _ _ _ _ _ _ _ _ hk_a0 hd hS (lv_sub hl [3, 4, 2, 1, 0] rfl) h
theorem hv_X9_isLevel : yX9_isLevel.cls = RX9 ∧ yX9_isLevel.cls ≠ "java/lang/invoke/MethodHandle" ∧ yX9_isLevel.cls ≠ "java/lang/invoke/VarHandle" ∧ (parseMethodDescriptor yX9_isLevel.desc).map (fun d => d.parameters.length) = some 1 := by decide +kernel
def f_X9_isLevel (μ : Mm) (a0 : Nat) (x1 : Int32) : Option (Int32 × Mm) := bV (f_X9_shapeNow μ a0) (fun μ1 => bR (μ1.2 a0 1) (fun b4 => bC (f_X4_cellsOf μ1 b4 x1) (fun r6 μ5 => bC (f_X9_spread μ5 a0 r6) (fun r9 μ8 => if r9 = 0 then (some ((1 : Int32), μ8)) else (some ((0 : Int32), μ8))))))
set_option maxRecDepth 100000 in
theorem c_X9_isLevel {l : Launch} {D : va_G} {cA : Nat → ClassId} {z : Nat} {μ : Mm} {a0 : Nat} {x1 : Int32} {r : Int32} {μ' : Mm} (hk_a0 : kd a0 = 9) (h : f_X9_isLevel μ a0 x1 = some (r, μ')) : Ct l D cA z yX9_isLevel wsX9_isLevel 5 106 [.ref (z + a0), .int x1] μ (some (.int r)) μ' := by
  refine m_in (cc := cX9_isLevel) (maxL := 2) (ret := (some .boolean)) (own := RX9) (by decide) rfl rfl (Nat.le_of_ble_eq_true rfl) ?_
  intro p e s m below meth c ls X hd hS hl
  obtain ⟨hx, hb, hr, hlk, hml, hown, hts, hK⟩ := id X
  have hl : lv_has ls 2 [(0, .ref (z + a0)), (1, .int x1)] := hl
  unfold f_X9_isLevel at h
  refine lv_aload_n hx hb dX9_isLevel_0 rfl (lv_at hl 0 rfl) ?_
  obtain ⟨μ1, hc3, h⟩ := bV_e h
  refine rc_Vv (rest := []) [] ⟨hx, hb, hml, hown, hts⟩ hK hd hS (c_X9_shapeNow hk_a0 hc3) (cwV 0 hts gX9_isLevel_X9_shapeNow rfl rfl rfl hv_X9_shapeNow ⟨Nat.le_of_ble_eq_true rfl, Nat.le_of_ble_eq_true rfl⟩) hk_a0 rfl rfl rfl rfl hl.1 rfl (Nat.le_of_ble_eq_true rfl) dX9_isLevel_1 ⟨Nat.zero_le _, Nat.zero_le _⟩ (fun H locs hd hS => ?_)
  refine lv_aload_n hx hb dX9_isLevel_4 rfl (lv_at hl 0 rfl) ?_
  refine lv_aload_n hx hb dX9_isLevel_5 rfl (lv_at hl 0 rfl) ?_
  obtain ⟨b4, hb4, h⟩ := bR_e h
  refine r_getr hx hb hts (fun w h => List.mem_cons_of_mem _ (List.mem_append_left _ (List.mem_append_left _ (List.mem_append_left _ (List.mem_append_left _ (List.mem_append_right _ (h))))))) hown hK hd hk_a0 hb4 rfl fs_9_1 (hts (.fieldLink RX9 19 "LevelVotes" "plan" "LLevelVotes$House;") (List.mem_of_getElem? (i := 1) rfl)) dX9_isLevel_6 (fun hq => ?_)
  have hk_b4 : kd b4 = 4 := hq
  refine lv_iload_n hx hb dX9_isLevel_9 rfl (lv_at hl 1 rfl) ?_
  obtain ⟨r6, μ5, hc7, h⟩ := bC_e h
  refine rc_Vi (rest := [.ref (z + a0)]) [.int x1] ⟨hx, hb, hml, hown, hts⟩ hK hd hS (c_X4_cellsOf hk_b4 hc7) (cwV 1 hts gX9_isLevel_X4_cellsOf rfl rfl rfl hv_X4_cellsOf ⟨Nat.le_of_ble_eq_true rfl, Nat.le_of_ble_eq_true rfl⟩) hk_b4 rfl rfl rfl rfl hl.1 rfl (Nat.le_of_ble_eq_true rfl) dX9_isLevel_10 ⟨Nat.zero_le _, Nat.zero_le _⟩ (fun H locs hd hS => ?_)
  obtain ⟨r9, μ8, hc10, h⟩ := bC_e h
  refine rc_Vi (rest := []) [.int r6] ⟨hx, hb, hml, hown, hts⟩ hK hd hS (c_X9_spread hk_a0 hc10) (cwV 1 hts gX9_isLevel_X9_spread rfl rfl rfl hv_X9_spread ⟨Nat.le_of_ble_eq_true rfl, Nat.le_of_ble_eq_true rfl⟩) hk_a0 rfl rfl rfl rfl hl.1 rfl (Nat.le_of_ble_eq_true rfl) dX9_isLevel_13 ⟨Nat.zero_le _, Nat.zero_le _⟩ (fun H locs hd hS => ?_)
  refine lv_if_ne (tgt := 23) hx hb dX9_isLevel_16 (by decide) (fun q11 => ?_) (fun q11 => ?_)
  · have h := if_n q11 h
    refine lv_iconst (v := 0) hx hb dX9_isLevel_23 (by decide) ?_
    obtain ⟨rfl, rfl⟩ := so_e h
    exact rt_z hx hb hr rfl hlk hd hS dX9_isLevel_24
  · have h := if_y q11 h
    refine lv_iconst (v := 1) hx hb dX9_isLevel_19 (by decide) ?_
    refine lv_goto (tgt := 24) hx hb dX9_isLevel_20 (by decide) ?_
    obtain ⟨rfl, rfl⟩ := so_e h
    exact rt_z hx hb hr rfl hlk hd hS dX9_isLevel_24
