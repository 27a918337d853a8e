theorem hv_X9_see : yX9_see.cls = RX9 ∧ yX9_see.cls ≠ "java/lang/invoke/MethodHandle" ∧ yX9_see.cls ≠ "java/lang/invoke/VarHandle" ∧ (parseMethodDescriptor yX9_see.desc).map (fun d => d.parameters.length) = some 2 := by decide +kernel
def f_X9_see (μ : Mm) (a0 : Nat) (x1 : Int32) (x2 : Int32) : Option (Int32 × Mm) := bR (μ.2 a0 1) (fun b1 => bC (f_X4_hasCell μ b1 x1) (fun r3 μ2 => if r3 = 0 then (some ((-1000000001 : Int32), μ2)) else (bR (μ2.2 a0 1) (fun b6 => bC (f_X4_hasCell μ2 b6 x2) (fun r8 μ7 => if r8 = 0 then (some ((-1000000001 : Int32), μ7)) else (bR (μ7.2 a0 8) (fun b11 => if (μ7.1 b11 4) < (6 : Int32) then (bR (μ7.2 a0 8) (fun b13 => bV (f_X6_addSeen μ7 b13 x1 x2) (fun μ14 => bR (μ14.2 a0 8) (fun b17 => some (μ14.1 b17 4, μ14))))) else (some ((-1000000004 : Int32), μ7)))))))))
set_option maxRecDepth 100000 in
theorem c_X9_see {l : Launch} {D : va_G} {cA : Nat → ClassId} {z : Nat} {μ : Mm} {a0 : Nat} {x1 : Int32} {x2 : Int32} {r : Int32} {μ' : Mm} (hk_a0 : kd a0 = 9) (h : f_X9_see μ a0 x1 x2 = some (r, μ')) : Ct l D cA z yX9_see wsX9_see 1 22 [.ref (z + a0), .int x1, .int x2] μ (some (.int r)) μ' := by
  refine m_in (cc := cX9_see) (maxL := 3) (ret := (some .int)) (own := RX9) (by decide) rfl rfl (Nat.le_of_ble_eq_true rfl) ?_
  intro p e s m below meth c ls X hd hS hl
  obtain ⟨hx, hb, hr, hlk, hml, hown, hts, hK⟩ := id X
  have hl : lv_has ls 3 [(0, .ref (z + a0)), (1, .int x1), (2, .int x2)] := hl
  unfold f_X9_see at h
  refine lv_aload_n hx hb dX9_see_0 rfl (lv_at hl 0 rfl) ?_
  obtain ⟨b1, hb1, h⟩ := bR_e h
  refine r_getr hx hb hts (fun w h => List.mem_cons_of_mem _ (List.mem_append_left _ (List.mem_append_left _ (List.mem_append_right _ (h))))) hown hK hd hk_a0 hb1 rfl fs_9_1 (hts (.fieldLink RX9 19 "LevelVotes" "plan" "LLevelVotes$House;") (List.mem_of_getElem? (i := 1) rfl)) dX9_see_1 (fun hq => ?_)
  have hk_b1 : kd b1 = 4 := hq
  refine lv_iload_n hx hb dX9_see_4 rfl (lv_at hl 1 rfl) ?_
  obtain ⟨r3, μ2, hc4, h⟩ := bC_e h
  refine rc_Vi (rest := []) [.int x1] ⟨hx, hb, hml, hown, hts⟩ hK hd hS (c_X4_hasCell hk_b1 hc4) (cwV 1 hts gX9_see_X4_hasCell rfl rfl rfl hv_X4_hasCell ⟨Nat.le_of_ble_eq_true rfl, Nat.le_of_ble_eq_true rfl⟩) hk_b1 rfl rfl rfl rfl hl.1 rfl (Nat.le_of_ble_eq_true rfl) dX9_see_5 ⟨Nat.zero_le _, Nat.zero_le _⟩ (fun H locs hd hS => ?_)
  refine lv_if_eq (tgt := 22) hx hb dX9_see_8 (by decide) (fun q5 => ?_) (fun q5 => ?_)
  · have h := if_y q5 h
    refine lv_ldc (v := -1000000001) hx hb hown (hts (.constant RX9 150 (-1000000001)) (List.mem_of_getElem? (i := 2) rfl)) dX9_see_22 ?_
    obtain ⟨rfl, rfl⟩ := so_e h
    exact rt_i hx hb hr hlk hd hS dX9_see_24
  · have h := if_n q5 h
    refine lv_aload_n hx hb dX9_see_11 rfl (lv_at hl 0 rfl) ?_
    obtain ⟨b6, hb6, h⟩ := bR_e h
    refine r_getr hx hb hts (fun w h => List.mem_cons_of_mem _ (List.mem_append_left _ (List.mem_append_left _ (List.mem_append_right _ (h))))) hown hK hd hk_a0 hb6 rfl fs_9_1 (hts (.fieldLink RX9 19 "LevelVotes" "plan" "LLevelVotes$House;") (List.mem_of_getElem? (i := 1) rfl)) dX9_see_12 (fun hq => ?_)
    have hk_b6 : kd b6 = 4 := hq
    refine lv_iload_n hx hb dX9_see_15 rfl (lv_at hl 2 rfl) ?_
    obtain ⟨r8, μ7, hc9, h⟩ := bC_e h
    refine rc_Vi (rest := []) [.int x2] ⟨hx, hb, hml, hown, hts⟩ hK hd hS (c_X4_hasCell hk_b6 hc9) (cwV 1 hts gX9_see_X4_hasCell rfl rfl rfl hv_X4_hasCell ⟨Nat.le_of_ble_eq_true rfl, Nat.le_of_ble_eq_true rfl⟩) hk_b6 rfl rfl rfl rfl hl.1 rfl (Nat.le_of_ble_eq_true rfl) dX9_see_16 ⟨Nat.zero_le _, Nat.zero_le _⟩ (fun H locs hd hS => ?_)
    refine lv_if_ne (tgt := 25) hx hb dX9_see_19 (by decide) (fun q10 => ?_) (fun q10 => ?_)
    · have h := if_n q10 h
      refine lv_aload_n hx hb dX9_see_25 rfl (lv_at hl 0 rfl) ?_
      obtain ⟨b11, hb11, h⟩ := bR_e h
      refine r_getr hx hb hts (fun w h => List.mem_cons_of_mem _ (List.mem_append_left _ (List.mem_append_left _ (List.mem_append_right _ (h))))) hown hK hd hk_a0 hb11 rfl fs_9_8 (hts (.fieldLink RX9 60 "LevelVotes" "notebook" "LLevelVotes$Notebook;") (List.mem_of_getElem? (i := 3) rfl)) dX9_see_26 (fun hq => ?_)
      have hk_b11 : kd b11 = 6 := hq
      refine r_geti hx hb hts (fun w h => List.mem_cons_of_mem _ (List.mem_append_left _ (List.mem_append_right _ (h)))) hown hK hd hk_b11 rfl 4 fs_6_4 (hts (.fieldLink RX9 137 "LevelVotes$Notebook" "seen" "I") (List.mem_of_getElem? (i := 4) rfl)) dX9_see_29 ?_
      refine lv_bipush (v := 6) hx hb dX9_see_32 (by decide) ?_
      refine lv_icmp_lt (tgt := 40) hx hb dX9_see_34 (by decide) (fun q12 => ?_) (fun q12 => ?_)
      · have h := if_y q12 h
        refine lv_aload_n hx hb dX9_see_40 rfl (lv_at hl 0 rfl) ?_
        obtain ⟨b13, hb13, h⟩ := bR_e h
        refine r_getr hx hb hts (fun w h => List.mem_cons_of_mem _ (List.mem_append_left _ (List.mem_append_left _ (List.mem_append_right _ (h))))) hown hK hd hk_a0 hb13 rfl fs_9_8 (hts (.fieldLink RX9 60 "LevelVotes" "notebook" "LLevelVotes$Notebook;") (List.mem_of_getElem? (i := 3) rfl)) dX9_see_41 (fun hq => ?_)
        have hk_b13 : kd b13 = 6 := hq
        refine lv_iload_n hx hb dX9_see_44 rfl (lv_at hl 1 rfl) ?_
        refine lv_iload_n hx hb dX9_see_45 rfl (lv_at hl 2 rfl) ?_
        obtain ⟨μ14, hc16, h⟩ := bV_e h
        refine rc_Vv (rest := []) [.int x1, .int x2] ⟨hx, hb, hml, hown, hts⟩ hK hd hS (c_X6_addSeen hk_b13 hc16) (cwV 2 hts gX9_see_X6_addSeen rfl rfl rfl hv_X6_addSeen ⟨Nat.le_of_ble_eq_true rfl, Nat.le_of_ble_eq_true rfl⟩) hk_b13 rfl rfl rfl rfl hl.1 rfl (Nat.le_of_ble_eq_true rfl) dX9_see_46 ⟨Nat.zero_le _, Nat.zero_le _⟩ (fun H locs hd hS => ?_)
        refine lv_aload_n hx hb dX9_see_49 rfl (lv_at hl 0 rfl) ?_
        obtain ⟨b17, hb17, h⟩ := bR_e h
        refine r_getr hx hb hts (fun w h => List.mem_cons_of_mem _ (List.mem_append_left _ (List.mem_append_left _ (List.mem_append_right _ (h))))) hown hK hd hk_a0 hb17 rfl fs_9_8 (hts (.fieldLink RX9 60 "LevelVotes" "notebook" "LLevelVotes$Notebook;") (List.mem_of_getElem? (i := 3) rfl)) dX9_see_50 (fun hq => ?_)
        have hk_b17 : kd b17 = 6 := hq
        refine r_geti hx hb hts (fun w h => List.mem_cons_of_mem _ (List.mem_append_left _ (List.mem_append_right _ (h)))) hown hK hd hk_b17 rfl 4 fs_6_4 (hts (.fieldLink RX9 137 "LevelVotes$Notebook" "seen" "I") (List.mem_of_getElem? (i := 4) rfl)) dX9_see_53 ?_
        obtain ⟨rfl, rfl⟩ := so_e h
        exact rt_i hx hb hr hlk hd hS dX9_see_56
      · have h := if_n q12 h
        refine lv_ldc (v := -1000000004) hx hb hown (hts (.constant RX9 91 (-1000000004)) (List.mem_of_getElem? (i := 5) rfl)) dX9_see_37 ?_
        obtain ⟨rfl, rfl⟩ := so_e h
        exact rt_i hx hb hr hlk hd hS dX9_see_39
    · have h := if_y q10 h
      refine lv_ldc (v := -1000000001) hx hb hown (hts (.constant RX9 150 (-1000000001)) (List.mem_of_getElem? (i := 2) rfl)) dX9_see_22 ?_
      obtain ⟨rfl, rfl⟩ := so_e h
      exact rt_i hx hb hr hlk hd hS dX9_see_24
theorem hv_X9_fitsSeen : yX9_fitsSeen.cls = RX9 ∧ yX9_fitsSeen.cls ≠ "java/lang/invoke/MethodHandle" ∧ yX9_fitsSeen.cls ≠ "java/lang/invoke/VarHandle" ∧ (parseMethodDescriptor yX9_fitsSeen.desc).map (fun d => d.parameters.length) = some 0 := by decide +kernel
abbrev HL_X9_fitsSeen_17 (l : Launch) (D : va_G) (cA : Nat → ClassId) (z : Nat) (av : List Value) (r : Int32) (μ' : Mm) (p : Program) (e : Env) (s : State) (m : MethodId) (below : List Frame) (meth : Method) (c : Code) (rc : Mm → Nat → Int32 → Option (Int32 × Mm)) : Prop := ∀ (μ : Mm) (H : Heap) (locs : List Loc) (ls : Array Slot) (a0 : Nat) (x1 : Int32), kd a0 = 9 → Wd D cA z μ H → va_S (Az z) s.heap H locs → lv_has ls 2 [(0, .ref (z + a0)), (1, .int x1)] → rc μ a0 x1 = some (r, μ') → WG l D cA z wsX9_fitsSeen 4 91 av (some (.int r)) μ' p e s m below meth c H locs (F0 m 17 ls [])
def f_X9_fitsSeen_L17b (rc17 : Mm → Nat → Int32 → Option (Int32 × Mm)) (μ : Mm) (a0 : Nat) (x1 : Int32) : Option (Int32 × Mm) := bR (μ.2 a0 8) (fun b1 => if (μ.1 b1 4) ≤ x1 then (some ((1 : Int32), μ)) else (bR (μ.2 a0 10) (fun b3 => bR (μ.2 a0 8) (fun b4 => bC (f_X6_seenFrom μ b4 x1) (fun r6 μ5 => bC (f_X2_restFrom μ5 b3 r6) (fun r9 μ8 => bR (μ8.2 a0 8) (fun b11 => bC (f_X6_seenTo μ8 b11 x1) (fun r13 μ12 => if r9 = r13 then (rc17 μ12 a0 (x1 + (1 : Int32))) else (some ((0 : Int32), μ12))))))))))
set_option maxRecDepth 100000 in
theorem k_f_X9_fitsSeen_L17b {l : Launch} {D : va_G} {cA : Nat → ClassId} {z : Nat} {av : List Value} {p : Program} {e : Env} {s : State} {m : MethodId} {below : List Frame} {meth : Method} {c : Code} {r : Int32} {μ' : Mm} (X : Fx D cA RX9 wsX9_fitsSeen cX9_fitsSeen 2 (some .boolean) p s m av.toArray meth c) {rc17 : Mm → Nat → Int32 → Option (Int32 × Mm)} (hrc17 : HL_X9_fitsSeen_17 l D cA z av r μ' p e s m below meth c rc17) {μ : Mm} {a0 : Nat} {x1 : Int32} (hk_a0 : kd a0 = 9) {H : Heap} {locs : List Loc} {ls : Array Slot} (hd : Wd D cA z μ H) (hS : va_S (Az z) s.heap H locs) (hl : lv_has ls 2 [(0, .ref (z + a0)), (1, .int x1)]) (h : f_X9_fitsSeen_L17b rc17 μ a0 x1 = some (r, μ')) : WG l D cA z wsX9_fitsSeen 4 91 av (some (.int r)) μ' p e s m below meth c H locs (F0 m 17 ls []) := by
  obtain ⟨hx, hb, hr, hlk, hml, hown, hts, hK⟩ := id X
  unfold f_X9_fitsSeen_L17b at h
  refine lv_iload_n hx hb dX9_fitsSeen_17 rfl (lv_at hl 1 rfl) ?_
  refine lv_aload_n hx hb dX9_fitsSeen_18 rfl (lv_at hl 0 rfl) ?_
  obtain ⟨b1, hb1, h⟩ := bR_e h
  refine r_getr hx hb hts (fun w h => List.mem_cons_of_mem _ (List.mem_append_left _ (List.mem_append_left _ (List.mem_append_left _ (List.mem_append_left _ (List.mem_append_right _ (h))))))) hown hK hd hk_a0 hb1 rfl fs_9_8 (hts (.fieldLink RX9 60 "LevelVotes" "notebook" "LLevelVotes$Notebook;") (List.mem_of_getElem? (i := 4) rfl)) dX9_fitsSeen_19 (fun hq => ?_)
  have hk_b1 : kd b1 = 6 := hq
  refine r_geti hx hb hts (fun w h => List.mem_cons_of_mem _ (List.mem_append_left _ (List.mem_append_left _ (List.mem_append_left _ (List.mem_append_right _ (h)))))) hown hK hd hk_b1 rfl 4 fs_6_4 (hts (.fieldLink RX9 137 "LevelVotes$Notebook" "seen" "I") (List.mem_of_getElem? (i := 5) rfl)) dX9_fitsSeen_22 ?_
  refine lv_icmp_ge (tgt := 62) hx hb dX9_fitsSeen_25 (by decide) (fun q2 => ?_) (fun q2 => ?_)
  · have h := if_y q2 h
    refine lv_iconst (v := 1) hx hb dX9_fitsSeen_62 (by decide) ?_
    obtain ⟨rfl, rfl⟩ := so_e h
    exact rt_z hx hb hr rfl hlk hd hS dX9_fitsSeen_63
  · have h := if_n q2 h
    refine lv_aload_n hx hb dX9_fitsSeen_28 rfl (lv_at hl 0 rfl) ?_
    obtain ⟨b3, hb3, h⟩ := bR_e h
    refine r_getr hx hb hts (fun w h => List.mem_cons_of_mem _ (List.mem_append_left _ (List.mem_append_left _ (List.mem_append_left _ (List.mem_append_left _ (List.mem_append_right _ (h))))))) hown hK hd hk_a0 hb3 rfl fs_9_10 (hts (.fieldLink RX9 74 "LevelVotes" "hill" "LLevelVotes$Hill;") (List.mem_of_getElem? (i := 1) rfl)) dX9_fitsSeen_29 (fun hq => ?_)
    have hk_b3 : kd b3 = 2 := hq
    refine lv_aload_n hx hb dX9_fitsSeen_32 rfl (lv_at hl 0 rfl) ?_
    obtain ⟨b4, hb4, h⟩ := bR_e h
    refine r_getr hx hb hts (fun w h => List.mem_cons_of_mem _ (List.mem_append_left _ (List.mem_append_left _ (List.mem_append_left _ (List.mem_append_left _ (List.mem_append_right _ (h))))))) hown hK hd hk_a0 hb4 rfl fs_9_8 (hts (.fieldLink RX9 60 "LevelVotes" "notebook" "LLevelVotes$Notebook;") (List.mem_of_getElem? (i := 4) rfl)) dX9_fitsSeen_33 (fun hq => ?_)
    have hk_b4 : kd b4 = 6 := hq
    refine lv_iload_n hx hb dX9_fitsSeen_36 rfl (lv_at hl 1 rfl) ?_
    obtain ⟨r6, μ5, hc7, h⟩ := bC_e h
    refine rc_Vi (rest := [.ref (z + b3)]) [.int x1] ⟨hx, hb, hml, hown, hts⟩ hK hd hS (c_X6_seenFrom hk_b4 hc7) (cwV 1 hts gX9_fitsSeen_X6_seenFrom rfl rfl rfl hv_X6_seenFrom ⟨Nat.le_of_ble_eq_true rfl, Nat.le_of_ble_eq_true rfl⟩) hk_b4 rfl rfl rfl rfl hl.1 rfl (Nat.le_of_ble_eq_true rfl) dX9_fitsSeen_37 ⟨Nat.zero_le _, Nat.zero_le _⟩ (fun H locs hd hS => ?_)
    obtain ⟨r9, μ8, hc10, h⟩ := bC_e h
    refine rc_Vi (rest := []) [.int r6] ⟨hx, hb, hml, hown, hts⟩ hK hd hS (c_X2_restFrom hk_b3 hc10) (cwV 1 hts gX9_fitsSeen_X2_restFrom rfl rfl rfl hv_X2_restFrom ⟨Nat.le_of_ble_eq_true rfl, Nat.le_of_ble_eq_true rfl⟩) hk_b3 rfl rfl rfl rfl hl.1 rfl (Nat.le_of_ble_eq_true rfl) dX9_fitsSeen_40 ⟨Nat.zero_le _, Nat.zero_le _⟩ (fun H locs hd hS => ?_)
    refine lv_aload_n hx hb dX9_fitsSeen_43 rfl (lv_at hl 0 rfl) ?_
    obtain ⟨b11, hb11, h⟩ := bR_e h
    refine r_getr hx hb hts (fun w h => List.mem_cons_of_mem _ (List.mem_append_left _ (List.mem_append_left _ (List.mem_append_left _ (List.mem_append_left _ (List.mem_append_right _ (h))))))) hown hK hd hk_a0 hb11 rfl fs_9_8 (hts (.fieldLink RX9 60 "LevelVotes" "notebook" "LLevelVotes$Notebook;") (List.mem_of_getElem? (i := 4) rfl)) dX9_fitsSeen_44 (fun hq => ?_)
    have hk_b11 : kd b11 = 6 := hq
    refine lv_iload_n hx hb dX9_fitsSeen_47 rfl (lv_at hl 1 rfl) ?_
    obtain ⟨r13, μ12, hc14, h⟩ := bC_e h
    refine rc_Vi (rest := [.int r9]) [.int x1] ⟨hx, hb, hml, hown, hts⟩ hK hd hS (c_X6_seenTo hk_b11 hc14) (cwV 1 hts gX9_fitsSeen_X6_seenTo rfl rfl rfl hv_X6_seenTo ⟨Nat.le_of_ble_eq_true rfl, Nat.le_of_ble_eq_true rfl⟩) hk_b11 rfl rfl rfl rfl hl.1 rfl (Nat.le_of_ble_eq_true rfl) dX9_fitsSeen_48 ⟨Nat.zero_le _, Nat.zero_le _⟩ (fun H locs hd hS => ?_)
    refine lv_icmp_eq (tgt := 56) hx hb dX9_fitsSeen_51 (by decide) (fun q15 => ?_) (fun q15 => ?_)
    · have h := if_y q15 h
      refine lv_iinc (v := x1 + (1 : Int32)) (lv' := [(1, .int (x1 + (1 : Int32))), (0, .ref (z + a0))]) hx hb dX9_fitsSeen_56 hl (k := 1) rfl rfl (by decide) rfl (fun ls hl => ?_)
      refine lv_goto (tgt := 17) hx hb dX9_fitsSeen_59 (by decide) ?_
      exact hrc17 _ _ _ _ _ _ hk_a0 hd hS (lv_sub hl [1, 0] rfl) h
    · have h := if_n q15 h
      refine lv_iconst (v := 0) hx hb dX9_fitsSeen_54 (by decide) ?_
      obtain ⟨rfl, rfl⟩ := so_e h
      exact rt_z hx hb hr rfl hlk hd hS dX9_fitsSeen_55
def f_X9_fitsSeen_L17 : Nat → Mm → Nat → Int32 → Option (Int32 × Mm)
  | 0 => fun _ _ _ => none
  | n + 1 => fun μ a0 x1 => f_X9_fitsSeen_L17b (f_X9_fitsSeen_L17 n) μ a0 x1
theorem k_f_X9_fitsSeen_L17 {l : Launch} {D : va_G} {cA : Nat → ClassId} {z : Nat} {av : List Value} {p : Program} {e : Env} {s : State} {m : MethodId} {below : List Frame} {meth : Method} {c : Code} {r : Int32} {μ' : Mm} (X : Fx D cA RX9 wsX9_fitsSeen cX9_fitsSeen 2 (some .boolean) p s m av.toArray meth c) (n : Nat) : HL_X9_fitsSeen_17 l D cA z av r μ' p e s m below meth c (f_X9_fitsSeen_L17 n) := by
  induction n with
  | zero => intro _ _ _ _ _ _ _ _ _ _ h; have h2 : (none : Option _) = some _ := h; cases h2
  | succ n ih => intro μ H locs ls a0 x1 hk_a0 hd hS hl h; exact k_f_X9_fitsSeen_L17b X ih hk_a0 hd hS hl h
def f_X9_fitsSeen (μ : Mm) (a0 : Nat) : Option (Int32 × Mm) := bR (μ.2 a0 10) (fun b1 => bR (μ.2 a0 1) (fun b2 => bR (μ.2 a0 9) (fun b3 => bV (f_X2_shape μ b1 b2 b3) (fun μ4 => f_X9_fitsSeen_L17 FU μ4 a0 (0 : Int32)))))
set_option maxRecDepth 100000 in
theorem c_X9_fitsSeen {l : Launch} {D : va_G} {cA : Nat → ClassId} {z : Nat} {μ : Mm} {a0 : Nat} {r : Int32} {μ' : Mm} (hk_a0 : kd a0 = 9) (h : f_X9_fitsSeen μ a0 = some (r, μ')) : Ct l D cA z yX9_fitsSeen wsX9_fitsSeen 4 91 [.ref (z + a0)] μ (some (.int r)) μ' := by
  refine m_in (cc := cX9_fitsSeen) (maxL := 2) (ret := (some .boolean)) (own := RX9) (by decide) rfl rfl (Nat.le_of_ble_eq_true rfl) ?_
  intro p e s m below meth c ls X hd hS hl
  obtain ⟨hx, hb, hr, hlk, hml, hown, hts, hK⟩ := id X
  have hl : lv_has ls 2 [(0, .ref (z + a0))] := hl
  unfold f_X9_fitsSeen at h
  refine lv_aload_n hx hb dX9_fitsSeen_0 rfl (lv_at hl 0 rfl) ?_
  obtain ⟨b1, hb1, h⟩ := bR_e h
  refine r_getr hx hb hts (fun w h => List.mem_cons_of_mem _ (List.mem_append_left _ (List.mem_append_left _ (List.mem_append_left _ (List.mem_append_left _ (List.mem_append_right _ (h))))))) hown hK hd hk_a0 hb1 rfl fs_9_10 (hts (.fieldLink RX9 74 "LevelVotes" "hill" "LLevelVotes$Hill;") (List.mem_of_getElem? (i := 1) rfl)) dX9_fitsSeen_1 (fun hq => ?_)
  have hk_b1 : kd b1 = 2 := hq
  refine lv_aload_n hx hb dX9_fitsSeen_4 rfl (lv_at hl 0 rfl) ?_
  obtain ⟨b2, hb2, h⟩ := bR_e h
  refine r_getr hx hb hts (fun w h => List.mem_cons_of_mem _ (List.mem_append_left _ (List.mem_append_left _ (List.mem_append_left _ (List.mem_append_left _ (List.mem_append_right _ (h))))))) hown hK hd hk_a0 hb2 rfl fs_9_1 (hts (.fieldLink RX9 19 "LevelVotes" "plan" "LLevelVotes$House;") (List.mem_of_getElem? (i := 2) rfl)) dX9_fitsSeen_5 (fun hq => ?_)
  have hk_b2 : kd b2 = 4 := hq
  refine lv_aload_n hx hb dX9_fitsSeen_8 rfl (lv_at hl 0 rfl) ?_
  obtain ⟨b3, hb3, h⟩ := bR_e h
  refine r_getr hx hb hts (fun w h => List.mem_cons_of_mem _ (List.mem_append_left _ (List.mem_append_left _ (List.mem_append_left _ (List.mem_append_left _ (List.mem_append_right _ (h))))))) hown hK hd hk_a0 hb3 rfl fs_9_9 (hts (.fieldLink RX9 67 "LevelVotes" "way" "LLevelVotes$Way;") (List.mem_of_getElem? (i := 3) rfl)) dX9_fitsSeen_9 (fun hq => ?_)
  have hk_b3 : kd b3 = 8 := hq
  obtain ⟨μ4, hc6, h⟩ := bV_e h
  refine rc_Vv (rest := []) [.ref (z + b2), .ref (z + b3)] ⟨hx, hb, hml, hown, hts⟩ hK hd hS (c_X2_shape hk_b1 hk_b2 hk_b3 hc6) (cwV 2 hts gX9_fitsSeen_X2_shape rfl rfl rfl hv_X2_shape ⟨Nat.le_of_ble_eq_true rfl, Nat.le_of_ble_eq_true rfl⟩) hk_b1 rfl rfl rfl rfl hl.1 rfl (Nat.le_of_ble_eq_true rfl) dX9_fitsSeen_12 ⟨Nat.zero_le _, Nat.zero_le _⟩ (fun H locs hd hS => ?_)
  refine lv_iconst (v := 0) hx hb dX9_fitsSeen_15 (by decide) ?_
  refine lv_istore_n (lv' := [(1, .int (0 : Int32)), (0, .ref (z + a0))]) hx hb dX9_fitsSeen_16 rfl hl (by decide) rfl (fun ls hl => ?_)
  exact k_f_X9_fitsSeen_L17 X FU _ _ _ _ _ _ hk_a0 hd hS (lv_sub hl [1, 0] rfl) h
theorem hv_X9_stood : yX9_stood.cls = RX9 ∧ yX9_stood.cls ≠ "java/lang/invoke/MethodHandle" ∧ yX9_stood.cls ≠ "java/lang/invoke/VarHandle" ∧ (parseMethodDescriptor yX9_stood.desc).map (fun d => d.parameters.length) = some 1 := by decide +kernel
abbrev HL_X9_stood_27 (l : Launch) (D : va_G) (cA : Nat → ClassId) (z : Nat) (av : List Value) (r : Int32) (μ' : Mm) (p : Program) (e : Env) (s : State) (m : MethodId) (below : List Frame) (meth : Method) (c : Code) (rc : Mm → Nat → Int32 → Int32 → Int32 → Int32 → Option (Int32 × Mm)) : Prop := ∀ (μ : Mm) (H : Heap) (locs : List Loc) (ls : Array Slot) (a0 : Nat) (x1 : Int32) (x2 : Int32) (x3 : Int32) (x4 : Int32), kd a0 = 9 → Wd D cA z μ H → va_S (Az z) s.heap H locs → lv_has ls 5 [(0, .ref (z + a0)), (1, .int x1), (2, .int x2), (3, .int x3), (4, .int x4)] → rc μ a0 x1 x2 x3 x4 = some (r, μ') → WG l D cA z wsX9_stood 5 112 av (some (.int r)) μ' p e s m below meth c H locs (F0 m 27 ls [])
def f_X9_stood_j72 (rc27 : Mm → Nat → Int32 → Int32 → Int32 → Int32 → Option (Int32 × Mm)) (μ : Mm) (a0 : Nat) (x1 : Int32) (x2 : Int32) (x3 : Int32) (x4 : Int32) : Option (Int32 × Mm) := rc27 μ a0 x1 x2 x3 (x4 + (1 : Int32))
set_option maxRecDepth 100000 in
theorem k_f_X9_stood_j72 {l : Launch} {D : va_G} {cA : Nat → ClassId} {z : Nat} {av : List Value} {p : Program} {e : Env} {s : State} {m : MethodId} {below : List Frame} {meth : Method} {c : Code} {r : Int32} {μ' : Mm} (X : Fx D cA RX9 wsX9_stood cX9_stood 5 (some .int) p s m av.toArray meth c) {rc27 : Mm → Nat → Int32 → Int32 → Int32 → Int32 → Option (Int32 × Mm)} (hrc27 : HL_X9_stood_27 l D cA z av r μ' p e s m below meth c rc27) {μ : Mm} {a0 : Nat} {x1 : Int32} {x2 : Int32} {x3 : Int32} {x4 : Int32} (hk_a0 : kd a0 = 9) {H : Heap} {locs : List Loc} {ls : Array Slot} (hd : Wd D cA z μ H) (hS : va_S (Az z) s.heap H locs) (hl : lv_has ls 5 [(0, .ref (z + a0)), (1, .int x1), (2, .int x2), (3, .int x3), (4, .int x4)]) (h : f_X9_stood_j72 rc27 μ a0 x1 x2 x3 x4 = some (r, μ')) : WG l D cA z wsX9_stood 5 112 av (some (.int r)) μ' p e s m below meth c H locs (F0 m 72 ls []) := by
  obtain ⟨hx, hb, hr, hlk, hml, hown, hts, hK⟩ := id X
  unfold f_X9_stood_j72 at h
  refine lv_iinc (v := x4 + (1 : Int32)) (lv' := [(4, .int (x4 + (1 : Int32))), (0, .ref (z + a0)), (1, .int x1), (2, .int x2), (3, .int x3)]) hx hb dX9_stood_72 hl (k := 4) rfl rfl (by decide) rfl (fun ls hl => ?_)
  refine lv_goto (tgt := 27) hx hb dX9_stood_75 (by decide) ?_
  exact hrc27 _ _ _ _ _ _ _ _ _ hk_a0 hd hS (lv_sub hl [1, 2, 3, 4, 0] rfl) h
def f_X9_stood_L27b (rc27 : Mm → Nat → Int32 → Int32 → Int32 → Int32 → Option (Int32 × Mm)) (μ : Mm) (a0 : Nat) (x1 : Int32) (x2 : Int32) (x3 : Int32) (x4 : Int32) : Option (Int32 × Mm) := if x3 ≤ x4 then (if x1 = (-1 : Int32) then (some (x2, μ)) else (some ((-1 : Int32), μ))) else (bR (μ.2 a0 9) (fun b3 => bR (μ.2 a0 1) (fun b4 => bV (f_X8_become μ b3 x4 (μ.1 b4 3)) (fun μ5 => bC (f_X9_fitsSeen μ5 a0) (fun r9 μ8 => if r9 = 0 then (f_X9_stood_j72 rc27 μ8 a0 x1 x2 x3 x4) else (if x2 = x1 then (bR (μ8.2 a0 9) (fun b13 => bC (f_X8_figures μ8 b13) (fun r15 μ14 => some (r15, μ14)))) else (f_X9_stood_j72 rc27 μ8 a0 x1 (x2 + (1 : Int32)) x3 x4)))))))
set_option maxRecDepth 100000 in
theorem k_f_X9_stood_L27b {l : Launch} {D : va_G} {cA : Nat → ClassId} {z : Nat} {av : List Value} {p : Program} {e : Env} {s : State} {m : MethodId} {below : List Frame} {meth : Method} {c : Code} {r : Int32} {μ' : Mm} (X : Fx D cA RX9 wsX9_stood cX9_stood 5 (some .int) p s m av.toArray meth c) {rc27 : Mm → Nat → Int32 → Int32 → Int32 → Int32 → Option (Int32 × Mm)} (hrc27 : HL_X9_stood_27 l D cA z av r μ' p e s m below meth c rc27) {μ : Mm} {a0 : Nat} {x1 : Int32} {x2 : Int32} {x3 : Int32} {x4 : Int32} (hk_a0 : kd a0 = 9) {H : Heap} {locs : List Loc} {ls : Array Slot} (hd : Wd D cA z μ H) (hS : va_S (Az z) s.heap H locs) (hl : lv_has ls 5 [(0, .ref (z + a0)), (1, .int x1), (2, .int x2), (3, .int x3), (4, .int x4)]) (h : f_X9_stood_L27b rc27 μ a0 x1 x2 x3 x4 = some (r, μ')) : WG l D cA z wsX9_stood 5 112 av (some (.int r)) μ' p e s m below meth c H locs (F0 m 27 ls []) := by
  obtain ⟨hx, hb, hr, hlk, hml, hown, hts, hK⟩ := id X
  unfold f_X9_stood_L27b at h
  refine lv_iload hx hb dX9_stood_27 (lv_at hl 4 rfl) ?_
  refine lv_iload_n hx hb dX9_stood_29 rfl (lv_at hl 3 rfl) ?_
  refine lv_icmp_ge (tgt := 78) hx hb dX9_stood_30 (by decide) (fun q1 => ?_) (fun q1 => ?_)
  · have h := if_y q1 h
    refine lv_iload_n hx hb dX9_stood_78 rfl (lv_at hl 1 rfl) ?_
    refine lv_iconst (v := -1) hx hb dX9_stood_79 (by decide) ?_
    refine lv_icmp_ne (tgt := 87) hx hb dX9_stood_80 (by decide) (fun q2 => ?_) (fun q2 => ?_)
    · have h := if_n q2 h
      refine lv_iconst (v := -1) hx hb dX9_stood_87 (by decide) ?_
      obtain ⟨rfl, rfl⟩ := so_e h
      exact rt_i hx hb hr hlk hd hS dX9_stood_88
    · have h := if_y q2 h
      refine lv_iload_n hx hb dX9_stood_83 rfl (lv_at hl 2 rfl) ?_
      refine lv_goto (tgt := 88) hx hb dX9_stood_84 (by decide) ?_
      obtain ⟨rfl, rfl⟩ := so_e h
      exact rt_i hx hb hr hlk hd hS dX9_stood_88
  · have h := if_n q1 h
    refine lv_aload_n hx hb dX9_stood_33 rfl (lv_at hl 0 rfl) ?_
    obtain ⟨b3, hb3, h⟩ := bR_e h
    refine r_getr hx hb hts (fun w h => List.mem_cons_of_mem _ (List.mem_append_left _ (List.mem_append_left _ (List.mem_append_left _ (List.mem_append_left _ (List.mem_append_right _ (h))))))) hown hK hd hk_a0 hb3 rfl fs_9_9 (hts (.fieldLink RX9 67 "LevelVotes" "way" "LLevelVotes$Way;") (List.mem_of_getElem? (i := 1) rfl)) dX9_stood_34 (fun hq => ?_)
    have hk_b3 : kd b3 = 8 := hq
    refine lv_iload hx hb dX9_stood_37 (lv_at hl 4 rfl) ?_
    refine lv_aload_n hx hb dX9_stood_39 rfl (lv_at hl 0 rfl) ?_
    obtain ⟨b4, hb4, h⟩ := bR_e h
    refine r_getr hx hb hts (fun w h => List.mem_cons_of_mem _ (List.mem_append_left _ (List.mem_append_left _ (List.mem_append_left _ (List.mem_append_left _ (List.mem_append_right _ (h))))))) hown hK hd hk_a0 hb4 rfl fs_9_1 (hts (.fieldLink RX9 19 "LevelVotes" "plan" "LLevelVotes$House;") (List.mem_of_getElem? (i := 2) rfl)) dX9_stood_40 (fun hq => ?_)
    have hk_b4 : kd b4 = 4 := hq
    refine r_geti hx hb hts (fun w h => List.mem_cons_of_mem _ (List.mem_append_left _ (List.mem_append_left _ (List.mem_append_left _ (List.mem_append_right _ (h)))))) hown hK hd hk_b4 rfl 3 fs_4_3 (hts (.fieldLink RX9 109 "LevelVotes$House" "items" "I") (List.mem_of_getElem? (i := 3) rfl)) dX9_stood_43 ?_
    obtain ⟨μ5, hc7, h⟩ := bV_e h
    refine rc_Vv (rest := []) [.int x4, .int (μ.1 b4 3)] ⟨hx, hb, hml, hown, hts⟩ hK hd hS (c_X8_become hk_b3 hc7) (cwV 2 hts gX9_stood_X8_become rfl rfl rfl hv_X8_become ⟨Nat.le_of_ble_eq_true rfl, Nat.le_of_ble_eq_true rfl⟩) hk_b3 rfl rfl rfl rfl hl.1 rfl (Nat.le_of_ble_eq_true rfl) dX9_stood_46 ⟨Nat.zero_le _, Nat.zero_le _⟩ (fun H locs hd hS => ?_)
    refine lv_aload_n hx hb dX9_stood_49 rfl (lv_at hl 0 rfl) ?_
    obtain ⟨r9, μ8, hc10, h⟩ := bC_e h
    refine rc_Vi (rest := []) [] ⟨hx, hb, hml, hown, hts⟩ hK hd hS (c_X9_fitsSeen hk_a0 hc10) (cwV 0 hts gX9_stood_X9_fitsSeen rfl rfl rfl hv_X9_fitsSeen ⟨Nat.le_of_ble_eq_true rfl, Nat.le_of_ble_eq_true rfl⟩) hk_a0 rfl rfl rfl rfl hl.1 rfl (Nat.le_of_ble_eq_true rfl) dX9_stood_50 ⟨Nat.zero_le _, Nat.zero_le _⟩ (fun H locs hd hS => ?_)
    refine lv_if_eq (tgt := 72) hx hb dX9_stood_53 (by decide) (fun q11 => ?_) (fun q11 => ?_)
    · have h := if_y q11 h
      exact k_f_X9_stood_j72 X hrc27 hk_a0 hd hS (lv_sub hl [0, 1, 2, 3, 4] rfl) h
    · have h := if_n q11 h
      refine lv_iload_n hx hb dX9_stood_56 rfl (lv_at hl 2 rfl) ?_
      refine lv_iload_n hx hb dX9_stood_57 rfl (lv_at hl 1 rfl) ?_
      refine lv_icmp_ne (tgt := 69) hx hb dX9_stood_58 (by decide) (fun q12 => ?_) (fun q12 => ?_)
      · have h := if_n q12 h
        refine lv_iinc (v := x2 + (1 : Int32)) (lv' := [(2, .int (x2 + (1 : Int32))), (0, .ref (z + a0)), (1, .int x1), (3, .int x3), (4, .int x4)]) hx hb dX9_stood_69 hl (k := 2) rfl rfl (by decide) rfl (fun ls hl => ?_)
        exact k_f_X9_stood_j72 X hrc27 hk_a0 hd hS (lv_sub hl [1, 2, 0, 3, 4] rfl) h
      · have h := if_y q12 h
        refine lv_aload_n hx hb dX9_stood_61 rfl (lv_at hl 0 rfl) ?_
        obtain ⟨b13, hb13, h⟩ := bR_e h
        refine r_getr hx hb hts (fun w h => List.mem_cons_of_mem _ (List.mem_append_left _ (List.mem_append_left _ (List.mem_append_left _ (List.mem_append_left _ (List.mem_append_right _ (h))))))) hown hK hd hk_a0 hb13 rfl fs_9_9 (hts (.fieldLink RX9 67 "LevelVotes" "way" "LLevelVotes$Way;") (List.mem_of_getElem? (i := 1) rfl)) dX9_stood_62 (fun hq => ?_)
        have hk_b13 : kd b13 = 8 := hq
        obtain ⟨r15, μ14, hc16, h⟩ := bC_e h
        refine rc_Vi (rest := []) [] ⟨hx, hb, hml, hown, hts⟩ hK hd hS (c_X8_figures hk_b13 hc16) (cwV 0 hts gX9_stood_X8_figures rfl rfl rfl hv_X8_figures ⟨Nat.le_of_ble_eq_true rfl, Nat.le_of_ble_eq_true rfl⟩) hk_b13 rfl rfl rfl rfl hl.1 rfl (Nat.le_of_ble_eq_true rfl) dX9_stood_65 ⟨Nat.zero_le _, Nat.zero_le _⟩ (fun H locs hd hS => ?_)
        obtain ⟨rfl, rfl⟩ := so_e h
        exact rt_i hx hb hr hlk hd hS dX9_stood_68
def f_X9_stood_L27 : Nat → Mm → Nat → Int32 → Int32 → Int32 → Int32 → Option (Int32 × Mm)
  | 0 => fun _ _ _ _ _ _ => none
  | n + 1 => fun μ a0 x1 x2 x3 x4 => f_X9_stood_L27b (f_X9_stood_L27 n) μ a0 x1 x2 x3 x4
theorem k_f_X9_stood_L27 {l : Launch} {D : va_G} {cA : Nat → ClassId} {z : Nat} {av : List Value} {p : Program} {e : Env} {s : State} {m : MethodId} {below : List Frame} {meth : Method} {c : Code} {r : Int32} {μ' : Mm} (X : Fx D cA RX9 wsX9_stood cX9_stood 5 (some .int) p s m av.toArray meth c) (n : Nat) : HL_X9_stood_27 l D cA z av r μ' p e s m below meth c (f_X9_stood_L27 n) := by
  induction n with
  | zero => intro _ _ _ _ _ _ _ _ _ _ _ _ _ h; have h2 : (none : Option _) = some _ := h; cases h2
  | succ n ih => intro μ H locs ls a0 x1 x2 x3 x4 hk_a0 hd hS hl h; exact k_f_X9_stood_L27b X ih hk_a0 hd hS hl h
def f_X9_stood (μ : Mm) (a0 : Nat) (x1 : Int32) : Option (Int32 × Mm) := if (-1 : Int32) ≤ x1 then (bR (μ.2 a0 9) (fun b2 => bR (μ.2 a0 1) (fun b3 => bC (f_X8_countFor μ b2 (μ.1 b3 3)) (fun r5 μ4 => f_X9_stood_L27 FU μ4 a0 x1 (0 : Int32) r5 (0 : Int32))))) else (some ((-1 : Int32), μ))
set_option maxRecDepth 100000 in
theorem c_X9_stood {l : Launch} {D : va_G} {cA : Nat → ClassId} {z : Nat} {μ : Mm} {a0 : Nat} {x1 : Int32} {r : Int32} {μ' : Mm} (hk_a0 : kd a0 = 9) (h : f_X9_stood μ a0 x1 = some (r, μ')) : Ct l D cA z yX9_stood wsX9_stood 5 112 [.ref (z + a0), .int x1] μ (some (.int r)) μ' := by
  refine m_in (cc := cX9_stood) (maxL := 5) (ret := (some .int)) (own := RX9) (by decide) rfl rfl (Nat.le_of_ble_eq_true rfl) ?_
  intro p e s m below meth c ls X hd hS hl
  obtain ⟨hx, hb, hr, hlk, hml, hown, hts, hK⟩ := id X
  have hl : lv_has ls 5 [(0, .ref (z + a0)), (1, .int x1)] := hl
  unfold f_X9_stood at h
  refine lv_iload_n hx hb dX9_stood_0 rfl (lv_at hl 1 rfl) ?_
  refine lv_iconst (v := -1) hx hb dX9_stood_1 (by decide) ?_
  refine lv_icmp_ge (tgt := 7) hx hb dX9_stood_2 (by decide) (fun q1 => ?_) (fun q1 => ?_)
  · have h := if_y q1 h
    refine lv_iconst (v := 0) hx hb dX9_stood_7 (by decide) ?_
    refine lv_istore_n (lv' := [(2, .int (0 : Int32)), (0, .ref (z + a0)), (1, .int x1)]) hx hb dX9_stood_8 rfl hl (by decide) rfl (fun ls hl => ?_)
    refine lv_aload_n hx hb dX9_stood_9 rfl (lv_at hl 1 rfl) ?_
    obtain ⟨b2, hb2, h⟩ := bR_e h
    refine r_getr hx hb hts (fun w h => List.mem_cons_of_mem _ (List.mem_append_left _ (List.mem_append_left _ (List.mem_append_left _ (List.mem_append_left _ (List.mem_append_right _ (h))))))) hown hK hd hk_a0 hb2 rfl fs_9_9 (hts (.fieldLink RX9 67 "LevelVotes" "way" "LLevelVotes$Way;") (List.mem_of_getElem? (i := 1) rfl)) dX9_stood_10 (fun hq => ?_)
    have hk_b2 : kd b2 = 8 := hq
    refine lv_aload_n hx hb dX9_stood_13 rfl (lv_at hl 1 rfl) ?_
    obtain ⟨b3, hb3, h⟩ := bR_e h
    refine r_getr hx hb hts (fun w h => List.mem_cons_of_mem _ (List.mem_append_left _ (List.mem_append_left _ (List.mem_append_left _ (List.mem_append_left _ (List.mem_append_right _ (h))))))) hown hK hd hk_a0 hb3 rfl fs_9_1 (hts (.fieldLink RX9 19 "LevelVotes" "plan" "LLevelVotes$House;") (List.mem_of_getElem? (i := 2) rfl)) dX9_stood_14 (fun hq => ?_)
    have hk_b3 : kd b3 = 4 := hq
    refine r_geti hx hb hts (fun w h => List.mem_cons_of_mem _ (List.mem_append_left _ (List.mem_append_left _ (List.mem_append_left _ (List.mem_append_right _ (h)))))) hown hK hd hk_b3 rfl 3 fs_4_3 (hts (.fieldLink RX9 109 "LevelVotes$House" "items" "I") (List.mem_of_getElem? (i := 3) rfl)) dX9_stood_17 ?_
    obtain ⟨r5, μ4, hc6, h⟩ := bC_e h
    refine rc_Vi (rest := []) [.int (μ.1 b3 3)] ⟨hx, hb, hml, hown, hts⟩ hK hd hS (c_X8_countFor hk_b2 hc6) (cwV 1 hts gX9_stood_X8_countFor rfl rfl rfl hv_X8_countFor ⟨Nat.le_of_ble_eq_true rfl, Nat.le_of_ble_eq_true rfl⟩) hk_b2 rfl rfl rfl rfl hl.1 rfl (Nat.le_of_ble_eq_true rfl) dX9_stood_20 ⟨Nat.zero_le _, Nat.zero_le _⟩ (fun H locs hd hS => ?_)
    refine lv_istore_n (lv' := [(3, .int r5), (2, .int (0 : Int32)), (0, .ref (z + a0)), (1, .int x1)]) hx hb dX9_stood_23 rfl hl (by decide) rfl (fun ls hl => ?_)
    refine lv_iconst (v := 0) hx hb dX9_stood_24 (by decide) ?_
    refine lv_istore (lv' := [(4, .int (0 : Int32)), (3, .int r5), (2, .int (0 : Int32)), (0, .ref (z + a0)), (1, .int x1)]) hx hb dX9_stood_25 hl (by decide) rfl (fun ls hl => ?_)
    exact k_f_X9_stood_L27 X FU _ _ _ _ _ _ _ _ _ hk_a0 hd hS (lv_sub hl [3, 4, 2, 1, 0] rfl) h
  · have h := if_n q1 h
    refine lv_iconst (v := -1) hx hb dX9_stood_5 (by decide) ?_
    obtain ⟨rfl, rfl⟩ := so_e h
    exact rt_i hx hb hr hlk hd hS dX9_stood_6
theorem hv_X9_countRests : yX9_countRests.cls = RX9 ∧ yX9_countRests.cls ≠ "java/lang/invoke/MethodHandle" ∧ yX9_countRests.cls ≠ "java/lang/invoke/VarHandle" ∧ (parseMethodDescriptor yX9_countRests.desc).map (fun d => d.parameters.length) = some 0 := by decide +kernel
abbrev HL_X9_countRests_2 (l : Launch) (D : va_G) (cA : Nat → ClassId) (z : Nat) (av : List Value) (μ' : Mm) (p : Program) (e : Env) (s : State) (m : MethodId) (below : List Frame) (meth : Method) (c : Code) (rc : Mm → Nat → Int32 → Option Mm) : Prop := ∀ (μ : Mm) (H : Heap) (locs : List Loc) (ls : Array Slot) (a0 : Nat) (x1 : Int32), kd a0 = 9 → Wd D cA z μ H → va_S (Az z) s.heap H locs → lv_has ls 3 [(0, .ref (z + a0)), (1, .int x1)] → rc μ a0 x1 = some μ' → WG l D cA z wsX9_countRests 4 91 av none μ' p e s m below meth c H locs (F0 m 2 ls [])
def f_X9_countRests_j50 (rc2 : Mm → Nat → Int32 → Option Mm) (μ : Mm) (a0 : Nat) (x1 : Int32) : Option Mm := rc2 μ a0 (x1 + (1 : Int32))
set_option maxRecDepth 100000 in
theorem k_f_X9_countRests_j50 {l : Launch} {D : va_G} {cA : Nat → ClassId} {z : Nat} {av : List Value} {p : Program} {e : Env} {s : State} {m : MethodId} {below : List Frame} {meth : Method} {c : Code} {μ' : Mm} (X : Fx D cA RX9 wsX9_countRests cX9_countRests 3 none p s m av.toArray meth c) {rc2 : Mm → Nat → Int32 → Option Mm} (hrc2 : HL_X9_countRests_2 l D cA z av μ' p e s m below meth c rc2) {μ : Mm} {a0 : Nat} {x1 : Int32} (hk_a0 : kd a0 = 9) {H : Heap} {locs : List Loc} {ls : Array Slot} (hd : Wd D cA z μ H) (hS : va_S (Az z) s.heap H locs) (hl : lv_has ls 3 [(0, .ref (z + a0)), (1, .int x1)]) (h : f_X9_countRests_j50 rc2 μ a0 x1 = some μ') : WG l D cA z wsX9_countRests 4 91 av none μ' p e s m below meth c H locs (F0 m 50 ls []) := by
  obtain ⟨hx, hb, hr, hlk, hml, hown, hts, hK⟩ := id X
  unfold f_X9_countRests_j50 at h
  refine lv_iinc (v := x1 + (1 : Int32)) (lv' := [(1, .int (x1 + (1 : Int32))), (0, .ref (z + a0))]) hx hb dX9_countRests_50 hl (k := 1) rfl rfl (by decide) rfl (fun ls hl => ?_)
  refine lv_goto (tgt := 2) hx hb dX9_countRests_53 (by decide) ?_
  exact hrc2 _ _ _ _ _ _ hk_a0 hd hS (lv_sub hl [1, 0] rfl) h
def f_X9_countRests_L2b (rc2 : Mm → Nat → Int32 → Option Mm) (μ : Mm) (a0 : Nat) (x1 : Int32) : Option Mm := bR (μ.2 a0 1) (fun b1 => if (μ.1 b1 2) ≤ x1 then (some μ) else (bR (μ.2 a0 10) (fun b3 => bC (f_X2_restFrom μ b3 x1) (fun r5 μ4 => bI ((x1 * (20 : Int32)) + r5) (fun v7 => if v7 < 0 then (f_X9_countRests_j50 rc2 μ4 a0 x1) else (bR (μ4.2 a0 12) (fun b9 => if (Int32.ofNat (ln b9)) ≤ v7 then (f_X9_countRests_j50 rc2 μ4 a0 x1) else (bR (μ4.2 a0 12) (fun b11 => gd (ckb v7 (ln b11)) (gd (ckb v7 (ln b11)) (bM (up2 μ4.1 b11 (v7).toNatClampNeg ((μ4.1 b11 (v7).toNatClampNeg) + (1 : Int32)), μ4.2) (fun μ14 => f_X9_countRests_j50 rc2 μ14 a0 x1))))))))))))
set_option maxRecDepth 100000 in
theorem k_f_X9_countRests_L2b {l : Launch} {D : va_G} {cA : Nat → ClassId} {z : Nat} {av : List Value} {p : Program} {e : Env} {s : State} {m : MethodId} {below : List Frame} {meth : Method} {c : Code} {μ' : Mm} (X : Fx D cA RX9 wsX9_countRests cX9_countRests 3 none p s m av.toArray meth c) {rc2 : Mm → Nat → Int32 → Option Mm} (hrc2 : HL_X9_countRests_2 l D cA z av μ' p e s m below meth c rc2) {μ : Mm} {a0 : Nat} {x1 : Int32} (hk_a0 : kd a0 = 9) {H : Heap} {locs : List Loc} {ls : Array Slot} (hd : Wd D cA z μ H) (hS : va_S (Az z) s.heap H locs) (hl : lv_has ls 3 [(0, .ref (z + a0)), (1, .int x1)]) (h : f_X9_countRests_L2b rc2 μ a0 x1 = some μ') : WG l D cA z wsX9_countRests 4 91 av none μ' p e s m below meth c H locs (F0 m 2 ls []) := by
  obtain ⟨hx, hb, hr, hlk, hml, hown, hts, hK⟩ := id X
  unfold f_X9_countRests_L2b at h
  refine lv_iload_n hx hb dX9_countRests_2 rfl (lv_at hl 1 rfl) ?_
  refine lv_aload_n hx hb dX9_countRests_3 rfl (lv_at hl 0 rfl) ?_
  obtain ⟨b1, hb1, h⟩ := bR_e h
  refine r_getr hx hb hts (fun w h => List.mem_cons_of_mem _ (List.mem_append_left _ (List.mem_append_left _ (List.mem_append_right _ (h))))) hown hK hd hk_a0 hb1 rfl fs_9_1 (hts (.fieldLink RX9 19 "LevelVotes" "plan" "LLevelVotes$House;") (List.mem_of_getElem? (i := 1) rfl)) dX9_countRests_4 (fun hq => ?_)
  have hk_b1 : kd b1 = 4 := hq
  refine r_geti hx hb hts (fun w h => List.mem_cons_of_mem _ (List.mem_append_left _ (List.mem_append_right _ (h)))) hown hK hd hk_b1 rfl 2 fs_4_2 (hts (.fieldLink RX9 222 "LevelVotes$House" "cells" "I") (List.mem_of_getElem? (i := 2) rfl)) dX9_countRests_7 ?_
  refine lv_icmp_ge (tgt := 56) hx hb dX9_countRests_10 (by decide) (fun q2 => ?_) (fun q2 => ?_)
  · have h := if_y q2 h
    obtain rfl := sv_e h
    exact rt_v hx hb hr hlk hd hS dX9_countRests_56
  · have h := if_n q2 h
    refine lv_iload_n hx hb dX9_countRests_13 rfl (lv_at hl 1 rfl) ?_
    refine lv_bipush (v := 20) hx hb dX9_countRests_14 (by decide) ?_
    refine lv_imul hx hb dX9_countRests_16 ?_
    refine lv_aload_n hx hb dX9_countRests_17 rfl (lv_at hl 0 rfl) ?_
    obtain ⟨b3, hb3, h⟩ := bR_e h
    refine r_getr hx hb hts (fun w h => List.mem_cons_of_mem _ (List.mem_append_left _ (List.mem_append_left _ (List.mem_append_right _ (h))))) hown hK hd hk_a0 hb3 rfl fs_9_10 (hts (.fieldLink RX9 74 "LevelVotes" "hill" "LLevelVotes$Hill;") (List.mem_of_getElem? (i := 3) rfl)) dX9_countRests_18 (fun hq => ?_)
    have hk_b3 : kd b3 = 2 := hq
    refine lv_iload_n hx hb dX9_countRests_21 rfl (lv_at hl 1 rfl) ?_
    obtain ⟨r5, μ4, hc6, h⟩ := bC_e h
    refine rc_Vi (rest := [.int (x1 * (20 : Int32))]) [.int x1] ⟨hx, hb, hml, hown, hts⟩ hK hd hS (c_X2_restFrom hk_b3 hc6) (cwV 1 hts gX9_countRests_X2_restFrom rfl rfl rfl hv_X2_restFrom ⟨Nat.le_of_ble_eq_true rfl, Nat.le_of_ble_eq_true rfl⟩) hk_b3 rfl rfl rfl rfl hl.1 rfl (Nat.le_of_ble_eq_true rfl) dX9_countRests_22 ⟨Nat.zero_le _, Nat.zero_le _⟩ (fun H locs hd hS => ?_)
    refine lv_iadd hx hb dX9_countRests_25 ?_
    refine lv_topi (fun v7 ev7 => ?_)
    have h := bI_e ev7 h
    refine lv_istore_n (lv' := [(2, .int v7), (0, .ref (z + a0)), (1, .int x1)]) hx hb dX9_countRests_26 rfl hl (by decide) rfl (fun ls hl => ?_)
    refine lv_iload_n hx hb dX9_countRests_27 rfl (lv_at hl 0 rfl) ?_
    refine lv_if_lt (tgt := 50) hx hb dX9_countRests_28 (by decide) (fun q8 => ?_) (fun q8 => ?_)
    · have h := if_y q8 h
      exact k_f_X9_countRests_j50 X hrc2 hk_a0 hd hS (lv_sub hl [1, 2] rfl) h
    · have h := if_n q8 h
      refine lv_iload_n hx hb dX9_countRests_31 rfl (lv_at hl 0 rfl) ?_
      refine lv_aload_n hx hb dX9_countRests_32 rfl (lv_at hl 1 rfl) ?_
      obtain ⟨b9, hb9, h⟩ := bR_e h
      refine r_getr hx hb hts (fun w h => List.mem_cons_of_mem _ (List.mem_append_left _ (List.mem_append_left _ (List.mem_append_right _ (h))))) hown hK hd hk_a0 hb9 rfl fs_9_12 (hts (.fieldLink RX9 82 "LevelVotes" "alike" "[I") (List.mem_of_getElem? (i := 4) rfl)) dX9_countRests_33 (fun hq => ?_)
      have hk_b9 : kd b9 = 11 := hq
      refine r_alen hx hb hK hd hk_b9 rfl dX9_countRests_36 ?_
      refine lv_icmp_ge (tgt := 50) hx hb dX9_countRests_37 (by decide) (fun q10 => ?_) (fun q10 => ?_)
      · have h := if_y q10 h
        exact k_f_X9_countRests_j50 X hrc2 hk_a0 hd hS (lv_sub hl [1, 2] rfl) h
      · have h := if_n q10 h
        refine lv_aload_n hx hb dX9_countRests_40 rfl (lv_at hl 1 rfl) ?_
        obtain ⟨b11, hb11, h⟩ := bR_e h
        refine r_getr hx hb hts (fun w h => List.mem_cons_of_mem _ (List.mem_append_left _ (List.mem_append_left _ (List.mem_append_right _ (h))))) hown hK hd hk_a0 hb11 rfl fs_9_12 (hts (.fieldLink RX9 82 "LevelVotes" "alike" "[I") (List.mem_of_getElem? (i := 4) rfl)) dX9_countRests_41 (fun hq => ?_)
        have hk_b11 : kd b11 = 11 := hq
        refine lv_iload_n hx hb dX9_countRests_44 rfl (lv_at hl 0 rfl) ?_
        refine lv_dup2_11 hx hb dX9_countRests_45 rfl rfl ?_
        obtain ⟨g12, h⟩ := gd_e h
        refine r_iald hx hb hK hd hk_b11 (ckb_in g12) dX9_countRests_46 ?_
        refine lv_iconst (v := 1) hx hb dX9_countRests_47 (by decide) ?_
        refine lv_iadd hx hb dX9_countRests_48 ?_
        obtain ⟨g13, h⟩ := gd_e h
        refine r_iast hx hb hK hd hS hk_b11 (ckb_in g13) dX9_countRests_49 (fun μ14 eμ14 H locs hd hS => ?_)
        have h := bM_e eμ14 h
        exact k_f_X9_countRests_j50 X hrc2 hk_a0 hd hS (lv_sub hl [1, 2] rfl) h
def f_X9_countRests_L2 : Nat → Mm → Nat → Int32 → Option Mm
  | 0 => fun _ _ _ => none
  | n + 1 => fun μ a0 x1 => f_X9_countRests_L2b (f_X9_countRests_L2 n) μ a0 x1
theorem k_f_X9_countRests_L2 {l : Launch} {D : va_G} {cA : Nat → ClassId} {z : Nat} {av : List Value} {p : Program} {e : Env} {s : State} {m : MethodId} {below : List Frame} {meth : Method} {c : Code} {μ' : Mm} (X : Fx D cA RX9 wsX9_countRests cX9_countRests 3 none p s m av.toArray meth c) (n : Nat) : HL_X9_countRests_2 l D cA z av μ' p e s m below meth c (f_X9_countRests_L2 n) := by
  induction n with
  | zero => intro _ _ _ _ _ _ _ _ _ _ h; have h2 : (none : Option _) = some _ := h; cases h2
  | succ n ih => intro μ H locs ls a0 x1 hk_a0 hd hS hl h; exact k_f_X9_countRests_L2b X ih hk_a0 hd hS hl h
def f_X9_countRests (μ : Mm) (a0 : Nat) : Option Mm := f_X9_countRests_L2 FU μ a0 (0 : Int32)
set_option maxRecDepth 100000 in
theorem c_X9_countRests {l : Launch} {D : va_G} {cA : Nat → ClassId} {z : Nat} {μ : Mm} {a0 : Nat} {μ' : Mm} (hk_a0 : kd a0 = 9) (h : f_X9_countRests μ a0 = some μ') : Ct l D cA z yX9_countRests wsX9_countRests 4 91 [.ref (z + a0)] μ none μ' := by
  refine m_in (cc := cX9_countRests) (maxL := 3) (ret := none) (own := RX9) (by decide) rfl rfl (Nat.le_of_ble_eq_true rfl) ?_
  intro p e s m below meth c ls X hd hS hl
  obtain ⟨hx, hb, hr, hlk, hml, hown, hts, hK⟩ := id X
  have hl : lv_has ls 3 [(0, .ref (z + a0))] := hl
  unfold f_X9_countRests at h
  refine lv_iconst (v := 0) hx hb dX9_countRests_0 (by decide) ?_
  refine lv_istore_n (lv' := [(1, .int (0 : Int32)), (0, .ref (z + a0))]) hx hb dX9_countRests_1 rfl hl (by decide) rfl (fun ls hl => ?_)
  exact k_f_X9_countRests_L2 X FU _ _ _ _ _ _ hk_a0 hd hS (lv_sub hl [1, 0] rfl) h
theorem hv_X9_countAlike : yX9_countAlike.cls = RX9 ∧ yX9_countAlike.cls ≠ "java/lang/invoke/MethodHandle" ∧ yX9_countAlike.cls ≠ "java/lang/invoke/VarHandle" ∧ (parseMethodDescriptor yX9_countAlike.desc).map (fun d => d.parameters.length) = some 0 := by decide +kernel
abbrev HL_X9_countAlike_27 (l : Launch) (D : va_G) (cA : Nat → ClassId) (z : Nat) (av : List Value) (r : Int32) (μ' : Mm) (p : Program) (e : Env) (s : State) (m : MethodId) (below : List Frame) (meth : Method) (c : Code) (rc : Mm → Nat → Int32 → Int32 → Int32 → Option (Int32 × Mm)) : Prop := ∀ (μ : Mm) (H : Heap) (locs : List Loc) (ls : Array Slot) (a0 : Nat) (x1 : Int32) (x2 : Int32) (x3 : Int32), kd a0 = 9 → Wd D cA z μ H → va_S (Az z) s.heap H locs → lv_has ls 4 [(0, .ref (z + a0)), (1, .int x1), (2, .int x2), (3, .int x3)] → rc μ a0 x1 x2 x3 = some (r, μ') → WG l D cA z wsX9_countAlike 5 113 av (some (.int r)) μ' p e s m below meth c H locs (F0 m 27 ls [])
def f_X9_countAlike_j61 (rc27 : Mm → Nat → Int32 → Int32 → Int32 → Option (Int32 × Mm)) (μ : Mm) (a0 : Nat) (x1 : Int32) (x2 : Int32) (x3 : Int32) : Option (Int32 × Mm) := rc27 μ a0 x1 x2 (x3 + (1 : Int32))
set_option maxRecDepth 100000 in
theorem k_f_X9_countAlike_j61 {l : Launch} {D : va_G} {cA : Nat → ClassId} {z : Nat} {av : List Value} {p : Program} {e : Env} {s : State} {m : MethodId} {below : List Frame} {meth : Method} {c : Code} {r : Int32} {μ' : Mm} (X : Fx D cA RX9 wsX9_countAlike cX9_countAlike 4 (some .int) p s m av.toArray meth c) {rc27 : Mm → Nat → Int32 → Int32 → Int32 → Option (Int32 × Mm)} (hrc27 : HL_X9_countAlike_27 l D cA z av r μ' p e s m below meth c rc27) {μ : Mm} {a0 : Nat} {x1 : Int32} {x2 : Int32} {x3 : Int32} (hk_a0 : kd a0 = 9) {H : Heap} {locs : List Loc} {ls : Array Slot} (hd : Wd D cA z μ H) (hS : va_S (Az z) s.heap H locs) (hl : lv_has ls 4 [(0, .ref (z + a0)), (1, .int x1), (2, .int x2), (3, .int x3)]) (h : f_X9_countAlike_j61 rc27 μ a0 x1 x2 x3 = some (r, μ')) : WG l D cA z wsX9_countAlike 5 113 av (some (.int r)) μ' p e s m below meth c H locs (F0 m 61 ls []) := by
  obtain ⟨hx, hb, hr, hlk, hml, hown, hts, hK⟩ := id X
  unfold f_X9_countAlike_j61 at h
  refine lv_iinc (v := x3 + (1 : Int32)) (lv' := [(3, .int (x3 + (1 : Int32))), (0, .ref (z + a0)), (1, .int x1), (2, .int x2)]) hx hb dX9_countAlike_61 hl (k := 3) rfl rfl (by decide) rfl (fun ls hl => ?_)
  refine lv_goto (tgt := 27) hx hb dX9_countAlike_64 (by decide) ?_
  exact hrc27 _ _ _ _ _ _ _ _ hk_a0 hd hS (lv_sub hl [1, 2, 3, 0] rfl) h
def f_X9_countAlike_L27b (rc27 : Mm → Nat → Int32 → Int32 → Int32 → Option (Int32 × Mm)) (μ : Mm) (a0 : Nat) (x1 : Int32) (x2 : Int32) (x3 : Int32) : Option (Int32 × Mm) := if x2 ≤ x3 then (some (x1, μ)) else (bR (μ.2 a0 9) (fun b2 => bR (μ.2 a0 1) (fun b3 => bV (f_X8_become μ b2 x3 (μ.1 b3 3)) (fun μ4 => bC (f_X9_fitsSeen μ4 a0) (fun r8 μ7 => if r8 = 0 then (f_X9_countAlike_j61 rc27 μ7 a0 x1 x2 x3) else (bV (f_X9_countRests μ7 a0) (fun μ11 => f_X9_countAlike_j61 rc27 μ11 a0 (x1 + (1 : Int32)) x2 x3)))))))
set_option maxRecDepth 100000 in
theorem k_f_X9_countAlike_L27b {l : Launch} {D : va_G} {cA : Nat → ClassId} {z : Nat} {av : List Value} {p : Program} {e : Env} {s : State} {m : MethodId} {below : List Frame} {meth : Method} {c : Code} {r : Int32} {μ' : Mm} (X : Fx D cA RX9 wsX9_countAlike cX9_countAlike 4 (some .int) p s m av.toArray meth c) {rc27 : Mm → Nat → Int32 → Int32 → Int32 → Option (Int32 × Mm)} (hrc27 : HL_X9_countAlike_27 l D cA z av r μ' p e s m below meth c rc27) {μ : Mm} {a0 : Nat} {x1 : Int32} {x2 : Int32} {x3 : Int32} (hk_a0 : kd a0 = 9) {H : Heap} {locs : List Loc} {ls : Array Slot} (hd : Wd D cA z μ H) (hS : va_S (Az z) s.heap H locs) (hl : lv_has ls 4 [(0, .ref (z + a0)), (1, .int x1), (2, .int x2), (3, .int x3)]) (h : f_X9_countAlike_L27b rc27 μ a0 x1 x2 x3 = some (r, μ')) : WG l D cA z wsX9_countAlike 5 113 av (some (.int r)) μ' p e s m below meth c H locs (F0 m 27 ls []) := by
  obtain ⟨hx, hb, hr, hlk, hml, hown, hts, hK⟩ := id X
  unfold f_X9_countAlike_L27b at h
  refine lv_iload_n hx hb dX9_countAlike_27 rfl (lv_at hl 3 rfl) ?_
  refine lv_iload_n hx hb dX9_countAlike_28 rfl (lv_at hl 2 rfl) ?_
  refine lv_icmp_ge (tgt := 67) hx hb dX9_countAlike_29 (by decide) (fun q1 => ?_) (fun q1 => ?_)
  · have h := if_y q1 h
    refine lv_iload_n hx hb dX9_countAlike_67 rfl (lv_at hl 1 rfl) ?_
    obtain ⟨rfl, rfl⟩ := so_e h
    exact rt_i hx hb hr hlk hd hS dX9_countAlike_68
  · have h := if_n q1 h
    refine lv_aload_n hx hb dX9_countAlike_32 rfl (lv_at hl 0 rfl) ?_
    obtain ⟨b2, hb2, h⟩ := bR_e h
    refine r_getr hx hb hts (fun w h => List.mem_cons_of_mem _ (List.mem_append_left _ (List.mem_append_left _ (List.mem_append_left _ (List.mem_append_left _ (List.mem_append_right _ (h))))))) hown hK hd hk_a0 hb2 rfl fs_9_9 (hts (.fieldLink RX9 67 "LevelVotes" "way" "LLevelVotes$Way;") (List.mem_of_getElem? (i := 2) rfl)) dX9_countAlike_33 (fun hq => ?_)
    have hk_b2 : kd b2 = 8 := hq
    refine lv_iload_n hx hb dX9_countAlike_36 rfl (lv_at hl 3 rfl) ?_
    refine lv_aload_n hx hb dX9_countAlike_37 rfl (lv_at hl 0 rfl) ?_
    obtain ⟨b3, hb3, h⟩ := bR_e h
    refine r_getr hx hb hts (fun w h => List.mem_cons_of_mem _ (List.mem_append_left _ (List.mem_append_left _ (List.mem_append_left _ (List.mem_append_left _ (List.mem_append_right _ (h))))))) hown hK hd hk_a0 hb3 rfl fs_9_1 (hts (.fieldLink RX9 19 "LevelVotes" "plan" "LLevelVotes$House;") (List.mem_of_getElem? (i := 3) rfl)) dX9_countAlike_38 (fun hq => ?_)
    have hk_b3 : kd b3 = 4 := hq
    refine r_geti hx hb hts (fun w h => List.mem_cons_of_mem _ (List.mem_append_left _ (List.mem_append_left _ (List.mem_append_left _ (List.mem_append_right _ (h)))))) hown hK hd hk_b3 rfl 3 fs_4_3 (hts (.fieldLink RX9 109 "LevelVotes$House" "items" "I") (List.mem_of_getElem? (i := 4) rfl)) dX9_countAlike_41 ?_
    obtain ⟨μ4, hc6, h⟩ := bV_e h
    refine rc_Vv (rest := []) [.int x3, .int (μ.1 b3 3)] ⟨hx, hb, hml, hown, hts⟩ hK hd hS (c_X8_become hk_b2 hc6) (cwV 2 hts gX9_countAlike_X8_become rfl rfl rfl hv_X8_become ⟨Nat.le_of_ble_eq_true rfl, Nat.le_of_ble_eq_true rfl⟩) hk_b2 rfl rfl rfl rfl hl.1 rfl (Nat.le_of_ble_eq_true rfl) dX9_countAlike_44 ⟨Nat.zero_le _, Nat.zero_le _⟩ (fun H locs hd hS => ?_)
    refine lv_aload_n hx hb dX9_countAlike_47 rfl (lv_at hl 0 rfl) ?_
    obtain ⟨r8, μ7, hc9, h⟩ := bC_e h
    refine rc_Vi (rest := []) [] ⟨hx, hb, hml, hown, hts⟩ hK hd hS (c_X9_fitsSeen hk_a0 hc9) (cwV 0 hts gX9_countAlike_X9_fitsSeen rfl rfl rfl hv_X9_fitsSeen ⟨Nat.le_of_ble_eq_true rfl, Nat.le_of_ble_eq_true rfl⟩) hk_a0 rfl rfl rfl rfl hl.1 rfl (Nat.le_of_ble_eq_true rfl) dX9_countAlike_48 ⟨Nat.zero_le _, Nat.zero_le _⟩ (fun H locs hd hS => ?_)
    refine lv_if_eq (tgt := 61) hx hb dX9_countAlike_51 (by decide) (fun q10 => ?_) (fun q10 => ?_)
    · have h := if_y q10 h
      exact k_f_X9_countAlike_j61 X hrc27 hk_a0 hd hS (lv_sub hl [0, 1, 2, 3] rfl) h
    · have h := if_n q10 h
      refine lv_iinc (v := x1 + (1 : Int32)) (lv' := [(1, .int (x1 + (1 : Int32))), (0, .ref (z + a0)), (2, .int x2), (3, .int x3)]) hx hb dX9_countAlike_54 hl (k := 1) rfl rfl (by decide) rfl (fun ls hl => ?_)
      refine lv_aload_n hx hb dX9_countAlike_57 rfl (lv_at hl 1 rfl) ?_
      obtain ⟨μ11, hc13, h⟩ := bV_e h
      refine rc_Vv (rest := []) [] ⟨hx, hb, hml, hown, hts⟩ hK hd hS (c_X9_countRests hk_a0 hc13) (cwV 0 hts gX9_countAlike_X9_countRests rfl rfl rfl hv_X9_countRests ⟨Nat.le_of_ble_eq_true rfl, Nat.le_of_ble_eq_true rfl⟩) hk_a0 rfl rfl rfl rfl hl.1 rfl (Nat.le_of_ble_eq_true rfl) dX9_countAlike_58 ⟨Nat.zero_le _, Nat.zero_le _⟩ (fun H locs hd hS => ?_)
      exact k_f_X9_countAlike_j61 X hrc27 hk_a0 hd hS (lv_sub hl [1, 0, 2, 3] rfl) h
def f_X9_countAlike_L27 : Nat → Mm → Nat → Int32 → Int32 → Int32 → Option (Int32 × Mm)
  | 0 => fun _ _ _ _ _ => none
  | n + 1 => fun μ a0 x1 x2 x3 => f_X9_countAlike_L27b (f_X9_countAlike_L27 n) μ a0 x1 x2 x3
theorem k_f_X9_countAlike_L27 {l : Launch} {D : va_G} {cA : Nat → ClassId} {z : Nat} {av : List Value} {p : Program} {e : Env} {s : State} {m : MethodId} {below : List Frame} {meth : Method} {c : Code} {r : Int32} {μ' : Mm} (X : Fx D cA RX9 wsX9_countAlike cX9_countAlike 4 (some .int) p s m av.toArray meth c) (n : Nat) : HL_X9_countAlike_27 l D cA z av r μ' p e s m below meth c (f_X9_countAlike_L27 n) := by
  induction n with
  | zero => intro _ _ _ _ _ _ _ _ _ _ _ _ h; have h2 : (none : Option _) = some _ := h; cases h2
  | succ n ih => intro μ H locs ls a0 x1 x2 x3 hk_a0 hd hS hl h; exact k_f_X9_countAlike_L27b X ih hk_a0 hd hS hl h
def f_X9_countAlike (μ : Mm) (a0 : Nat) : Option (Int32 × Mm) := bR (μ.2 a0 12) (fun b1 => bV (f_J7_fill_53178 μ b1 (0 : Int32)) (fun μ2 => bR (μ2.2 a0 9) (fun b5 => bR (μ2.2 a0 1) (fun b6 => bC (f_X8_countFor μ2 b5 (μ2.1 b6 3)) (fun r8 μ7 => f_X9_countAlike_L27 FU μ7 a0 (0 : Int32) r8 (0 : Int32))))))
set_option maxRecDepth 100000 in
theorem c_X9_countAlike {l : Launch} {D : va_G} {cA : Nat → ClassId} {z : Nat} {μ : Mm} {a0 : Nat} {r : Int32} {μ' : Mm} (hk_a0 : kd a0 = 9) (h : f_X9_countAlike μ a0 = some (r, μ')) : Ct l D cA z yX9_countAlike wsX9_countAlike 5 113 [.ref (z + a0)] μ (some (.int r)) μ' := by
  refine m_in (cc := cX9_countAlike) (maxL := 4) (ret := (some .int)) (own := RX9) (by decide) rfl rfl (Nat.le_of_ble_eq_true rfl) ?_
  intro p e s m below meth c ls X hd hS hl
  obtain ⟨hx, hb, hr, hlk, hml, hown, hts, hK⟩ := id X
  have hl : lv_has ls 4 [(0, .ref (z + a0))] := hl
  unfold f_X9_countAlike at h
  refine lv_aload_n hx hb dX9_countAlike_0 rfl (lv_at hl 0 rfl) ?_
  obtain ⟨b1, hb1, h⟩ := bR_e h
  refine r_getr hx hb hts (fun w h => List.mem_cons_of_mem _ (List.mem_append_left _ (List.mem_append_left _ (List.mem_append_left _ (List.mem_append_left _ (List.mem_append_right _ (h))))))) hown hK hd hk_a0 hb1 rfl fs_9_12 (hts (.fieldLink RX9 82 "LevelVotes" "alike" "[I") (List.mem_of_getElem? (i := 1) rfl)) dX9_countAlike_1 (fun hq => ?_)
  have hk_b1 : kd b1 = 11 := hq
  refine lv_iconst (v := 0) hx hb dX9_countAlike_4 (by decide) ?_
  obtain ⟨μ2, hc4, h⟩ := bV_e h
  refine rc_Sv (rest := []) [.ref (z + b1), .int (0 : Int32)] ⟨hx, hb, hml, hown, hts⟩ hK hd hS (c_J7_fill_53178 hk_b1 hc4) (va_cwS 2 hts gX9_countAlike_J7_fill_53178 rfl rfl rfl hn_J7_fill_53178 ⟨Nat.le_of_ble_eq_true rfl, Nat.le_of_ble_eq_true rfl⟩) rfl hl.1 rfl (Nat.le_of_ble_eq_true rfl) dX9_countAlike_5 ⟨Nat.zero_le _, Nat.zero_le _⟩ (fun H locs hd hS => ?_)
  refine lv_iconst (v := 0) hx hb dX9_countAlike_8 (by decide) ?_
  refine lv_istore_n (lv' := [(1, .int (0 : Int32)), (0, .ref (z + a0))]) hx hb dX9_countAlike_9 rfl hl (by decide) rfl (fun ls hl => ?_)
  refine lv_aload_n hx hb dX9_countAlike_10 rfl (lv_at hl 1 rfl) ?_
  obtain ⟨b5, hb5, h⟩ := bR_e h
  refine r_getr hx hb hts (fun w h => List.mem_cons_of_mem _ (List.mem_append_left _ (List.mem_append_left _ (List.mem_append_left _ (List.mem_append_left _ (List.mem_append_right _ (h))))))) hown hK hd hk_a0 hb5 rfl fs_9_9 (hts (.fieldLink RX9 67 "LevelVotes" "way" "LLevelVotes$Way;") (List.mem_of_getElem? (i := 2) rfl)) dX9_countAlike_11 (fun hq => ?_)
  have hk_b5 : kd b5 = 8 := hq
  refine lv_aload_n hx hb dX9_countAlike_14 rfl (lv_at hl 1 rfl) ?_
  obtain ⟨b6, hb6, h⟩ := bR_e h
  refine r_getr hx hb hts (fun w h => List.mem_cons_of_mem _ (List.mem_append_left _ (List.mem_append_left _ (List.mem_append_left _ (List.mem_append_left _ (List.mem_append_right _ (h))))))) hown hK hd hk_a0 hb6 rfl fs_9_1 (hts (.fieldLink RX9 19 "LevelVotes" "plan" "LLevelVotes$House;") (List.mem_of_getElem? (i := 3) rfl)) dX9_countAlike_15 (fun hq => ?_)
  have hk_b6 : kd b6 = 4 := hq
  refine r_geti hx hb hts (fun w h => List.mem_cons_of_mem _ (List.mem_append_left _ (List.mem_append_left _ (List.mem_append_left _ (List.mem_append_right _ (h)))))) hown hK hd hk_b6 rfl 3 fs_4_3 (hts (.fieldLink RX9 109 "LevelVotes$House" "items" "I") (List.mem_of_getElem? (i := 4) rfl)) dX9_countAlike_18 ?_
  obtain ⟨r8, μ7, hc9, h⟩ := bC_e h
  refine rc_Vi (rest := []) [.int (μ2.1 b6 3)] ⟨hx, hb, hml, hown, hts⟩ hK hd hS (c_X8_countFor hk_b5 hc9) (cwV 1 hts gX9_countAlike_X8_countFor rfl rfl rfl hv_X8_countFor ⟨Nat.le_of_ble_eq_true rfl, Nat.le_of_ble_eq_true rfl⟩) hk_b5 rfl rfl rfl rfl hl.1 rfl (Nat.le_of_ble_eq_true rfl) dX9_countAlike_21 ⟨Nat.zero_le _, Nat.zero_le _⟩ (fun H locs hd hS => ?_)
  refine lv_istore_n (lv' := [(2, .int r8), (1, .int (0 : Int32)), (0, .ref (z + a0))]) hx hb dX9_countAlike_24 rfl hl (by decide) rfl (fun ls hl => ?_)
  refine lv_iconst (v := 0) hx hb dX9_countAlike_25 (by decide) ?_
  refine lv_istore_n (lv' := [(3, .int (0 : Int32)), (2, .int r8), (1, .int (0 : Int32)), (0, .ref (z + a0))]) hx hb dX9_countAlike_26 rfl hl (by decide) rfl (fun ls hl => ?_)
  exact k_f_X9_countAlike_L27 X FU _ _ _ _ _ _ _ _ hk_a0 hd hS (lv_sub hl [3, 2, 1, 0] rfl) h
theorem hv_X9_greatestPart : yX9_greatestPart.cls = RX9 ∧ yX9_greatestPart.cls ≠ "java/lang/invoke/MethodHandle" ∧ yX9_greatestPart.cls ≠ "java/lang/invoke/VarHandle" ∧ (parseMethodDescriptor yX9_greatestPart.desc).map (fun d => d.parameters.length) = some 1 := by decide +kernel
abbrev HL_X9_greatestPart_4 (l : Launch) (D : va_G) (cA : Nat → ClassId) (z : Nat) (av : List Value) (r : Int32) (μ' : Mm) (p : Program) (e : Env) (s : State) (m : MethodId) (below : List Frame) (meth : Method) (c : Code) (rc : Mm → Nat → Int32 → Int32 → Int32 → Option (Int32 × Mm)) : Prop := ∀ (μ : Mm) (H : Heap) (locs : List Loc) (ls : Array Slot) (a0 : Nat) (x1 : Int32) (x2 : Int32) (x3 : Int32), kd a0 = 9 → Wd D cA z μ H → va_S (Az z) s.heap H locs → lv_has ls 5 [(0, .ref (z + a0)), (1, .int x1), (2, .int x2), (3, .int x3)] → rc μ a0 x1 x2 x3 = some (r, μ') → WG l D cA z wsX9_greatestPart 1 24 av (some (.int r)) μ' p e s m below meth c H locs (F0 m 4 ls [])
def f_X9_greatestPart_j50 (rc4 : Mm → Nat → Int32 → Int32 → Int32 → Option (Int32 × Mm)) (μ : Mm) (a0 : Nat) (x1 : Int32) (x2 : Int32) (x3 : Int32) : Option (Int32 × Mm) := rc4 μ a0 x1 x2 (x3 + (1 : Int32))
set_option maxRecDepth 100000 in
theorem k_f_X9_greatestPart_j50 {l : Launch} {D : va_G} {cA : Nat → ClassId} {z : Nat} {av : List Value} {p : Program} {e : Env} {s : State} {m : MethodId} {below : List Frame} {meth : Method} {c : Code} {r : Int32} {μ' : Mm} (X : Fx D cA RX9 wsX9_greatestPart cX9_greatestPart 5 (some .int) p s m av.toArray meth c) {rc4 : Mm → Nat → Int32 → Int32 → Int32 → Option (Int32 × Mm)} (hrc4 : HL_X9_greatestPart_4 l D cA z av r μ' p e s m below meth c rc4) {μ : Mm} {a0 : Nat} {x1 : Int32} {x2 : Int32} {x3 : Int32} (hk_a0 : kd a0 = 9) {H : Heap} {locs : List Loc} {ls : Array Slot} (hd : Wd D cA z μ H) (hS : va_S (Az z) s.heap H locs) (hl : lv_has ls 5 [(0, .ref (z + a0)), (1, .int x1), (2, .int x2), (3, .int x3)]) (h : f_X9_greatestPart_j50 rc4 μ a0 x1 x2 x3 = some (r, μ')) : WG l D cA z wsX9_greatestPart 1 24 av (some (.int r)) μ' p e s m below meth c H locs (F0 m 50 ls []) := by
  obtain ⟨hx, hb, hr, hlk, hml, hown, hts, hK⟩ := id X
  unfold f_X9_greatestPart_j50 at h
  refine lv_iinc (v := x3 + (1 : Int32)) (lv' := [(3, .int (x3 + (1 : Int32))), (0, .ref (z + a0)), (1, .int x1), (2, .int x2)]) hx hb dX9_greatestPart_50 hl (k := 3) rfl rfl (by decide) rfl (fun ls hl => ?_)
  refine lv_goto (tgt := 4) hx hb dX9_greatestPart_53 (by decide) ?_
  exact hrc4 _ _ _ _ _ _ _ _ hk_a0 hd hS (lv_sub hl [1, 2, 3, 0] rfl) h
def f_X9_greatestPart_L4b (rc4 : Mm → Nat → Int32 → Int32 → Int32 → Option (Int32 × Mm)) (μ : Mm) (a0 : Nat) (x1 : Int32) (x2 : Int32) (x3 : Int32) : Option (Int32 × Mm) := bR (μ.2 a0 1) (fun b1 => if (μ.1 b1 2) ≤ x3 then (some (x2, μ)) else (bI ((x1 * (20 : Int32)) + x3) (fun v3 => if v3 < 0 then (f_X9_greatestPart_j50 rc4 μ a0 x1 x2 x3) else (bR (μ.2 a0 12) (fun b5 => if (Int32.ofNat (ln b5)) ≤ v3 then (f_X9_greatestPart_j50 rc4 μ a0 x1 x2 x3) else (bR (μ.2 a0 12) (fun b7 => gd (ckb v3 (ln b7)) (bI (if x2 < (μ.1 b7 (v3).toNatClampNeg) then (μ.1 b7 (v3).toNatClampNeg) else x2) (fun v9 => f_X9_greatestPart_j50 rc4 μ a0 x1 v9 x3)))))))))
set_option maxRecDepth 100000 in
theorem k_f_X9_greatestPart_L4b {l : Launch} {D : va_G} {cA : Nat → ClassId} {z : Nat} {av : List Value} {p : Program} {e : Env} {s : State} {m : MethodId} {below : List Frame} {meth : Method} {c : Code} {r : Int32} {μ' : Mm} (X : Fx D cA RX9 wsX9_greatestPart cX9_greatestPart 5 (some .int) p s m av.toArray meth c) {rc4 : Mm → Nat → Int32 → Int32 → Int32 → Option (Int32 × Mm)} (hrc4 : HL_X9_greatestPart_4 l D cA z av r μ' p e s m below meth c rc4) {μ : Mm} {a0 : Nat} {x1 : Int32} {x2 : Int32} {x3 : Int32} (hk_a0 : kd a0 = 9) {H : Heap} {locs : List Loc} {ls : Array Slot} (hd : Wd D cA z μ H) (hS : va_S (Az z) s.heap H locs) (hl : lv_has ls 5 [(0, .ref (z + a0)), (1, .int x1), (2, .int x2), (3, .int x3)]) (h : f_X9_greatestPart_L4b rc4 μ a0 x1 x2 x3 = some (r, μ')) : WG l D cA z wsX9_greatestPart 1 24 av (some (.int r)) μ' p e s m below meth c H locs (F0 m 4 ls []) := by
  obtain ⟨hx, hb, hr, hlk, hml, hown, hts, hK⟩ := id X
  unfold f_X9_greatestPart_L4b at h
  refine lv_iload_n hx hb dX9_greatestPart_4 rfl (lv_at hl 3 rfl) ?_
  refine lv_aload_n hx hb dX9_greatestPart_5 rfl (lv_at hl 0 rfl) ?_
  obtain ⟨b1, hb1, h⟩ := bR_e h
  refine r_getr hx hb hts (fun w h => List.mem_cons_of_mem _ (List.mem_append_left _ (List.mem_append_right _ (h)))) hown hK hd hk_a0 hb1 rfl fs_9_1 (hts (.fieldLink RX9 19 "LevelVotes" "plan" "LLevelVotes$House;") (List.mem_of_getElem? (i := 1) rfl)) dX9_greatestPart_6 (fun hq => ?_)
  have hk_b1 : kd b1 = 4 := hq
  refine r_geti hx hb hts (fun w h => List.mem_cons_of_mem _ (List.mem_append_right _ (h))) hown hK hd hk_b1 rfl 2 fs_4_2 (hts (.fieldLink RX9 222 "LevelVotes$House" "cells" "I") (List.mem_of_getElem? (i := 2) rfl)) dX9_greatestPart_9 ?_
  refine lv_icmp_ge (tgt := 56) hx hb dX9_greatestPart_12 (by decide) (fun q2 => ?_) (fun q2 => ?_)
  · have h := if_y q2 h
    refine lv_iload_n hx hb dX9_greatestPart_56 rfl (lv_at hl 2 rfl) ?_
    obtain ⟨rfl, rfl⟩ := so_e h
    exact rt_i hx hb hr hlk hd hS dX9_greatestPart_57
  · have h := if_n q2 h
    refine lv_iload_n hx hb dX9_greatestPart_15 rfl (lv_at hl 1 rfl) ?_
    refine lv_bipush (v := 20) hx hb dX9_greatestPart_16 (by decide) ?_
    refine lv_imul hx hb dX9_greatestPart_18 ?_
    refine lv_iload_n hx hb dX9_greatestPart_19 rfl (lv_at hl 3 rfl) ?_
    refine lv_iadd hx hb dX9_greatestPart_20 ?_
    refine lv_topi (fun v3 ev3 => ?_)
    have h := bI_e ev3 h
    refine lv_istore (lv' := [(4, .int v3), (0, .ref (z + a0)), (1, .int x1), (2, .int x2), (3, .int x3)]) hx hb dX9_greatestPart_21 hl (by decide) rfl (fun ls hl => ?_)
    refine lv_iload hx hb dX9_greatestPart_23 (lv_at hl 0 rfl) ?_
    refine lv_if_lt (tgt := 50) hx hb dX9_greatestPart_25 (by decide) (fun q4 => ?_) (fun q4 => ?_)
    · have h := if_y q4 h
      exact k_f_X9_greatestPart_j50 X hrc4 hk_a0 hd hS (lv_sub hl [1, 2, 3, 4] rfl) h
    · have h := if_n q4 h
      refine lv_iload hx hb dX9_greatestPart_28 (lv_at hl 0 rfl) ?_
      refine lv_aload_n hx hb dX9_greatestPart_30 rfl (lv_at hl 1 rfl) ?_
      obtain ⟨b5, hb5, h⟩ := bR_e h
      refine r_getr hx hb hts (fun w h => List.mem_cons_of_mem _ (List.mem_append_left _ (List.mem_append_right _ (h)))) hown hK hd hk_a0 hb5 rfl fs_9_12 (hts (.fieldLink RX9 82 "LevelVotes" "alike" "[I") (List.mem_of_getElem? (i := 3) rfl)) dX9_greatestPart_31 (fun hq => ?_)
      have hk_b5 : kd b5 = 11 := hq
      refine r_alen hx hb hK hd hk_b5 rfl dX9_greatestPart_34 ?_
      refine lv_icmp_ge (tgt := 50) hx hb dX9_greatestPart_35 (by decide) (fun q6 => ?_) (fun q6 => ?_)
      · have h := if_y q6 h
        exact k_f_X9_greatestPart_j50 X hrc4 hk_a0 hd hS (lv_sub hl [1, 2, 3, 4] rfl) h
      · have h := if_n q6 h
        refine lv_iload_n hx hb dX9_greatestPart_38 rfl (lv_at hl 3 rfl) ?_
        refine lv_aload_n hx hb dX9_greatestPart_39 rfl (lv_at hl 1 rfl) ?_
        obtain ⟨b7, hb7, h⟩ := bR_e h
        refine r_getr hx hb hts (fun w h => List.mem_cons_of_mem _ (List.mem_append_left _ (List.mem_append_right _ (h)))) hown hK hd hk_a0 hb7 rfl fs_9_12 (hts (.fieldLink RX9 82 "LevelVotes" "alike" "[I") (List.mem_of_getElem? (i := 3) rfl)) dX9_greatestPart_40 (fun hq => ?_)
        have hk_b7 : kd b7 = 11 := hq
        refine lv_iload hx hb dX9_greatestPart_43 (lv_at hl 0 rfl) ?_
        obtain ⟨g8, h⟩ := gd_e h
        refine r_iald hx hb hK hd hk_b7 (ckb_in g8) dX9_greatestPart_45 ?_
        refine va_mmax hx hb (hml.trans hl.1.symm) hown (hts (.methodLink RX9 336 Lib.Math.max.name) (List.mem_of_getElem? (i := 4) rfl)) (hts (.static Lib.Math.max.name) (List.mem_of_getElem? (i := 5) rfl)) (hts (.initialized "java/lang/Math") (List.mem_of_getElem? (i := 6) rfl)) (hts (.code Lib.Math.max.name Lib.Math.max.code 2 (some .int)) (List.mem_of_getElem? (i := 7) rfl)) (Nat.le_of_ble_eq_true rfl) (Nat.le_of_ble_eq_true rfl) (Nat.zero_le _) (Nat.zero_le _) dX9_greatestPart_46 ?_
        refine lv_topi (fun v9 ev9 => ?_)
        have h := bI_e ev9 h
        refine lv_istore_n (lv' := [(2, .int v9), (4, .int v3), (0, .ref (z + a0)), (1, .int x1), (3, .int x3)]) hx hb dX9_greatestPart_49 rfl hl (by decide) rfl (fun ls hl => ?_)
        exact k_f_X9_greatestPart_j50 X hrc4 hk_a0 hd hS (lv_sub hl [2, 3, 0, 4] rfl) h
def f_X9_greatestPart_L4 : Nat → Mm → Nat → Int32 → Int32 → Int32 → Option (Int32 × Mm)
  | 0 => fun _ _ _ _ _ => none
  | n + 1 => fun μ a0 x1 x2 x3 => f_X9_greatestPart_L4b (f_X9_greatestPart_L4 n) μ a0 x1 x2 x3
theorem k_f_X9_greatestPart_L4 {l : Launch} {D : va_G} {cA : Nat → ClassId} {z : Nat} {av : List Value} {p : Program} {e : Env} {s : State} {m : MethodId} {below : List Frame} {meth : Method} {c : Code} {r : Int32} {μ' : Mm} (X : Fx D cA RX9 wsX9_greatestPart cX9_greatestPart 5 (some .int) p s m av.toArray meth c) (n : Nat) : HL_X9_greatestPart_4 l D cA z av r μ' p e s m below meth c (f_X9_greatestPart_L4 n) := by
  induction n with
  | zero => intro _ _ _ _ _ _ _ _ _ _ _ _ h; have h2 : (none : Option _) = some _ := h; cases h2
  | succ n ih => intro μ H locs ls a0 x1 x2 x3 hk_a0 hd hS hl h; exact k_f_X9_greatestPart_L4b X ih hk_a0 hd hS hl h
def f_X9_greatestPart (μ : Mm) (a0 : Nat) (x1 : Int32) : Option (Int32 × Mm) := f_X9_greatestPart_L4 FU μ a0 x1 (0 : Int32) (0 : Int32)
set_option maxRecDepth 100000 in
theorem c_X9_greatestPart {l : Launch} {D : va_G} {cA : Nat → ClassId} {z : Nat} {μ : Mm} {a0 : Nat} {x1 : Int32} {r : Int32} {μ' : Mm} (hk_a0 : kd a0 = 9) (h : f_X9_greatestPart μ a0 x1 = some (r, μ')) : Ct l D cA z yX9_greatestPart wsX9_greatestPart 1 24 [.ref (z + a0), .int x1] μ (some (.int r)) μ' := by
  refine m_in (cc := cX9_greatestPart) (maxL := 5) (ret := (some .int)) (own := RX9) (by decide) rfl rfl (Nat.le_of_ble_eq_true rfl) ?_
  intro p e s m below meth c ls X hd hS hl
  obtain ⟨hx, hb, hr, hlk, hml, hown, hts, hK⟩ := id X
  have hl : lv_has ls 5 [(0, .ref (z + a0)), (1, .int x1)] := hl
  unfold f_X9_greatestPart at h
  refine lv_iconst (v := 0) hx hb dX9_greatestPart_0 (by decide) ?_
  refine lv_istore_n (lv' := [(2, .int (0 : Int32)), (0, .ref (z + a0)), (1, .int x1)]) hx hb dX9_greatestPart_1 rfl hl (by decide) rfl (fun ls hl => ?_)
  refine lv_iconst (v := 0) hx hb dX9_greatestPart_2 (by decide) ?_
  refine lv_istore_n (lv' := [(3, .int (0 : Int32)), (2, .int (0 : Int32)), (0, .ref (z + a0)), (1, .int x1)]) hx hb dX9_greatestPart_3 rfl hl (by decide) rfl (fun ls hl => ?_)
  exact k_f_X9_greatestPart_L4 X FU _ _ _ _ _ _ _ _ hk_a0 hd hS (lv_sub hl [2, 3, 1, 0] rfl) h
theorem hv_X9_look : yX9_look.cls = RX9 ∧ yX9_look.cls ≠ "java/lang/invoke/MethodHandle" ∧ yX9_look.cls ≠ "java/lang/invoke/VarHandle" ∧ (parseMethodDescriptor yX9_look.desc).map (fun d => d.parameters.length) = some 0 := by decide +kernel
abbrev HL_X9_look_12 (l : Launch) (D : va_G) (cA : Nat → ClassId) (z : Nat) (av : List Value) (r : Int32) (μ' : Mm) (p : Program) (e : Env) (s : State) (m : MethodId) (below : List Frame) (meth : Method) (c : Code) (rc : Mm → Nat → Int32 → Int32 → Int32 → Option (Int32 × Mm)) : Prop := ∀ (μ : Mm) (H : Heap) (locs : List Loc) (ls : Array Slot) (a0 : Nat) (x2 : Int32) (x3 : Int32) (x4 : Int32), kd a0 = 9 → Wd D cA z μ H → va_S (Az z) s.heap H locs → lv_has ls 6 [(0, .ref (z + a0)), (2, .int x2), (3, .int x3), (4, .int x4)] → rc μ a0 x2 x3 x4 = some (r, μ') → WG l D cA z wsX9_look 6 136 av (some (.int r)) μ' p e s m below meth c H locs (F0 m 12 ls [])
def f_X9_look_j44 (rc12 : Mm → Nat → Int32 → Int32 → Int32 → Option (Int32 × Mm)) (μ : Mm) (a0 : Nat) (x2 : Int32) (x3 : Int32) (x4 : Int32) : Option (Int32 × Mm) := rc12 μ a0 x2 x3 (x4 + (1 : Int32))
set_option maxRecDepth 100000 in
theorem k_f_X9_look_j44 {l : Launch} {D : va_G} {cA : Nat → ClassId} {z : Nat} {av : List Value} {p : Program} {e : Env} {s : State} {m : MethodId} {below : List Frame} {meth : Method} {c : Code} {r : Int32} {μ' : Mm} (X : Fx D cA RX9 wsX9_look cX9_look 6 (some .int) p s m av.toArray meth c) {rc12 : Mm → Nat → Int32 → Int32 → Int32 → Option (Int32 × Mm)} (hrc12 : HL_X9_look_12 l D cA z av r μ' p e s m below meth c rc12) {μ : Mm} {a0 : Nat} {x2 : Int32} {x3 : Int32} {x4 : Int32} (hk_a0 : kd a0 = 9) {H : Heap} {locs : List Loc} {ls : Array Slot} (hd : Wd D cA z μ H) (hS : va_S (Az z) s.heap H locs) (hl : lv_has ls 6 [(0, .ref (z + a0)), (2, .int x2), (3, .int x3), (4, .int x4)]) (h : f_X9_look_j44 rc12 μ a0 x2 x3 x4 = some (r, μ')) : WG l D cA z wsX9_look 6 136 av (some (.int r)) μ' p e s m below meth c H locs (F0 m 44 ls []) := by
  obtain ⟨hx, hb, hr, hlk, hml, hown, hts, hK⟩ := id X
  unfold f_X9_look_j44 at h
  refine lv_iinc (v := x4 + (1 : Int32)) (lv' := [(4, .int (x4 + (1 : Int32))), (0, .ref (z + a0)), (2, .int x2), (3, .int x3)]) hx hb dX9_look_44 hl (k := 3) rfl rfl (by decide) rfl (fun ls hl => ?_)
  refine lv_goto (tgt := 12) hx hb dX9_look_47 (by decide) ?_
  exact hrc12 _ _ _ _ _ _ _ _ hk_a0 hd hS (lv_sub hl [1, 2, 3, 0] rfl) h
def f_X9_look_L12b (rc12 : Mm → Nat → Int32 → Int32 → Int32 → Option (Int32 × Mm)) (μ : Mm) (a0 : Nat) (x2 : Int32) (x3 : Int32) (x4 : Int32) : Option (Int32 × Mm) := bR (μ.2 a0 1) (fun b1 => if (μ.1 b1 2) ≤ x4 then (some (x2, μ)) else (bC (f_X9_greatestPart μ a0 x4) (fun r4 μ3 => if x3 ≤ r4 then (f_X9_look_j44 rc12 μ3 a0 x2 x3 x4) else (f_X9_look_j44 rc12 μ3 a0 x4 r4 x4))))
set_option maxRecDepth 100000 in
theorem k_f_X9_look_L12b {l : Launch} {D : va_G} {cA : Nat → ClassId} {z : Nat} {av : List Value} {p : Program} {e : Env} {s : State} {m : MethodId} {below : List Frame} {meth : Method} {c : Code} {r : Int32} {μ' : Mm} (X : Fx D cA RX9 wsX9_look cX9_look 6 (some .int) p s m av.toArray meth c) {rc12 : Mm → Nat → Int32 → Int32 → Int32 → Option (Int32 × Mm)} (hrc12 : HL_X9_look_12 l D cA z av r μ' p e s m below meth c rc12) {μ : Mm} {a0 : Nat} {x2 : Int32} {x3 : Int32} {x4 : Int32} (hk_a0 : kd a0 = 9) {H : Heap} {locs : List Loc} {ls : Array Slot} (hd : Wd D cA z μ H) (hS : va_S (Az z) s.heap H locs) (hl : lv_has ls 6 [(0, .ref (z + a0)), (2, .int x2), (3, .int x3), (4, .int x4)]) (h : f_X9_look_L12b rc12 μ a0 x2 x3 x4 = some (r, μ')) : WG l D cA z wsX9_look 6 136 av (some (.int r)) μ' p e s m below meth c H locs (F0 m 12 ls []) := by
  obtain ⟨hx, hb, hr, hlk, hml, hown, hts, hK⟩ := id X
  unfold f_X9_look_L12b at h
  refine lv_iload hx hb dX9_look_12 (lv_at hl 3 rfl) ?_
  refine lv_aload_n hx hb dX9_look_14 rfl (lv_at hl 0 rfl) ?_
  obtain ⟨b1, hb1, h⟩ := bR_e h
  refine r_getr hx hb hts (fun w h => List.mem_cons_of_mem _ (List.mem_append_left _ (List.mem_append_left _ (List.mem_append_left _ (List.mem_append_left _ (List.mem_append_right _ (h))))))) hown hK hd hk_a0 hb1 rfl fs_9_1 (hts (.fieldLink RX9 19 "LevelVotes" "plan" "LLevelVotes$House;") (List.mem_of_getElem? (i := 1) rfl)) dX9_look_15 (fun hq => ?_)
  have hk_b1 : kd b1 = 4 := hq
  refine r_geti hx hb hts (fun w h => List.mem_cons_of_mem _ (List.mem_append_left _ (List.mem_append_left _ (List.mem_append_left _ (List.mem_append_right _ (h)))))) hown hK hd hk_b1 rfl 2 fs_4_2 (hts (.fieldLink RX9 222 "LevelVotes$House" "cells" "I") (List.mem_of_getElem? (i := 2) rfl)) dX9_look_18 ?_
  refine lv_icmp_ge (tgt := 50) hx hb dX9_look_21 (by decide) (fun q2 => ?_) (fun q2 => ?_)
  · have h := if_y q2 h
    refine lv_iload_n hx hb dX9_look_50 rfl (lv_at hl 1 rfl) ?_
    obtain ⟨rfl, rfl⟩ := so_e h
    exact rt_i hx hb hr hlk hd hS dX9_look_51
  · have h := if_n q2 h
    refine lv_aload_n hx hb dX9_look_24 rfl (lv_at hl 0 rfl) ?_
    refine lv_iload hx hb dX9_look_25 (lv_at hl 3 rfl) ?_
    obtain ⟨r4, μ3, hc5, h⟩ := bC_e h
    refine rc_Vi (rest := []) [.int x4] ⟨hx, hb, hml, hown, hts⟩ hK hd hS (c_X9_greatestPart hk_a0 hc5) (cwV 1 hts gX9_look_X9_greatestPart rfl rfl rfl hv_X9_greatestPart ⟨Nat.le_of_ble_eq_true rfl, Nat.le_of_ble_eq_true rfl⟩) hk_a0 rfl rfl rfl rfl hl.1 rfl (Nat.le_of_ble_eq_true rfl) dX9_look_27 ⟨Nat.zero_le _, Nat.zero_le _⟩ (fun H locs hd hS => ?_)
    refine lv_istore (lv' := [(5, .int r4), (0, .ref (z + a0)), (2, .int x2), (3, .int x3), (4, .int x4)]) hx hb dX9_look_30 hl (by decide) rfl (fun ls hl => ?_)
    refine lv_iload hx hb dX9_look_32 (lv_at hl 0 rfl) ?_
    refine lv_iload_n hx hb dX9_look_34 rfl (lv_at hl 3 rfl) ?_
    refine lv_icmp_ge (tgt := 44) hx hb dX9_look_35 (by decide) (fun q6 => ?_) (fun q6 => ?_)
    · have h := if_y q6 h
      exact k_f_X9_look_j44 X hrc12 hk_a0 hd hS (lv_sub hl [1, 2, 3, 4] rfl) h
    · have h := if_n q6 h
      refine lv_iload hx hb dX9_look_38 (lv_at hl 0 rfl) ?_
      refine lv_istore_n (lv' := [(3, .int r4), (5, .int r4), (0, .ref (z + a0)), (2, .int x2), (4, .int x4)]) hx hb dX9_look_40 rfl hl (by decide) rfl (fun ls hl => ?_)
      refine lv_iload hx hb dX9_look_41 (lv_at hl 4 rfl) ?_
      refine lv_istore_n (lv' := [(2, .int x4), (3, .int r4), (5, .int r4), (0, .ref (z + a0)), (4, .int x4)]) hx hb dX9_look_43 rfl hl (by decide) rfl (fun ls hl => ?_)
      exact k_f_X9_look_j44 X hrc12 hk_a0 hd hS (lv_sub hl [3, 0, 1, 4] rfl) h
def f_X9_look_L12 : Nat → Mm → Nat → Int32 → Int32 → Int32 → Option (Int32 × Mm)
  | 0 => fun _ _ _ _ _ => none
  | n + 1 => fun μ a0 x2 x3 x4 => f_X9_look_L12b (f_X9_look_L12 n) μ a0 x2 x3 x4
theorem k_f_X9_look_L12 {l : Launch} {D : va_G} {cA : Nat → ClassId} {z : Nat} {av : List Value} {p : Program} {e : Env} {s : State} {m : MethodId} {below : List Frame} {meth : Method} {c : Code} {r : Int32} {μ' : Mm} (X : Fx D cA RX9 wsX9_look cX9_look 6 (some .int) p s m av.toArray meth c) (n : Nat) : HL_X9_look_12 l D cA z av r μ' p e s m below meth c (f_X9_look_L12 n) := by
  induction n with
  | zero => intro _ _ _ _ _ _ _ _ _ _ _ _ h; have h2 : (none : Option _) = some _ := h; cases h2
  | succ n ih => intro μ H locs ls a0 x2 x3 x4 hk_a0 hd hS hl h; exact k_f_X9_look_L12b X ih hk_a0 hd hS hl h
def f_X9_look (μ : Mm) (a0 : Nat) : Option (Int32 × Mm) := bC (f_X9_countAlike μ a0) (fun r2 μ1 => f_X9_look_L12 FU μ1 a0 (-1 : Int32) r2 (0 : Int32))
set_option maxRecDepth 100000 in
theorem c_X9_look {l : Launch} {D : va_G} {cA : Nat → ClassId} {z : Nat} {μ : Mm} {a0 : Nat} {r : Int32} {μ' : Mm} (hk_a0 : kd a0 = 9) (h : f_X9_look μ a0 = some (r, μ')) : Ct l D cA z yX9_look wsX9_look 6 136 [.ref (z + a0)] μ (some (.int r)) μ' := by
  refine m_in (cc := cX9_look) (maxL := 6) (ret := (some .int)) (own := RX9) (by decide) rfl rfl (Nat.le_of_ble_eq_true rfl) ?_
  intro p e s m below meth c ls X hd hS hl
  obtain ⟨hx, hb, hr, hlk, hml, hown, hts, hK⟩ := id X
  have hl : lv_has ls 6 [(0, .ref (z + a0))] := hl
  unfold f_X9_look at h
  refine lv_aload_n hx hb dX9_look_0 rfl (lv_at hl 0 rfl) ?_
  obtain ⟨r2, μ1, hc3, h⟩ := bC_e h
  refine rc_Vi (rest := []) [] ⟨hx, hb, hml, hown, hts⟩ hK hd hS (c_X9_countAlike hk_a0 hc3) (cwV 0 hts gX9_look_X9_countAlike rfl rfl rfl hv_X9_countAlike ⟨Nat.le_of_ble_eq_true rfl, Nat.le_of_ble_eq_true rfl⟩) hk_a0 rfl rfl rfl rfl hl.1 rfl (Nat.le_of_ble_eq_true rfl) dX9_look_1 ⟨Nat.zero_le _, Nat.zero_le _⟩ (fun H locs hd hS => ?_)
  refine lv_istore_n (lv' := [(1, .int r2), (0, .ref (z + a0))]) hx hb dX9_look_4 rfl hl (by decide) rfl (fun ls hl => ?_)
  refine lv_iconst (v := -1) hx hb dX9_look_5 (by decide) ?_
  refine lv_istore_n (lv' := [(2, .int (-1 : Int32)), (1, .int r2), (0, .ref (z + a0))]) hx hb dX9_look_6 rfl hl (by decide) rfl (fun ls hl => ?_)
  refine lv_iload_n hx hb dX9_look_7 rfl (lv_at hl 1 rfl) ?_
  refine lv_istore_n (lv' := [(3, .int r2), (2, .int (-1 : Int32)), (1, .int r2), (0, .ref (z + a0))]) hx hb dX9_look_8 rfl hl (by decide) rfl (fun ls hl => ?_)
  refine lv_iconst (v := 0) hx hb dX9_look_9 (by decide) ?_
  refine lv_istore (lv' := [(4, .int (0 : Int32)), (3, .int r2), (2, .int (-1 : Int32)), (1, .int r2), (0, .ref (z + a0))]) hx hb dX9_look_10 hl (by decide) rfl (fun ls hl => ?_)
  exact k_f_X9_look_L12 X FU _ _ _ _ _ _ _ _ hk_a0 hd hS (lv_sub hl [4, 2, 1, 0] rfl) h
theorem hv_X9_write : yX9_write.cls = RX9 ∧ yX9_write.cls ≠ "java/lang/invoke/MethodHandle" ∧ yX9_write.cls ≠ "java/lang/invoke/VarHandle" ∧ (parseMethodDescriptor yX9_write.desc).map (fun d => d.parameters.length) = some 2 := by decide +kernel
def f_X9_write (μ : Mm) (a0 : Nat) (x1 : Int32) (x2 : Int32) : Option (Int32 × Mm) := bR (μ.2 a0 1) (fun b1 => bC (f_X4_hasCell μ b1 x1) (fun r3 μ2 => if r3 = 0 then (some ((-1000000001 : Int32), μ2)) else (if x2 < 0 then (some ((-1000000002 : Int32), μ2)) else (if x2 ≤ (9 : Int32) then (bR (μ2.2 a0 8) (fun b8 => if (μ2.1 b8 5) < (15 : Int32) then (bR (μ2.2 a0 8) (fun b10 => bV (f_X6_addEntry μ2 b10 x1 x2) (fun μ11 => bR (μ11.2 a0 8) (fun b14 => some (μ11.1 b14 5, μ11))))) else (some ((-1000000004 : Int32), μ2)))) else (some ((-1000000002 : Int32), μ2))))))
set_option maxRecDepth 100000 in
theorem c_X9_write {l : Launch} {D : va_G} {cA : Nat → ClassId} {z : Nat} {μ : Mm} {a0 : Nat} {x1 : Int32} {x2 : Int32} {r : Int32} {μ' : Mm} (hk_a0 : kd a0 = 9) (h : f_X9_write μ a0 x1 x2 = some (r, μ')) : Ct l D cA z yX9_write wsX9_write 1 22 [.ref (z + a0), .int x1, .int x2] μ (some (.int r)) μ' := by
  refine m_in (cc := cX9_write) (maxL := 3) (ret := (some .int)) (own := RX9) (by decide) rfl rfl (Nat.le_of_ble_eq_true rfl) ?_
  intro p e s m below meth c ls X hd hS hl
  obtain ⟨hx, hb, hr, hlk, hml, hown, hts, hK⟩ := id X
  have hl : lv_has ls 3 [(0, .ref (z + a0)), (1, .int x1), (2, .int x2)] := hl
  unfold f_X9_write at h
  refine lv_aload_n hx hb dX9_write_0 rfl (lv_at hl 0 rfl) ?_
  obtain ⟨b1, hb1, h⟩ := bR_e h
  refine r_getr hx hb hts (fun w h => List.mem_cons_of_mem _ (List.mem_append_left _ (List.mem_append_left _ (List.mem_append_right _ (h))))) hown hK hd hk_a0 hb1 rfl fs_9_1 (hts (.fieldLink RX9 19 "LevelVotes" "plan" "LLevelVotes$House;") (List.mem_of_getElem? (i := 1) rfl)) dX9_write_1 (fun hq => ?_)
  have hk_b1 : kd b1 = 4 := hq
  refine lv_iload_n hx hb dX9_write_4 rfl (lv_at hl 1 rfl) ?_
  obtain ⟨r3, μ2, hc4, h⟩ := bC_e h
  refine rc_Vi (rest := []) [.int x1] ⟨hx, hb, hml, hown, hts⟩ hK hd hS (c_X4_hasCell hk_b1 hc4) (cwV 1 hts gX9_write_X4_hasCell rfl rfl rfl hv_X4_hasCell ⟨Nat.le_of_ble_eq_true rfl, Nat.le_of_ble_eq_true rfl⟩) hk_b1 rfl rfl rfl rfl hl.1 rfl (Nat.le_of_ble_eq_true rfl) dX9_write_5 ⟨Nat.zero_le _, Nat.zero_le _⟩ (fun H locs hd hS => ?_)
  refine lv_if_ne (tgt := 14) hx hb dX9_write_8 (by decide) (fun q5 => ?_) (fun q5 => ?_)
  · have h := if_n q5 h
    refine lv_iload_n hx hb dX9_write_14 rfl (lv_at hl 2 rfl) ?_
    refine lv_if_lt (tgt := 24) hx hb dX9_write_15 (by decide) (fun q6 => ?_) (fun q6 => ?_)
    · have h := if_y q6 h
      refine lv_ldc (v := -1000000002) hx hb hown (hts (.constant RX9 86 (-1000000002)) (List.mem_of_getElem? (i := 3) rfl)) dX9_write_24 ?_
      obtain ⟨rfl, rfl⟩ := so_e h
      exact rt_i hx hb hr hlk hd hS dX9_write_26
    · have h := if_n q6 h
      refine lv_iload_n hx hb dX9_write_18 rfl (lv_at hl 2 rfl) ?_
      refine lv_bipush (v := 9) hx hb dX9_write_19 (by decide) ?_
      refine lv_icmp_le (tgt := 27) hx hb dX9_write_21 (by decide) (fun q7 => ?_) (fun q7 => ?_)
      · have h := if_y q7 h
        refine lv_aload_n hx hb dX9_write_27 rfl (lv_at hl 0 rfl) ?_
        obtain ⟨b8, hb8, h⟩ := bR_e h
        refine r_getr hx hb hts (fun w h => List.mem_cons_of_mem _ (List.mem_append_left _ (List.mem_append_left _ (List.mem_append_right _ (h))))) hown hK hd hk_a0 hb8 rfl fs_9_8 (hts (.fieldLink RX9 60 "LevelVotes" "notebook" "LLevelVotes$Notebook;") (List.mem_of_getElem? (i := 4) rfl)) dX9_write_28 (fun hq => ?_)
        have hk_b8 : kd b8 = 6 := hq
        refine r_geti hx hb hts (fun w h => List.mem_cons_of_mem _ (List.mem_append_left _ (List.mem_append_right _ (h)))) hown hK hd hk_b8 rfl 5 fs_6_5 (hts (.fieldLink RX9 140 "LevelVotes$Notebook" "entries" "I") (List.mem_of_getElem? (i := 5) rfl)) dX9_write_31 ?_
        refine lv_bipush (v := 15) hx hb dX9_write_34 (by decide) ?_
        refine lv_icmp_lt (tgt := 42) hx hb dX9_write_36 (by decide) (fun q9 => ?_) (fun q9 => ?_)
        · have h := if_y q9 h
          refine lv_aload_n hx hb dX9_write_42 rfl (lv_at hl 0 rfl) ?_
          obtain ⟨b10, hb10, h⟩ := bR_e h
          refine r_getr hx hb hts (fun w h => List.mem_cons_of_mem _ (List.mem_append_left _ (List.mem_append_left _ (List.mem_append_right _ (h))))) hown hK hd hk_a0 hb10 rfl fs_9_8 (hts (.fieldLink RX9 60 "LevelVotes" "notebook" "LLevelVotes$Notebook;") (List.mem_of_getElem? (i := 4) rfl)) dX9_write_43 (fun hq => ?_)
          have hk_b10 : kd b10 = 6 := hq
          refine lv_iload_n hx hb dX9_write_46 rfl (lv_at hl 1 rfl) ?_
          refine lv_iload_n hx hb dX9_write_47 rfl (lv_at hl 2 rfl) ?_
          obtain ⟨μ11, hc13, h⟩ := bV_e h
          refine rc_Vv (rest := []) [.int x1, .int x2] ⟨hx, hb, hml, hown, hts⟩ hK hd hS (c_X6_addEntry hk_b10 hc13) (cwV 2 hts gX9_write_X6_addEntry rfl rfl rfl hv_X6_addEntry ⟨Nat.le_of_ble_eq_true rfl, Nat.le_of_ble_eq_true rfl⟩) hk_b10 rfl rfl rfl rfl hl.1 rfl (Nat.le_of_ble_eq_true rfl) dX9_write_48 ⟨Nat.zero_le _, Nat.zero_le _⟩ (fun H locs hd hS => ?_)
          refine lv_aload_n hx hb dX9_write_51 rfl (lv_at hl 0 rfl) ?_
          obtain ⟨b14, hb14, h⟩ := bR_e h
          refine r_getr hx hb hts (fun w h => List.mem_cons_of_mem _ (List.mem_append_left _ (List.mem_append_left _ (List.mem_append_right _ (h))))) hown hK hd hk_a0 hb14 rfl fs_9_8 (hts (.fieldLink RX9 60 "LevelVotes" "notebook" "LLevelVotes$Notebook;") (List.mem_of_getElem? (i := 4) rfl)) dX9_write_52 (fun hq => ?_)
          have hk_b14 : kd b14 = 6 := hq
          refine r_geti hx hb hts (fun w h => List.mem_cons_of_mem _ (List.mem_append_left _ (List.mem_append_right _ (h)))) hown hK hd hk_b14 rfl 5 fs_6_5 (hts (.fieldLink RX9 140 "LevelVotes$Notebook" "entries" "I") (List.mem_of_getElem? (i := 5) rfl)) dX9_write_55 ?_
          obtain ⟨rfl, rfl⟩ := so_e h
          exact rt_i hx hb hr hlk hd hS dX9_write_58
        · have h := if_n q9 h
          refine lv_ldc (v := -1000000004) hx hb hown (hts (.constant RX9 91 (-1000000004)) (List.mem_of_getElem? (i := 6) rfl)) dX9_write_39 ?_
          obtain ⟨rfl, rfl⟩ := so_e h
          exact rt_i hx hb hr hlk hd hS dX9_write_41
      · have h := if_n q7 h
        refine lv_ldc (v := -1000000002) hx hb hown (hts (.constant RX9 86 (-1000000002)) (List.mem_of_getElem? (i := 3) rfl)) dX9_write_24 ?_
        obtain ⟨rfl, rfl⟩ := so_e h
        exact rt_i hx hb hr hlk hd hS dX9_write_26
  · have h := if_y q5 h
    refine lv_ldc (v := -1000000001) hx hb hown (hts (.constant RX9 150 (-1000000001)) (List.mem_of_getElem? (i := 2) rfl)) dX9_write_11 ?_
    obtain ⟨rfl, rfl⟩ := so_e h
    exact rt_i hx hb hr hlk hd hS dX9_write_13
theorem hv_X9_tear : yX9_tear.cls = RX9 ∧ yX9_tear.cls ≠ "java/lang/invoke/MethodHandle" ∧ yX9_tear.cls ≠ "java/lang/invoke/VarHandle" ∧ (parseMethodDescriptor yX9_tear.desc).map (fun d => d.parameters.length) = some 0 := by decide +kernel
def f_X9_tear (μ : Mm) (a0 : Nat) : Option (Int32 × Mm) := bR (μ.2 a0 8) (fun b1 => bR (μ.2 a0 8) (fun b2 => bI ((μ.1 b1 4) + (μ.1 b2 5)) (fun v3 => bR (μ.2 a0 8) (fun b4 => bV (f_X6_clear μ b4) (fun μ5 => some (v3, μ5))))))
set_option maxRecDepth 100000 in
theorem c_X9_tear {l : Launch} {D : va_G} {cA : Nat → ClassId} {z : Nat} {μ : Mm} {a0 : Nat} {r : Int32} {μ' : Mm} (hk_a0 : kd a0 = 9) (h : f_X9_tear μ a0 = some (r, μ')) : Ct l D cA z yX9_tear wsX9_tear 1 20 [.ref (z + a0)] μ (some (.int r)) μ' := by
  refine m_in (cc := cX9_tear) (maxL := 2) (ret := (some .int)) (own := RX9) (by decide) rfl rfl (Nat.le_of_ble_eq_true rfl) ?_
  intro p e s m below meth c ls X hd hS hl
  obtain ⟨hx, hb, hr, hlk, hml, hown, hts, hK⟩ := id X
  have hl : lv_has ls 2 [(0, .ref (z + a0))] := hl
  unfold f_X9_tear at h
  refine lv_aload_n hx hb dX9_tear_0 rfl (lv_at hl 0 rfl) ?_
  obtain ⟨b1, hb1, h⟩ := bR_e h
  refine r_getr hx hb hts (fun w h => List.mem_cons_of_mem _ (List.mem_append_left _ (List.mem_append_right _ (h)))) hown hK hd hk_a0 hb1 rfl fs_9_8 (hts (.fieldLink RX9 60 "LevelVotes" "notebook" "LLevelVotes$Notebook;") (List.mem_of_getElem? (i := 1) rfl)) dX9_tear_1 (fun hq => ?_)
  have hk_b1 : kd b1 = 6 := hq
  refine r_geti hx hb hts (fun w h => List.mem_cons_of_mem _ (List.mem_append_right _ (h))) hown hK hd hk_b1 rfl 4 fs_6_4 (hts (.fieldLink RX9 137 "LevelVotes$Notebook" "seen" "I") (List.mem_of_getElem? (i := 2) rfl)) dX9_tear_4 ?_
  refine lv_aload_n hx hb dX9_tear_7 rfl (lv_at hl 0 rfl) ?_
  obtain ⟨b2, hb2, h⟩ := bR_e h
  refine r_getr hx hb hts (fun w h => List.mem_cons_of_mem _ (List.mem_append_left _ (List.mem_append_right _ (h)))) hown hK hd hk_a0 hb2 rfl fs_9_8 (hts (.fieldLink RX9 60 "LevelVotes" "notebook" "LLevelVotes$Notebook;") (List.mem_of_getElem? (i := 1) rfl)) dX9_tear_8 (fun hq => ?_)
  have hk_b2 : kd b2 = 6 := hq
  refine r_geti hx hb hts (fun w h => List.mem_cons_of_mem _ (List.mem_append_right _ (h))) hown hK hd hk_b2 rfl 5 fs_6_5 (hts (.fieldLink RX9 140 "LevelVotes$Notebook" "entries" "I") (List.mem_of_getElem? (i := 3) rfl)) dX9_tear_11 ?_
  refine lv_iadd hx hb dX9_tear_14 ?_
  refine lv_topi (fun v3 ev3 => ?_)
  have h := bI_e ev3 h
  refine lv_istore_n (lv' := [(1, .int v3), (0, .ref (z + a0))]) hx hb dX9_tear_15 rfl hl (by decide) rfl (fun ls hl => ?_)
  refine lv_aload_n hx hb dX9_tear_16 rfl (lv_at hl 1 rfl) ?_
  obtain ⟨b4, hb4, h⟩ := bR_e h
  refine r_getr hx hb hts (fun w h => List.mem_cons_of_mem _ (List.mem_append_left _ (List.mem_append_right _ (h)))) hown hK hd hk_a0 hb4 rfl fs_9_8 (hts (.fieldLink RX9 60 "LevelVotes" "notebook" "LLevelVotes$Notebook;") (List.mem_of_getElem? (i := 1) rfl)) dX9_tear_17 (fun hq => ?_)
  have hk_b4 : kd b4 = 6 := hq
  obtain ⟨μ5, hc7, h⟩ := bV_e h
  refine rc_Vv (rest := []) [] ⟨hx, hb, hml, hown, hts⟩ hK hd hS (c_X6_clear hk_b4 hc7) (cwV 0 hts gX9_tear_X6_clear rfl rfl rfl hv_X6_clear ⟨Nat.le_of_ble_eq_true rfl, Nat.le_of_ble_eq_true rfl⟩) hk_b4 rfl rfl rfl rfl hl.1 rfl (Nat.le_of_ble_eq_true rfl) dX9_tear_20 ⟨Nat.zero_le _, Nat.zero_le _⟩ (fun H locs hd hS => ?_)
  refine lv_iload_n hx hb dX9_tear_23 rfl (lv_at hl 0 rfl) ?_
  obtain ⟨rfl, rfl⟩ := so_e h
  exact rt_i hx hb hr hlk hd hS dX9_tear_24
theorem hv_X9_judge : yX9_judge.cls = RX9 ∧ yX9_judge.cls ≠ "java/lang/invoke/MethodHandle" ∧ yX9_judge.cls ≠ "java/lang/invoke/VarHandle" ∧ (parseMethodDescriptor yX9_judge.desc).map (fun d => d.parameters.length) = some 0 := by decide +kernel
abbrev HL_X9_judge_6 (l : Launch) (D : va_G) (cA : Nat → ClassId) (z : Nat) (av : List Value) (r : Int32) (μ' : Mm) (p : Program) (e : Env) (s : State) (m : MethodId) (below : List Frame) (meth : Method) (c : Code) (rc : Mm → Nat → Int32 → Option (Int32 × Mm)) : Prop := ∀ (μ : Mm) (H : Heap) (locs : List Loc) (ls : Array Slot) (a0 : Nat) (x1 : Int32), kd a0 = 9 → Wd D cA z μ H → va_S (Az z) s.heap H locs → lv_has ls 2 [(0, .ref (z + a0)), (1, .int x1)] → rc μ a0 x1 = some (r, μ') → WG l D cA z wsX9_judge 5 106 av (some (.int r)) μ' p e s m below meth c H locs (F0 m 6 ls [])
def f_X9_judge_L6b (rc6 : Mm → Nat → Int32 → Option (Int32 × Mm)) (μ : Mm) (a0 : Nat) (x1 : Int32) : Option (Int32 × Mm) := bR (μ.2 a0 8) (fun b1 => if (μ.1 b1 5) ≤ x1 then (some ((-1 : Int32), μ)) else (bR (μ.2 a0 10) (fun b3 => bR (μ.2 a0 8) (fun b4 => bC (f_X6_entryCell μ b4 x1) (fun r6 μ5 => bC (f_X2_heightOf μ5 b3 r6) (fun r9 μ8 => bR (μ8.2 a0 8) (fun b11 => bC (f_X6_entryHeight μ8 b11 x1) (fun r13 μ12 => if r9 = r13 then (rc6 μ12 a0 (x1 + (1 : Int32))) else (some (x1, μ12))))))))))
set_option maxRecDepth 100000 in
theorem k_f_X9_judge_L6b {l : Launch} {D : va_G} {cA : Nat → ClassId} {z : Nat} {av : List Value} {p : Program} {e : Env} {s : State} {m : MethodId} {below : List Frame} {meth : Method} {c : Code} {r : Int32} {μ' : Mm} (X : Fx D cA RX9 wsX9_judge cX9_judge 2 (some .int) p s m av.toArray meth c) {rc6 : Mm → Nat → Int32 → Option (Int32 × Mm)} (hrc6 : HL_X9_judge_6 l D cA z av r μ' p e s m below meth c rc6) {μ : Mm} {a0 : Nat} {x1 : Int32} (hk_a0 : kd a0 = 9) {H : Heap} {locs : List Loc} {ls : Array Slot} (hd : Wd D cA z μ H) (hS : va_S (Az z) s.heap H locs) (hl : lv_has ls 2 [(0, .ref (z + a0)), (1, .int x1)]) (h : f_X9_judge_L6b rc6 μ a0 x1 = some (r, μ')) : WG l D cA z wsX9_judge 5 106 av (some (.int r)) μ' p e s m below meth c H locs (F0 m 6 ls []) := by
  obtain ⟨hx, hb, hr, hlk, hml, hown, hts, hK⟩ := id X
  unfold f_X9_judge_L6b at h
  refine lv_iload_n hx hb dX9_judge_6 rfl (lv_at hl 1 rfl) ?_
  refine lv_aload_n hx hb dX9_judge_7 rfl (lv_at hl 0 rfl) ?_
  obtain ⟨b1, hb1, h⟩ := bR_e h
  refine r_getr hx hb hts (fun w h => List.mem_cons_of_mem _ (List.mem_append_left _ (List.mem_append_left _ (List.mem_append_left _ (List.mem_append_left _ (List.mem_append_left _ (List.mem_append_right _ (h)))))))) hown hK hd hk_a0 hb1 rfl fs_9_8 (hts (.fieldLink RX9 60 "LevelVotes" "notebook" "LLevelVotes$Notebook;") (List.mem_of_getElem? (i := 1) rfl)) dX9_judge_8 (fun hq => ?_)
  have hk_b1 : kd b1 = 6 := hq
  refine r_geti hx hb hts (fun w h => List.mem_cons_of_mem _ (List.mem_append_left _ (List.mem_append_left _ (List.mem_append_left _ (List.mem_append_left _ (List.mem_append_right _ (h))))))) hown hK hd hk_b1 rfl 5 fs_6_5 (hts (.fieldLink RX9 140 "LevelVotes$Notebook" "entries" "I") (List.mem_of_getElem? (i := 2) rfl)) dX9_judge_11 ?_
  refine lv_icmp_ge (tgt := 51) hx hb dX9_judge_14 (by decide) (fun q2 => ?_) (fun q2 => ?_)
  · have h := if_y q2 h
    refine lv_iconst (v := -1) hx hb dX9_judge_51 (by decide) ?_
    obtain ⟨rfl, rfl⟩ := so_e h
    exact rt_i hx hb hr hlk hd hS dX9_judge_52
  · have h := if_n q2 h
    refine lv_aload_n hx hb dX9_judge_17 rfl (lv_at hl 0 rfl) ?_
    obtain ⟨b3, hb3, h⟩ := bR_e h
    refine r_getr hx hb hts (fun w h => List.mem_cons_of_mem _ (List.mem_append_left _ (List.mem_append_left _ (List.mem_append_left _ (List.mem_append_left _ (List.mem_append_left _ (List.mem_append_right _ (h)))))))) hown hK hd hk_a0 hb3 rfl fs_9_10 (hts (.fieldLink RX9 74 "LevelVotes" "hill" "LLevelVotes$Hill;") (List.mem_of_getElem? (i := 3) rfl)) dX9_judge_18 (fun hq => ?_)
    have hk_b3 : kd b3 = 2 := hq
    refine lv_aload_n hx hb dX9_judge_21 rfl (lv_at hl 0 rfl) ?_
    obtain ⟨b4, hb4, h⟩ := bR_e h
    refine r_getr hx hb hts (fun w h => List.mem_cons_of_mem _ (List.mem_append_left _ (List.mem_append_left _ (List.mem_append_left _ (List.mem_append_left _ (List.mem_append_left _ (List.mem_append_right _ (h)))))))) hown hK hd hk_a0 hb4 rfl fs_9_8 (hts (.fieldLink RX9 60 "LevelVotes" "notebook" "LLevelVotes$Notebook;") (List.mem_of_getElem? (i := 1) rfl)) dX9_judge_22 (fun hq => ?_)
    have hk_b4 : kd b4 = 6 := hq
    refine lv_iload_n hx hb dX9_judge_25 rfl (lv_at hl 1 rfl) ?_
    obtain ⟨r6, μ5, hc7, h⟩ := bC_e h
    refine rc_Vi (rest := [.ref (z + b3)]) [.int x1] ⟨hx, hb, hml, hown, hts⟩ hK hd hS (c_X6_entryCell hk_b4 hc7) (cwV 1 hts gX9_judge_X6_entryCell rfl rfl rfl hv_X6_entryCell ⟨Nat.le_of_ble_eq_true rfl, Nat.le_of_ble_eq_true rfl⟩) hk_b4 rfl rfl rfl rfl hl.1 rfl (Nat.le_of_ble_eq_true rfl) dX9_judge_26 ⟨Nat.zero_le _, Nat.zero_le _⟩ (fun H locs hd hS => ?_)
    obtain ⟨r9, μ8, hc10, h⟩ := bC_e h
    refine rc_Vi (rest := []) [.int r6] ⟨hx, hb, hml, hown, hts⟩ hK hd hS (c_X2_heightOf hk_b3 hc10) (cwV 1 hts gX9_judge_X2_heightOf rfl rfl rfl hv_X2_heightOf ⟨Nat.le_of_ble_eq_true rfl, Nat.le_of_ble_eq_true rfl⟩) hk_b3 rfl rfl rfl rfl hl.1 rfl (Nat.le_of_ble_eq_true rfl) dX9_judge_29 ⟨Nat.zero_le _, Nat.zero_le _⟩ (fun H locs hd hS => ?_)
    refine lv_aload_n hx hb dX9_judge_32 rfl (lv_at hl 0 rfl) ?_
    obtain ⟨b11, hb11, h⟩ := bR_e h
    refine r_getr hx hb hts (fun w h => List.mem_cons_of_mem _ (List.mem_append_left _ (List.mem_append_left _ (List.mem_append_left _ (List.mem_append_left _ (List.mem_append_left _ (List.mem_append_right _ (h)))))))) hown hK hd hk_a0 hb11 rfl fs_9_8 (hts (.fieldLink RX9 60 "LevelVotes" "notebook" "LLevelVotes$Notebook;") (List.mem_of_getElem? (i := 1) rfl)) dX9_judge_33 (fun hq => ?_)
    have hk_b11 : kd b11 = 6 := hq
    refine lv_iload_n hx hb dX9_judge_36 rfl (lv_at hl 1 rfl) ?_
    obtain ⟨r13, μ12, hc14, h⟩ := bC_e h
    refine rc_Vi (rest := [.int r9]) [.int x1] ⟨hx, hb, hml, hown, hts⟩ hK hd hS (c_X6_entryHeight hk_b11 hc14) (cwV 1 hts gX9_judge_X6_entryHeight rfl rfl rfl hv_X6_entryHeight ⟨Nat.le_of_ble_eq_true rfl, Nat.le_of_ble_eq_true rfl⟩) hk_b11 rfl rfl rfl rfl hl.1 rfl (Nat.le_of_ble_eq_true rfl) dX9_judge_37 ⟨Nat.zero_le _, Nat.zero_le _⟩ (fun H locs hd hS => ?_)
    refine lv_icmp_eq (tgt := 45) hx hb dX9_judge_40 (by decide) (fun q15 => ?_) (fun q15 => ?_)
    · have h := if_y q15 h
      refine lv_iinc (v := x1 + (1 : Int32)) (lv' := [(1, .int (x1 + (1 : Int32))), (0, .ref (z + a0))]) hx hb dX9_judge_45 hl (k := 1) rfl rfl (by decide) rfl (fun ls hl => ?_)
      refine lv_goto (tgt := 6) hx hb dX9_judge_48 (by decide) ?_
      exact hrc6 _ _ _ _ _ _ hk_a0 hd hS (lv_sub hl [1, 0] rfl) h
    · have h := if_n q15 h
      refine lv_iload_n hx hb dX9_judge_43 rfl (lv_at hl 1 rfl) ?_
      obtain ⟨rfl, rfl⟩ := so_e h
      exact rt_i hx hb hr hlk hd hS dX9_judge_44
def f_X9_judge_L6 : Nat → Mm → Nat → Int32 → Option (Int32 × Mm)
  | 0 => fun _ _ _ => none
  | n + 1 => fun μ a0 x1 => f_X9_judge_L6b (f_X9_judge_L6 n) μ a0 x1
theorem k_f_X9_judge_L6 {l : Launch} {D : va_G} {cA : Nat → ClassId} {z : Nat} {av : List Value} {p : Program} {e : Env} {s : State} {m : MethodId} {below : List Frame} {meth : Method} {c : Code} {r : Int32} {μ' : Mm} (X : Fx D cA RX9 wsX9_judge cX9_judge 2 (some .int) p s m av.toArray meth c) (n : Nat) : HL_X9_judge_6 l D cA z av r μ' p e s m below meth c (f_X9_judge_L6 n) := by
  induction n with
  | zero => intro _ _ _ _ _ _ _ _ _ _ h; have h2 : (none : Option _) = some _ := h; cases h2
  | succ n ih => intro μ H locs ls a0 x1 hk_a0 hd hS hl h; exact k_f_X9_judge_L6b X ih hk_a0 hd hS hl h
def f_X9_judge (μ : Mm) (a0 : Nat) : Option (Int32 × Mm) := bV (f_X9_shapeNow μ a0) (fun μ1 => f_X9_judge_L6 FU μ1 a0 (0 : Int32))
set_option maxRecDepth 100000 in
theorem c_X9_judge {l : Launch} {D : va_G} {cA : Nat → ClassId} {z : Nat} {μ : Mm} {a0 : Nat} {r : Int32} {μ' : Mm} (hk_a0 : kd a0 = 9) (h : f_X9_judge μ a0 = some (r, μ')) : Ct l D cA z yX9_judge wsX9_judge 5 106 [.ref (z + a0)] μ (some (.int r)) μ' := by
  refine m_in (cc := cX9_judge) (maxL := 2) (ret := (some .int)) (own := RX9) (by decide) rfl rfl (Nat.le_of_ble_eq_true rfl) ?_
  intro p e s m below meth c ls X hd hS hl
  obtain ⟨hx, hb, hr, hlk, hml, hown, hts, hK⟩ := id X
  have hl : lv_has ls 2 [(0, .ref (z + a0))] := hl
  unfold f_X9_judge at h
  refine lv_aload_n hx hb dX9_judge_0 rfl (lv_at hl 0 rfl) ?_
  obtain ⟨μ1, hc3, h⟩ := bV_e h
  refine rc_Vv (rest := []) [] ⟨hx, hb, hml, hown, hts⟩ hK hd hS (c_X9_shapeNow hk_a0 hc3) (cwV 0 hts gX9_judge_X9_shapeNow rfl rfl rfl hv_X9_shapeNow ⟨Nat.le_of_ble_eq_true rfl, Nat.le_of_ble_eq_true rfl⟩) hk_a0 rfl rfl rfl rfl hl.1 rfl (Nat.le_of_ble_eq_true rfl) dX9_judge_1 ⟨Nat.zero_le _, Nat.zero_le _⟩ (fun H locs hd hS => ?_)
  refine lv_iconst (v := 0) hx hb dX9_judge_4 (by decide) ?_
  refine lv_istore_n (lv' := [(1, .int (0 : Int32)), (0, .ref (z + a0))]) hx hb dX9_judge_5 rfl hl (by decide) rfl (fun ls hl => ?_)
  exact k_f_X9_judge_L6 X FU _ _ _ _ _ _ hk_a0 hd hS (lv_sub hl [1, 0] rfl) h
theorem hv_X9_seed : yX9_seed.cls = RX9 ∧ yX9_seed.cls ≠ "java/lang/invoke/MethodHandle" ∧ yX9_seed.cls ≠ "java/lang/invoke/VarHandle" ∧ (parseMethodDescriptor yX9_seed.desc).map (fun d => d.parameters.length) = some 1 := by decide +kernel
def f_X9_seed (μ : Mm) (a0 : Nat) (x1 : Int32) : Option (Int32 × Mm) := if 0 ≤ x1 then (bR (μ.2 a0 7) (fun b2 => bI (μ.1 b2 0) (fun v3 => bR (μ.2 a0 7) (fun b4 => bM (up2 μ.1 b4 0 x1, μ.2) (fun μ5 => some (v3, μ5)))))) else (some ((-1000000002 : Int32), μ))
set_option maxRecDepth 100000 in
theorem c_X9_seed {l : Launch} {D : va_G} {cA : Nat → ClassId} {z : Nat} {μ : Mm} {a0 : Nat} {x1 : Int32} {r : Int32} {μ' : Mm} (hk_a0 : kd a0 = 9) (h : f_X9_seed μ a0 x1 = some (r, μ')) : Ct l D cA z yX9_seed wsX9_seed 0 0 [.ref (z + a0), .int x1] μ (some (.int r)) μ' := by
  refine m_in (cc := cX9_seed) (maxL := 3) (ret := (some .int)) (own := RX9) (by decide) rfl rfl (Nat.le_of_ble_eq_true rfl) ?_
  intro p e s m below meth c ls X hd hS hl
  obtain ⟨hx, hb, hr, hlk, hml, hown, hts, hK⟩ := id X
  have hl : lv_has ls 3 [(0, .ref (z + a0)), (1, .int x1)] := hl
  unfold f_X9_seed at h
  refine lv_iload_n hx hb dX9_seed_0 rfl (lv_at hl 1 rfl) ?_
  refine lv_if_ge (tgt := 7) hx hb dX9_seed_1 (by decide) (fun q1 => ?_) (fun q1 => ?_)
  · have h := if_y q1 h
    refine lv_aload_n hx hb dX9_seed_7 rfl (lv_at hl 0 rfl) ?_
    obtain ⟨b2, hb2, h⟩ := bR_e h
    refine r_getr hx hb hts (fun w h => List.mem_cons_of_mem _ (List.mem_append_left _ (List.mem_append_right _ (h)))) hown hK hd hk_a0 hb2 rfl fs_9_7 (hts (.fieldLink RX9 53 "LevelVotes" "draws" "LLevelVotes$Draws;") (List.mem_of_getElem? (i := 2) rfl)) dX9_seed_8 (fun hq => ?_)
    have hk_b2 : kd b2 = 1 := hq
    refine r_geti hx hb hts (fun w h => List.mem_cons_of_mem _ (List.mem_append_right _ (h))) hown hK hd hk_b2 rfl 0 fs_1_0 (hts (.fieldLink RX9 290 "LevelVotes$Draws" "state" "I") (List.mem_of_getElem? (i := 3) rfl)) dX9_seed_11 ?_
    refine lv_topi (fun v3 ev3 => ?_)
    have h := bI_e ev3 h
    refine lv_istore_n (lv' := [(2, .int v3), (0, .ref (z + a0)), (1, .int x1)]) hx hb dX9_seed_14 rfl hl (by decide) rfl (fun ls hl => ?_)
    refine lv_aload_n hx hb dX9_seed_15 rfl (lv_at hl 1 rfl) ?_
    obtain ⟨b4, hb4, h⟩ := bR_e h
    refine r_getr hx hb hts (fun w h => List.mem_cons_of_mem _ (List.mem_append_left _ (List.mem_append_right _ (h)))) hown hK hd hk_a0 hb4 rfl fs_9_7 (hts (.fieldLink RX9 53 "LevelVotes" "draws" "LLevelVotes$Draws;") (List.mem_of_getElem? (i := 2) rfl)) dX9_seed_16 (fun hq => ?_)
    have hk_b4 : kd b4 = 1 := hq
    refine lv_iload_n hx hb dX9_seed_19 rfl (lv_at hl 2 rfl) ?_
    refine r_puti hx hb hts (fun w h => List.mem_cons_of_mem _ (List.mem_append_right _ (h))) tyX1 tyX1_ok nmX1 hown hK hd hS hk_b4 rfl 0 fs_1_0 rfl (hts (.fieldLink RX9 290 "LevelVotes$Draws" "state" "I") (List.mem_of_getElem? (i := 3) rfl)) (vp_nar_int _) rfl dX9_seed_20 (fun μ5 eμ5 H locs hd hS => ?_)
    have h := bM_e eμ5 h
    refine lv_iload_n hx hb dX9_seed_23 rfl (lv_at hl 0 rfl) ?_
    obtain ⟨rfl, rfl⟩ := so_e h
    exact rt_i hx hb hr hlk hd hS dX9_seed_24
  · have h := if_n q1 h
    refine lv_ldc (v := -1000000002) hx hb hown (hts (.constant RX9 86 (-1000000002)) (List.mem_of_getElem? (i := 1) rfl)) dX9_seed_4 ?_
    obtain ⟨rfl, rfl⟩ := so_e h
    exact rt_i hx hb hr hlk hd hS dX9_seed_6
theorem hv_X9_keep : yX9_keep.cls = RX9 ∧ yX9_keep.cls ≠ "java/lang/invoke/MethodHandle" ∧ yX9_keep.cls ≠ "java/lang/invoke/VarHandle" ∧ (parseMethodDescriptor yX9_keep.desc).map (fun d => d.parameters.length) = some 1 := by decide +kernel
def f_X9_keep (μ : Mm) (a0 : Nat) (x1 : Int32) : Option (Int32 × Mm) := bC (f_X9_imageAt μ a0 x1) (fun r2 μ1 => bN r2 (some ((-1000000001 : Int32), μ1)) (fun b4 => bR (μ1.2 b4 0) (fun b5 => bR (μ1.2 a0 4) (fun b6 => bV (f_X0_copy μ1 b5 b6) (fun μ7 => bR (μ7.2 a0 7) (fun b10 => bM (up2 μ7.1 b4 1 (μ7.1 b10 0), μ7.2) (fun μ11 => bM (up2 μ11.1 b4 2 (1 : Int32), μ11.2) (fun μ12 => bR (μ12.2 a0 5) (fun b13 => bV (f_X3_clear μ12 b13) (fun μ14 => some ((1 : Int32), μ14)))))))))))
set_option maxRecDepth 100000 in
theorem c_X9_keep {l : Launch} {D : va_G} {cA : Nat → ClassId} {z : Nat} {μ : Mm} {a0 : Nat} {x1 : Int32} {r : Int32} {μ' : Mm} (hk_a0 : kd a0 = 9) (h : f_X9_keep μ a0 x1 = some (r, μ')) : Ct l D cA z yX9_keep wsX9_keep 2 43 [.ref (z + a0), .int x1] μ (some (.int r)) μ' := by
  refine m_in (cc := cX9_keep) (maxL := 3) (ret := (some .int)) (own := RX9) (by decide) rfl rfl (Nat.le_of_ble_eq_true rfl) ?_
  intro p e s m below meth c ls X hd hS hl
  obtain ⟨hx, hb, hr, hlk, hml, hown, hts, hK⟩ := id X
  have hl : lv_has ls 3 [(0, .ref (z + a0)), (1, .int x1)] := hl
  unfold f_X9_keep at h
  refine lv_aload_n hx hb dX9_keep_0 rfl (lv_at hl 0 rfl) ?_
  refine lv_iload_n hx hb dX9_keep_1 rfl (lv_at hl 1 rfl) ?_
  have hT0 := hd.1
  obtain ⟨r2, μ1, hc3, h⟩ := bC_e h
  refine rc_Vr (rest := []) [.int x1] ⟨hx, hb, hml, hown, hts⟩ hK hd hS (c_X9_imageAt hk_a0 hc3) (cwV 1 hts gX9_keep_X9_imageAt rfl rfl rfl hv_X9_imageAt ⟨Nat.le_of_ble_eq_true rfl, Nat.le_of_ble_eq_true rfl⟩) hk_a0 rfl rfl rfl rfl hl.1 rfl (Nat.le_of_ble_eq_true rfl) dX9_keep_2 ⟨Nat.zero_le _, Nat.zero_le _⟩ (fun H locs hd hS => ?_)
  have hN := bN_e h
  clear h
  rcases hN with ⟨rfl, h⟩ | ⟨b4, rfl, h⟩
  · skip
    refine lv_astore_nN (lv' := [(2, .null), (0, .ref (z + a0)), (1, .int x1)]) hx hb dX9_keep_5 rfl hl (by decide) rfl (fun ls hl => ?_)
    refine lv_aload_nN hx hb dX9_keep_6 rfl (lv_at hl 0 rfl) ?_
    refine lv_ifnonnullN hx hb dX9_keep_7 ?_
    refine lv_ldc (v := -1000000001) hx hb hown (hts (.constant RX9 150 (-1000000001)) (List.mem_of_getElem? (i := 1) rfl)) dX9_keep_10 ?_
    obtain ⟨rfl, rfl⟩ := so_e h
    exact rt_i hx hb hr hlk hd hS dX9_keep_12
  · have hk_b4 : kd b4 = 5 := ko_X9_imageAt hT0 hk_a0 hc3
    refine lv_astore_n (lv' := [(2, .ref (z + b4)), (0, .ref (z + a0)), (1, .int x1)]) hx hb dX9_keep_5 rfl hl (by decide) rfl (fun ls hl => ?_)
    refine lv_aload_n hx hb dX9_keep_6 rfl (lv_at hl 0 rfl) ?_
    refine lv_ifnonnull (tgt := 13) hx hb dX9_keep_7 (by decide) ?_
    refine lv_aload_n hx hb dX9_keep_13 rfl (lv_at hl 0 rfl) ?_
    obtain ⟨b5, hb5, h⟩ := bR_e h
    refine r_getr hx hb hts (fun w h => List.mem_cons_of_mem _ (List.mem_append_left _ (List.mem_append_left _ (List.mem_append_left _ (List.mem_append_left _ (List.mem_append_right _ (h))))))) hown hK hd hk_b4 hb5 rfl fs_5_0 (hts (.fieldLink RX9 297 "LevelVotes$Image" "ballot" "LLevelVotes$Ballot;") (List.mem_of_getElem? (i := 2) rfl)) dX9_keep_14 (fun hq => ?_)
    have hk_b5 : kd b5 = 0 := hq
    refine lv_aload_n hx hb dX9_keep_17 rfl (lv_at hl 1 rfl) ?_
    obtain ⟨b6, hb6, h⟩ := bR_e h
    refine r_getr hx hb hts (fun w h => List.mem_cons_of_mem _ (List.mem_append_left _ (List.mem_append_left _ (List.mem_append_left _ (List.mem_append_right _ (h)))))) hown hK hd hk_a0 hb6 rfl fs_9_4 (hts (.fieldLink RX9 33 "LevelVotes" "now" "LLevelVotes$Ballot;") (List.mem_of_getElem? (i := 3) rfl)) dX9_keep_18 (fun hq => ?_)
    have hk_b6 : kd b6 = 0 := hq
    obtain ⟨μ7, hc9, h⟩ := bV_e h
    refine rc_Vv (rest := []) [.ref (z + b6)] ⟨hx, hb, hml, hown, hts⟩ hK hd hS (c_X0_copy hk_b5 hk_b6 hc9) (cwV 1 hts gX9_keep_X0_copy rfl rfl rfl hv_X0_copy ⟨Nat.le_of_ble_eq_true rfl, Nat.le_of_ble_eq_true rfl⟩) hk_b5 rfl rfl rfl rfl hl.1 rfl (Nat.le_of_ble_eq_true rfl) dX9_keep_21 ⟨Nat.zero_le _, Nat.zero_le _⟩ (fun H locs hd hS => ?_)
    refine lv_aload_n hx hb dX9_keep_24 rfl (lv_at hl 0 rfl) ?_
    refine lv_aload_n hx hb dX9_keep_25 rfl (lv_at hl 1 rfl) ?_
    obtain ⟨b10, hb10, h⟩ := bR_e h
    refine r_getr hx hb hts (fun w h => List.mem_cons_of_mem _ (List.mem_append_left _ (List.mem_append_left _ (List.mem_append_left _ (List.mem_append_right _ (h)))))) hown hK hd hk_a0 hb10 rfl fs_9_7 (hts (.fieldLink RX9 53 "LevelVotes" "draws" "LLevelVotes$Draws;") (List.mem_of_getElem? (i := 4) rfl)) dX9_keep_26 (fun hq => ?_)
    have hk_b10 : kd b10 = 1 := hq
    refine r_geti hx hb hts (fun w h => List.mem_cons_of_mem _ (List.mem_append_left _ (List.mem_append_left _ (List.mem_append_right _ (h))))) hown hK hd hk_b10 rfl 0 fs_1_0 (hts (.fieldLink RX9 290 "LevelVotes$Draws" "state" "I") (List.mem_of_getElem? (i := 5) rfl)) dX9_keep_29 ?_
    refine r_puti hx hb hts (fun w h => List.mem_cons_of_mem _ (List.mem_append_left _ (List.mem_append_left _ (List.mem_append_left _ (List.mem_append_left _ (List.mem_append_right _ (h))))))) tyX5 tyX5_ok nmX5 hown hK hd hS hk_b4 rfl 1 fs_5_1 rfl (hts (.fieldLink RX9 303 "LevelVotes$Image" "seedThen" "I") (List.mem_of_getElem? (i := 6) rfl)) (vp_nar_int _) rfl dX9_keep_32 (fun μ11 eμ11 H locs hd hS => ?_)
    have h := bM_e eμ11 h
    refine lv_aload_n hx hb dX9_keep_35 rfl (lv_at hl 0 rfl) ?_
    refine lv_iconst (v := 1) hx hb dX9_keep_36 (by decide) ?_
    refine r_puti hx hb hts (fun w h => List.mem_cons_of_mem _ (List.mem_append_left _ (List.mem_append_left _ (List.mem_append_left _ (List.mem_append_left _ (List.mem_append_right _ (h))))))) tyX5 tyX5_ok nmX5 hown hK hd hS hk_b4 rfl 2 fs_5_2 rfl (hts (.fieldLink RX9 306 "LevelVotes$Image" "isKept" "Z") (List.mem_of_getElem? (i := 7) rfl)) rfl rfl dX9_keep_37 (fun μ12 eμ12 H locs hd hS => ?_)
    have h := bM_e eμ12 h
    refine lv_aload_n hx hb dX9_keep_40 rfl (lv_at hl 1 rfl) ?_
    obtain ⟨b13, hb13, h⟩ := bR_e h
    refine r_getr hx hb hts (fun w h => List.mem_cons_of_mem _ (List.mem_append_left _ (List.mem_append_left _ (List.mem_append_left _ (List.mem_append_right _ (h)))))) hown hK hd hk_a0 hb13 rfl fs_9_5 (hts (.fieldLink RX9 40 "LevelVotes" "history" "LLevelVotes$History;") (List.mem_of_getElem? (i := 8) rfl)) dX9_keep_41 (fun hq => ?_)
    have hk_b13 : kd b13 = 3 := hq
    obtain ⟨μ14, hc16, h⟩ := bV_e h
    refine rc_Vv (rest := []) [] ⟨hx, hb, hml, hown, hts⟩ hK hd hS (c_X3_clear hk_b13 hc16) (cwV 0 hts gX9_keep_X3_clear rfl rfl rfl hv_X3_clear ⟨Nat.le_of_ble_eq_true rfl, Nat.le_of_ble_eq_true rfl⟩) hk_b13 rfl rfl rfl rfl hl.1 rfl (Nat.le_of_ble_eq_true rfl) dX9_keep_44 ⟨Nat.zero_le _, Nat.zero_le _⟩ (fun H locs hd hS => ?_)
    refine lv_iconst (v := 1) hx hb dX9_keep_47 (by decide) ?_
    obtain ⟨rfl, rfl⟩ := so_e h
    exact rt_i hx hb hr hlk hd hS dX9_keep_48
theorem hv_X9_goBack : yX9_goBack.cls = RX9 ∧ yX9_goBack.cls ≠ "java/lang/invoke/MethodHandle" ∧ yX9_goBack.cls ≠ "java/lang/invoke/VarHandle" ∧ (parseMethodDescriptor yX9_goBack.desc).map (fun d => d.parameters.length) = some 1 := by decide +kernel
def f_X9_goBack (μ : Mm) (a0 : Nat) (x1 : Int32) : Option (Int32 × Mm) := bC (f_X9_imageAt μ a0 x1) (fun r2 μ1 => bN r2 (some ((-1000000001 : Int32), μ1)) (fun b4 => if (μ1.1 b4 2) = 0 then (some ((-1000000003 : Int32), μ1)) else (bR (μ1.2 a0 4) (fun b6 => bR (μ1.2 b4 0) (fun b7 => bV (f_X0_copy μ1 b6 b7) (fun μ8 => bR (μ8.2 a0 7) (fun b11 => bM (up2 μ8.1 b11 0 (μ8.1 b4 1), μ8.2) (fun μ12 => bR (μ12.2 a0 5) (fun b13 => bV (f_X3_clear μ12 b13) (fun μ14 => some ((1 : Int32), μ14)))))))))))
set_option maxRecDepth 100000 in
theorem c_X9_goBack {l : Launch} {D : va_G} {cA : Nat → ClassId} {z : Nat} {μ : Mm} {a0 : Nat} {x1 : Int32} {r : Int32} {μ' : Mm} (hk_a0 : kd a0 = 9) (h : f_X9_goBack μ a0 x1 = some (r, μ')) : Ct l D cA z yX9_goBack wsX9_goBack 2 43 [.ref (z + a0), .int x1] μ (some (.int r)) μ' := by
  refine m_in (cc := cX9_goBack) (maxL := 3) (ret := (some .int)) (own := RX9) (by decide) rfl rfl (Nat.le_of_ble_eq_true rfl) ?_
  intro p e s m below meth c ls X hd hS hl
  obtain ⟨hx, hb, hr, hlk, hml, hown, hts, hK⟩ := id X
  have hl : lv_has ls 3 [(0, .ref (z + a0)), (1, .int x1)] := hl
  unfold f_X9_goBack at h
  refine lv_aload_n hx hb dX9_goBack_0 rfl (lv_at hl 0 rfl) ?_
  refine lv_iload_n hx hb dX9_goBack_1 rfl (lv_at hl 1 rfl) ?_
  have hT0 := hd.1
  obtain ⟨r2, μ1, hc3, h⟩ := bC_e h
  refine rc_Vr (rest := []) [.int x1] ⟨hx, hb, hml, hown, hts⟩ hK hd hS (c_X9_imageAt hk_a0 hc3) (cwV 1 hts gX9_goBack_X9_imageAt rfl rfl rfl hv_X9_imageAt ⟨Nat.le_of_ble_eq_true rfl, Nat.le_of_ble_eq_true rfl⟩) hk_a0 rfl rfl rfl rfl hl.1 rfl (Nat.le_of_ble_eq_true rfl) dX9_goBack_2 ⟨Nat.zero_le _, Nat.zero_le _⟩ (fun H locs hd hS => ?_)
  have hN := bN_e h
  clear h
  rcases hN with ⟨rfl, h⟩ | ⟨b4, rfl, h⟩
  · skip
    refine lv_astore_nN (lv' := [(2, .null), (0, .ref (z + a0)), (1, .int x1)]) hx hb dX9_goBack_5 rfl hl (by decide) rfl (fun ls hl => ?_)
    refine lv_aload_nN hx hb dX9_goBack_6 rfl (lv_at hl 0 rfl) ?_
    refine lv_ifnonnullN hx hb dX9_goBack_7 ?_
    refine lv_ldc (v := -1000000001) hx hb hown (hts (.constant RX9 150 (-1000000001)) (List.mem_of_getElem? (i := 1) rfl)) dX9_goBack_10 ?_
    obtain ⟨rfl, rfl⟩ := so_e h
    exact rt_i hx hb hr hlk hd hS dX9_goBack_12
  · have hk_b4 : kd b4 = 5 := ko_X9_imageAt hT0 hk_a0 hc3
    refine lv_astore_n (lv' := [(2, .ref (z + b4)), (0, .ref (z + a0)), (1, .int x1)]) hx hb dX9_goBack_5 rfl hl (by decide) rfl (fun ls hl => ?_)
    refine lv_aload_n hx hb dX9_goBack_6 rfl (lv_at hl 0 rfl) ?_
    refine lv_ifnonnull (tgt := 13) hx hb dX9_goBack_7 (by decide) ?_
    refine lv_aload_n hx hb dX9_goBack_13 rfl (lv_at hl 0 rfl) ?_
    refine r_geti hx hb hts (fun w h => List.mem_cons_of_mem _ (List.mem_append_left _ (List.mem_append_left _ (List.mem_append_left _ (List.mem_append_left _ (List.mem_append_right _ (h))))))) hown hK hd hk_b4 rfl 2 fs_5_2 (hts (.fieldLink RX9 306 "LevelVotes$Image" "isKept" "Z") (List.mem_of_getElem? (i := 2) rfl)) dX9_goBack_14 ?_
    refine lv_if_ne (tgt := 23) hx hb dX9_goBack_17 (by decide) (fun q5 => ?_) (fun q5 => ?_)
    · have h := if_n q5 h
      refine lv_aload_n hx hb dX9_goBack_23 rfl (lv_at hl 1 rfl) ?_
      obtain ⟨b6, hb6, h⟩ := bR_e h
      refine r_getr hx hb hts (fun w h => List.mem_cons_of_mem _ (List.mem_append_left _ (List.mem_append_left _ (List.mem_append_left _ (List.mem_append_right _ (h)))))) hown hK hd hk_a0 hb6 rfl fs_9_4 (hts (.fieldLink RX9 33 "LevelVotes" "now" "LLevelVotes$Ballot;") (List.mem_of_getElem? (i := 4) rfl)) dX9_goBack_24 (fun hq => ?_)
      have hk_b6 : kd b6 = 0 := hq
      refine lv_aload_n hx hb dX9_goBack_27 rfl (lv_at hl 0 rfl) ?_
      obtain ⟨b7, hb7, h⟩ := bR_e h
      refine r_getr hx hb hts (fun w h => List.mem_cons_of_mem _ (List.mem_append_left _ (List.mem_append_left _ (List.mem_append_left _ (List.mem_append_left _ (List.mem_append_right _ (h))))))) hown hK hd hk_b4 hb7 rfl fs_5_0 (hts (.fieldLink RX9 297 "LevelVotes$Image" "ballot" "LLevelVotes$Ballot;") (List.mem_of_getElem? (i := 5) rfl)) dX9_goBack_28 (fun hq => ?_)
      have hk_b7 : kd b7 = 0 := hq
      obtain ⟨μ8, hc10, h⟩ := bV_e h
      refine rc_Vv (rest := []) [.ref (z + b7)] ⟨hx, hb, hml, hown, hts⟩ hK hd hS (c_X0_copy hk_b6 hk_b7 hc10) (cwV 1 hts gX9_goBack_X0_copy rfl rfl rfl hv_X0_copy ⟨Nat.le_of_ble_eq_true rfl, Nat.le_of_ble_eq_true rfl⟩) hk_b6 rfl rfl rfl rfl hl.1 rfl (Nat.le_of_ble_eq_true rfl) dX9_goBack_31 ⟨Nat.zero_le _, Nat.zero_le _⟩ (fun H locs hd hS => ?_)
      refine lv_aload_n hx hb dX9_goBack_34 rfl (lv_at hl 1 rfl) ?_
      obtain ⟨b11, hb11, h⟩ := bR_e h
      refine r_getr hx hb hts (fun w h => List.mem_cons_of_mem _ (List.mem_append_left _ (List.mem_append_left _ (List.mem_append_left _ (List.mem_append_right _ (h)))))) hown hK hd hk_a0 hb11 rfl fs_9_7 (hts (.fieldLink RX9 53 "LevelVotes" "draws" "LLevelVotes$Draws;") (List.mem_of_getElem? (i := 6) rfl)) dX9_goBack_35 (fun hq => ?_)
      have hk_b11 : kd b11 = 1 := hq
      refine lv_aload_n hx hb dX9_goBack_38 rfl (lv_at hl 0 rfl) ?_
      refine r_geti hx hb hts (fun w h => List.mem_cons_of_mem _ (List.mem_append_left _ (List.mem_append_left _ (List.mem_append_left _ (List.mem_append_left _ (List.mem_append_right _ (h))))))) hown hK hd hk_b4 rfl 1 fs_5_1 (hts (.fieldLink RX9 303 "LevelVotes$Image" "seedThen" "I") (List.mem_of_getElem? (i := 7) rfl)) dX9_goBack_39 ?_
      refine r_puti hx hb hts (fun w h => List.mem_cons_of_mem _ (List.mem_append_left _ (List.mem_append_left _ (List.mem_append_right _ (h))))) tyX1 tyX1_ok nmX1 hown hK hd hS hk_b11 rfl 0 fs_1_0 rfl (hts (.fieldLink RX9 290 "LevelVotes$Draws" "state" "I") (List.mem_of_getElem? (i := 8) rfl)) (vp_nar_int _) rfl dX9_goBack_42 (fun μ12 eμ12 H locs hd hS => ?_)
      have h := bM_e eμ12 h
      refine lv_aload_n hx hb dX9_goBack_45 rfl (lv_at hl 1 rfl) ?_
      obtain ⟨b13, hb13, h⟩ := bR_e h
      refine r_getr hx hb hts (fun w h => List.mem_cons_of_mem _ (List.mem_append_left _ (List.mem_append_left _ (List.mem_append_left _ (List.mem_append_right _ (h)))))) hown hK hd hk_a0 hb13 rfl fs_9_5 (hts (.fieldLink RX9 40 "LevelVotes" "history" "LLevelVotes$History;") (List.mem_of_getElem? (i := 9) rfl)) dX9_goBack_46 (fun hq => ?_)
      have hk_b13 : kd b13 = 3 := hq
      obtain ⟨μ14, hc16, h⟩ := bV_e h
      refine rc_Vv (rest := []) [] ⟨hx, hb, hml, hown, hts⟩ hK hd hS (c_X3_clear hk_b13 hc16) (cwV 0 hts gX9_goBack_X3_clear rfl rfl rfl hv_X3_clear ⟨Nat.le_of_ble_eq_true rfl, Nat.le_of_ble_eq_true rfl⟩) hk_b13 rfl rfl rfl rfl hl.1 rfl (Nat.le_of_ble_eq_true rfl) dX9_goBack_49 ⟨Nat.zero_le _, Nat.zero_le _⟩ (fun H locs hd hS => ?_)
      refine lv_iconst (v := 1) hx hb dX9_goBack_52 (by decide) ?_
      obtain ⟨rfl, rfl⟩ := so_e h
      exact rt_i hx hb hr hlk hd hS dX9_goBack_53
    · have h := if_y q5 h
      refine lv_ldc (v := -1000000003) hx hb hown (hts (.constant RX9 203 (-1000000003)) (List.mem_of_getElem? (i := 3) rfl)) dX9_goBack_20 ?_
      obtain ⟨rfl, rfl⟩ := so_e h
      exact rt_i hx hb hr hlk hd hS dX9_goBack_22
