theorem hv_X10_cell : yX10_cell.cls = RX10 ∧ yX10_cell.cls ≠ "java/lang/invoke/MethodHandle" ∧ yX10_cell.cls ≠ "java/lang/invoke/VarHandle" ∧ (parseMethodDescriptor yX10_cell.desc).map (fun d => d.parameters.length) = some 2 := by decide +kernel
def f_X10_cell (μ : Mm) (a0 : Nat) (x1 : Int32) (x2 : Int32) : Option (Int32 × Mm) := bC (f_X10_isCell μ a0 x1) (fun r2 μ1 => if r2 = 0 then (some ((-1000000001 : Int32), μ1)) else (bV (f_X10_lookNow μ1 a0) (fun μ5 => if x2 = 0 then (bR (μ5.2 a0 26) (fun b16 => gd (ckb x1 (ln b16)) (some (μ5.1 b16 (x1).toNatClampNeg, μ5)))) else (if x2 = (1 : Int32) then (bR (μ5.2 a0 2) (fun b14 => gd (ckb x1 (ln b14)) (some (μ5.1 b14 (x1).toNatClampNeg, μ5)))) else (if x2 = (2 : Int32) then (bC (f_X10_itemOf μ5 a0 x1) (fun r12 μ11 => some (r12, μ11))) else (some ((-1000000002 : Int32), μ5)))))))
set_option maxRecDepth 100000 in
theorem c_X10_cell {l : Launch} {D : va_G} {cA : Nat → ClassId} {z : Nat} {μ : Mm} {a0 : Nat} {x1 : Int32} {x2 : Int32} {r : Int32} {μ' : Mm} (hk_a0 : kd a0 = 10) (h : f_X10_cell μ a0 x1 x2 = some (r, μ')) : Ct l D cA z yX10_cell wsX10_cell 6 138 [.ref (z + a0), .int x1, .int x2] μ (some (.int r)) μ' := by
  refine m_in (cc := cX10_cell) (maxL := 3) (ret := (some .int)) (own := RX10) (by decide) rfl rfl (Nat.le_of_ble_eq_true rfl) ?_
  intro p e s m below meth c ls X hd hS hl
  obtain ⟨hx, hb, hr, hlk, hml, hown, hts, hK⟩ := id X
  have hl : lv_has ls 3 [(0, .ref (z + a0)), (1, .int x1), (2, .int x2)] := hl
  unfold f_X10_cell at h
  refine lv_aload_n hx hb dX10_cell_0 rfl (lv_at hl 0 rfl) ?_
  refine lv_iload_n hx hb dX10_cell_1 rfl (lv_at hl 1 rfl) ?_
  obtain ⟨r2, μ1, hc3, h⟩ := bC_e h
  refine rc_Vi (rest := []) [.int x1] ⟨hx, hb, hml, hown, hts⟩ hK hd hS (c_X10_isCell hk_a0 hc3) (cwV 1 hts gX10_cell_X10_isCell rfl rfl rfl hv_X10_isCell ⟨Nat.le_of_ble_eq_true rfl, Nat.le_of_ble_eq_true rfl⟩) hk_a0 rfl rfl rfl rfl hl.1 rfl (Nat.le_of_ble_eq_true rfl) dX10_cell_2 ⟨Nat.zero_le _, Nat.zero_le _⟩ (fun H locs hd hS => ?_)
  refine lv_if_ne (tgt := 11) hx hb dX10_cell_5 (by decide) (fun q4 => ?_) (fun q4 => ?_)
  · have h := if_n q4 h
    refine lv_aload_n hx hb dX10_cell_11 rfl (lv_at hl 0 rfl) ?_
    obtain ⟨μ5, hc7, h⟩ := bV_e h
    refine rc_Vv (rest := []) [] ⟨hx, hb, hml, hown, hts⟩ hK hd hS (c_X10_lookNow hk_a0 hc7) (cwV 0 hts gX10_cell_X10_lookNow rfl rfl rfl hv_X10_lookNow ⟨Nat.le_of_ble_eq_true rfl, Nat.le_of_ble_eq_true rfl⟩) hk_a0 rfl rfl rfl rfl hl.1 rfl (Nat.le_of_ble_eq_true rfl) dX10_cell_12 ⟨Nat.zero_le _, Nat.zero_le _⟩ (fun H locs hd hS => ?_)
    refine lv_iload_n hx hb dX10_cell_15 rfl (lv_at hl 2 rfl) ?_
    refine lv_if_ne (tgt := 28) hx hb dX10_cell_16 (by decide) (fun q8 => ?_) (fun q8 => ?_)
    · have h := if_n q8 h
      refine lv_iload_n hx hb dX10_cell_28 rfl (lv_at hl 2 rfl) ?_
      refine lv_iconst (v := 1) hx hb dX10_cell_29 (by decide) ?_
      refine lv_icmp_ne (tgt := 42) hx hb dX10_cell_30 (by decide) (fun q9 => ?_) (fun q9 => ?_)
      · have h := if_n q9 h
        refine lv_iload_n hx hb dX10_cell_42 rfl (lv_at hl 2 rfl) ?_
        refine lv_iconst (v := 2) hx hb dX10_cell_43 (by decide) ?_
        refine lv_icmp_ne (tgt := 55) hx hb dX10_cell_44 (by decide) (fun q10 => ?_) (fun q10 => ?_)
        · have h := if_n q10 h
          refine lv_ldc (v := -1000000002) hx hb hown (hts (.constant RX10 106 (-1000000002)) (List.mem_of_getElem? (i := 4) rfl)) dX10_cell_55 ?_
          obtain ⟨rfl, rfl⟩ := so_e h
          exact rt_i hx hb hr hlk hd hS dX10_cell_57
        · have h := if_y q10 h
          refine lv_aload_n hx hb dX10_cell_47 rfl (lv_at hl 0 rfl) ?_
          refine lv_iload_n hx hb dX10_cell_48 rfl (lv_at hl 1 rfl) ?_
          obtain ⟨r12, μ11, hc13, h⟩ := bC_e h
          refine rc_Vi (rest := []) [.int x1] ⟨hx, hb, hml, hown, hts⟩ hK hd hS (c_X10_itemOf hk_a0 hc13) (cwV 1 hts gX10_cell_X10_itemOf rfl rfl rfl hv_X10_itemOf ⟨Nat.le_of_ble_eq_true rfl, Nat.le_of_ble_eq_true rfl⟩) hk_a0 rfl rfl rfl rfl hl.1 rfl (Nat.le_of_ble_eq_true rfl) dX10_cell_49 ⟨Nat.zero_le _, Nat.zero_le _⟩ (fun H locs hd hS => ?_)
          refine lv_goto (tgt := 57) hx hb dX10_cell_52 (by decide) ?_
          obtain ⟨rfl, rfl⟩ := so_e h
          exact rt_i hx hb hr hlk hd hS dX10_cell_57
      · have h := if_y q9 h
        refine lv_aload_n hx hb dX10_cell_33 rfl (lv_at hl 0 rfl) ?_
        obtain ⟨b14, hb14, h⟩ := bR_e h
        refine r_getr hx hb hts (fun w h => List.mem_cons_of_mem _ (List.mem_append_right _ (h))) hown hK hd hk_a0 hb14 rfl fs_10_2 (hts (.fieldLink RX10 7 "LevelVotesModel" "ground" "[I") (List.mem_of_getElem? (i := 3) rfl)) dX10_cell_34 (fun hq => ?_)
        have hk_b14 : kd b14 = 11 := hq
        refine lv_iload_n hx hb dX10_cell_37 rfl (lv_at hl 1 rfl) ?_
        obtain ⟨g15, h⟩ := gd_e h
        refine r_iald hx hb hK hd hk_b14 (ckb_in g15) dX10_cell_38 ?_
        refine lv_goto (tgt := 57) hx hb dX10_cell_39 (by decide) ?_
        obtain ⟨rfl, rfl⟩ := so_e h
        exact rt_i hx hb hr hlk hd hS dX10_cell_57
    · have h := if_y q8 h
      refine lv_aload_n hx hb dX10_cell_19 rfl (lv_at hl 0 rfl) ?_
      obtain ⟨b16, hb16, h⟩ := bR_e h
      refine r_getr hx hb hts (fun w h => List.mem_cons_of_mem _ (List.mem_append_right _ (h))) hown hK hd hk_a0 hb16 rfl fs_10_26 (hts (.fieldLink RX10 53 "LevelVotesModel" "heights" "[I") (List.mem_of_getElem? (i := 2) rfl)) dX10_cell_20 (fun hq => ?_)
      have hk_b16 : kd b16 = 11 := hq
      refine lv_iload_n hx hb dX10_cell_23 rfl (lv_at hl 1 rfl) ?_
      obtain ⟨g17, h⟩ := gd_e h
      refine r_iald hx hb hK hd hk_b16 (ckb_in g17) dX10_cell_24 ?_
      refine lv_goto (tgt := 57) hx hb dX10_cell_25 (by decide) ?_
      obtain ⟨rfl, rfl⟩ := so_e h
      exact rt_i hx hb hr hlk hd hS dX10_cell_57
  · have h := if_y q4 h
    refine lv_ldc (v := -1000000001) hx hb hown (hts (.constant RX10 226 (-1000000001)) (List.mem_of_getElem? (i := 1) rfl)) dX10_cell_8 ?_
    obtain ⟨rfl, rfl⟩ := so_e h
    exact rt_i hx hb hr hlk hd hS dX10_cell_10
theorem hv_X10_cellsOf : yX10_cellsOf.cls = RX10 ∧ yX10_cellsOf.cls ≠ "java/lang/invoke/MethodHandle" ∧ yX10_cellsOf.cls ≠ "java/lang/invoke/VarHandle" ∧ (parseMethodDescriptor yX10_cellsOf.desc).map (fun d => d.parameters.length) = some 1 := by decide +kernel
abbrev HL_X10_cellsOf_4 (l : Launch) (D : va_G) (cA : Nat → ClassId) (z : Nat) (av : List Value) (r : Int32) (μ' : Mm) (p : Program) (e : Env) (s : State) (m : MethodId) (below : List Frame) (meth : Method) (c : Code) (rc : Mm → Nat → Int32 → Int32 → Int32 → Option (Int32 × Mm)) : Prop := ∀ (μ : Mm) (H : Heap) (locs : List Loc) (ls : Array Slot) (a0 : Nat) (x1 : Int32) (x2 : Int32) (x3 : Int32), kd a0 = 10 → Wd D cA z μ H → va_S (Az z) s.heap H locs → lv_has ls 4 [(0, .ref (z + a0)), (1, .int x1), (2, .int x2), (3, .int x3)] → rc μ a0 x1 x2 x3 = some (r, μ') → WG l D cA z wsX10_cellsOf 2 50 av (some (.int r)) μ' p e s m below meth c H locs (F0 m 4 ls [])
def f_X10_cellsOf_j29 (rc4 : Mm → Nat → Int32 → Int32 → Int32 → Option (Int32 × Mm)) (μ : Mm) (a0 : Nat) (x1 : Int32) (x3 : Int32) (ys0 : Int32) (ys1 : Int32) : Option (Int32 × Mm) := bI (ys1 ||| ys0) (fun v1 => rc4 μ a0 x1 v1 (x3 + (1 : Int32)))
set_option maxRecDepth 100000 in
theorem k_f_X10_cellsOf_j29 {l : Launch} {D : va_G} {cA : Nat → ClassId} {z : Nat} {av : List Value} {p : Program} {e : Env} {s : State} {m : MethodId} {below : List Frame} {meth : Method} {c : Code} {r : Int32} {μ' : Mm} (X : Fx D cA RX10 wsX10_cellsOf cX10_cellsOf 4 (some .int) p s m av.toArray meth c) {rc4 : Mm → Nat → Int32 → Int32 → Int32 → Option (Int32 × Mm)} (hrc4 : HL_X10_cellsOf_4 l D cA z av r μ' p e s m below meth c rc4) {μ : Mm} {a0 : Nat} {x1 : Int32} {x3 : Int32} {ys0 : Int32} {ys1 : Int32} (hk_a0 : kd a0 = 10) {H : Heap} {locs : List Loc} {ls : Array Slot} (hd : Wd D cA z μ H) (hS : va_S (Az z) s.heap H locs) (hl : lv_has ls 4 [(0, .ref (z + a0)), (1, .int x1), (3, .int x3)]) (h : f_X10_cellsOf_j29 rc4 μ a0 x1 x3 ys0 ys1 = some (r, μ')) : WG l D cA z wsX10_cellsOf 2 50 av (some (.int r)) μ' p e s m below meth c H locs (F0 m 29 ls [.int ys0, .int ys1]) := by
  obtain ⟨hx, hb, hr, hlk, hml, hown, hts, hK⟩ := id X
  unfold f_X10_cellsOf_j29 at h
  refine lv_ior hx hb dX10_cellsOf_29 ?_
  refine lv_topi (fun v1 ev1 => ?_)
  have h := bI_e ev1 h
  refine lv_istore_n (lv' := [(2, .int v1), (0, .ref (z + a0)), (1, .int x1), (3, .int x3)]) hx hb dX10_cellsOf_30 rfl hl (by decide) rfl (fun ls hl => ?_)
  refine lv_iinc (v := x3 + (1 : Int32)) (lv' := [(3, .int (x3 + (1 : Int32))), (2, .int v1), (0, .ref (z + a0)), (1, .int x1)]) hx hb dX10_cellsOf_31 hl (k := 3) rfl rfl (by decide) rfl (fun ls hl => ?_)
  refine lv_goto (tgt := 4) hx hb dX10_cellsOf_34 (by decide) ?_
  exact hrc4 _ _ _ _ _ _ _ _ hk_a0 hd hS (lv_sub hl [2, 3, 1, 0] rfl) h
def f_X10_cellsOf_L4b (rc4 : Mm → Nat → Int32 → Int32 → Int32 → Option (Int32 × Mm)) (μ : Mm) (a0 : Nat) (x1 : Int32) (x2 : Int32) (x3 : Int32) : Option (Int32 × Mm) := bC (f_X10_cells μ a0) (fun r2 μ1 => if r2 ≤ x3 then (some (x2, μ1)) else (bC (f_X10_isOf μ1 a0 x1 x3) (fun r6 μ5 => if r6 = 0 then (f_X10_cellsOf_j29 rc4 μ5 a0 x1 x3 (0 : Int32) x2) else (f_X10_cellsOf_j29 rc4 μ5 a0 x1 x3 ((1 : Int32) <<< (x3 &&& 31)) x2))))
set_option maxRecDepth 100000 in
theorem k_f_X10_cellsOf_L4b {l : Launch} {D : va_G} {cA : Nat → ClassId} {z : Nat} {av : List Value} {p : Program} {e : Env} {s : State} {m : MethodId} {below : List Frame} {meth : Method} {c : Code} {r : Int32} {μ' : Mm} (X : Fx D cA RX10 wsX10_cellsOf cX10_cellsOf 4 (some .int) p s m av.toArray meth c) {rc4 : Mm → Nat → Int32 → Int32 → Int32 → Option (Int32 × Mm)} (hrc4 : HL_X10_cellsOf_4 l D cA z av r μ' p e s m below meth c rc4) {μ : Mm} {a0 : Nat} {x1 : Int32} {x2 : Int32} {x3 : Int32} (hk_a0 : kd a0 = 10) {H : Heap} {locs : List Loc} {ls : Array Slot} (hd : Wd D cA z μ H) (hS : va_S (Az z) s.heap H locs) (hl : lv_has ls 4 [(0, .ref (z + a0)), (1, .int x1), (2, .int x2), (3, .int x3)]) (h : f_X10_cellsOf_L4b rc4 μ a0 x1 x2 x3 = some (r, μ')) : WG l D cA z wsX10_cellsOf 2 50 av (some (.int r)) μ' p e s m below meth c H locs (F0 m 4 ls []) := by
  obtain ⟨hx, hb, hr, hlk, hml, hown, hts, hK⟩ := id X
  unfold f_X10_cellsOf_L4b at h
  refine lv_iload_n hx hb dX10_cellsOf_4 rfl (lv_at hl 3 rfl) ?_
  refine lv_aload_n hx hb dX10_cellsOf_5 rfl (lv_at hl 0 rfl) ?_
  obtain ⟨r2, μ1, hc3, h⟩ := bC_e h
  refine rc_Vi (rest := [.int x3]) [] ⟨hx, hb, hml, hown, hts⟩ hK hd hS (c_X10_cells hk_a0 hc3) (cwV 0 hts gX10_cellsOf_X10_cells rfl rfl rfl hv_X10_cells ⟨Nat.le_of_ble_eq_true rfl, Nat.le_of_ble_eq_true rfl⟩) hk_a0 rfl rfl rfl rfl hl.1 rfl (Nat.le_of_ble_eq_true rfl) dX10_cellsOf_6 ⟨Nat.zero_le _, Nat.zero_le _⟩ (fun H locs hd hS => ?_)
  refine lv_icmp_ge (tgt := 37) hx hb dX10_cellsOf_9 (by decide) (fun q4 => ?_) (fun q4 => ?_)
  · have h := if_y q4 h
    refine lv_iload_n hx hb dX10_cellsOf_37 rfl (lv_at hl 2 rfl) ?_
    obtain ⟨rfl, rfl⟩ := so_e h
    exact rt_i hx hb hr hlk hd hS dX10_cellsOf_38
  · have h := if_n q4 h
    refine lv_iload_n hx hb dX10_cellsOf_12 rfl (lv_at hl 2 rfl) ?_
    refine lv_aload_n hx hb dX10_cellsOf_13 rfl (lv_at hl 0 rfl) ?_
    refine lv_iload_n hx hb dX10_cellsOf_14 rfl (lv_at hl 1 rfl) ?_
    refine lv_iload_n hx hb dX10_cellsOf_15 rfl (lv_at hl 3 rfl) ?_
    obtain ⟨r6, μ5, hc7, h⟩ := bC_e h
    refine rc_Vi (rest := [.int x2]) [.int x1, .int x3] ⟨hx, hb, hml, hown, hts⟩ hK hd hS (c_X10_isOf hk_a0 hc7) (cwV 2 hts gX10_cellsOf_X10_isOf rfl rfl rfl hv_X10_isOf ⟨Nat.le_of_ble_eq_true rfl, Nat.le_of_ble_eq_true rfl⟩) hk_a0 rfl rfl rfl rfl hl.1 rfl (Nat.le_of_ble_eq_true rfl) dX10_cellsOf_16 ⟨Nat.zero_le _, Nat.zero_le _⟩ (fun H locs hd hS => ?_)
    refine lv_if_eq (tgt := 28) hx hb dX10_cellsOf_19 (by decide) (fun q8 => ?_) (fun q8 => ?_)
    · have h := if_y q8 h
      refine lv_iconst (v := 0) hx hb dX10_cellsOf_28 (by decide) ?_
      exact k_f_X10_cellsOf_j29 X hrc4 hk_a0 hd hS (lv_sub hl [0, 1, 3] rfl) h
    · have h := if_n q8 h
      refine lv_iconst (v := 1) hx hb dX10_cellsOf_22 (by decide) ?_
      refine lv_iload_n hx hb dX10_cellsOf_23 rfl (lv_at hl 3 rfl) ?_
      refine lv_ishl hx hb dX10_cellsOf_24 ?_
      refine lv_goto (tgt := 29) hx hb dX10_cellsOf_25 (by decide) ?_
      exact k_f_X10_cellsOf_j29 X hrc4 hk_a0 hd hS (lv_sub hl [0, 1, 3] rfl) h
def f_X10_cellsOf_L4 : Nat → Mm → Nat → Int32 → Int32 → Int32 → Option (Int32 × Mm)
  | 0 => fun _ _ _ _ _ => none
  | n + 1 => fun μ a0 x1 x2 x3 => f_X10_cellsOf_L4b (f_X10_cellsOf_L4 n) μ a0 x1 x2 x3
theorem k_f_X10_cellsOf_L4 {l : Launch} {D : va_G} {cA : Nat → ClassId} {z : Nat} {av : List Value} {p : Program} {e : Env} {s : State} {m : MethodId} {below : List Frame} {meth : Method} {c : Code} {r : Int32} {μ' : Mm} (X : Fx D cA RX10 wsX10_cellsOf cX10_cellsOf 4 (some .int) p s m av.toArray meth c) (n : Nat) : HL_X10_cellsOf_4 l D cA z av r μ' p e s m below meth c (f_X10_cellsOf_L4 n) := by
  induction n with
  | zero => intro _ _ _ _ _ _ _ _ _ _ _ _ h; have h2 : (none : Option _) = some _ := h; cases h2
  | succ n ih => intro μ H locs ls a0 x1 x2 x3 hk_a0 hd hS hl h; exact k_f_X10_cellsOf_L4b X ih hk_a0 hd hS hl h
def f_X10_cellsOf (μ : Mm) (a0 : Nat) (x1 : Int32) : Option (Int32 × Mm) := f_X10_cellsOf_L4 FU μ a0 x1 (0 : Int32) (0 : Int32)
set_option maxRecDepth 100000 in
theorem c_X10_cellsOf {l : Launch} {D : va_G} {cA : Nat → ClassId} {z : Nat} {μ : Mm} {a0 : Nat} {x1 : Int32} {r : Int32} {μ' : Mm} (hk_a0 : kd a0 = 10) (h : f_X10_cellsOf μ a0 x1 = some (r, μ')) : Ct l D cA z yX10_cellsOf wsX10_cellsOf 2 50 [.ref (z + a0), .int x1] μ (some (.int r)) μ' := by
  refine m_in (cc := cX10_cellsOf) (maxL := 4) (ret := (some .int)) (own := RX10) (by decide) rfl rfl (Nat.le_of_ble_eq_true rfl) ?_
  intro p e s m below meth c ls X hd hS hl
  obtain ⟨hx, hb, hr, hlk, hml, hown, hts, hK⟩ := id X
  have hl : lv_has ls 4 [(0, .ref (z + a0)), (1, .int x1)] := hl
  unfold f_X10_cellsOf at h
  refine lv_iconst (v := 0) hx hb dX10_cellsOf_0 (by decide) ?_
  refine lv_istore_n (lv' := [(2, .int (0 : Int32)), (0, .ref (z + a0)), (1, .int x1)]) hx hb dX10_cellsOf_1 rfl hl (by decide) rfl (fun ls hl => ?_)
  refine lv_iconst (v := 0) hx hb dX10_cellsOf_2 (by decide) ?_
  refine lv_istore_n (lv' := [(3, .int (0 : Int32)), (2, .int (0 : Int32)), (0, .ref (z + a0)), (1, .int x1)]) hx hb dX10_cellsOf_3 rfl hl (by decide) rfl (fun ls hl => ?_)
  exact k_f_X10_cellsOf_L4 X FU _ _ _ _ _ _ _ _ hk_a0 hd hS (lv_sub hl [2, 3, 1, 0] rfl) h
theorem hv_X10_spreadOf : yX10_spreadOf.cls = RX10 ∧ yX10_spreadOf.cls ≠ "java/lang/invoke/MethodHandle" ∧ yX10_spreadOf.cls ≠ "java/lang/invoke/VarHandle" ∧ (parseMethodDescriptor yX10_spreadOf.desc).map (fun d => d.parameters.length) = some 1 := by decide +kernel
abbrev HL_X10_spreadOf_13 (l : Launch) (D : va_G) (cA : Nat → ClassId) (z : Nat) (av : List Value) (r : Int32) (μ' : Mm) (p : Program) (e : Env) (s : State) (m : MethodId) (below : List Frame) (meth : Method) (c : Code) (rc : Mm → Nat → Int32 → Int32 → Int32 → Int32 → Option (Int32 × Mm)) : Prop := ∀ (μ : Mm) (H : Heap) (locs : List Loc) (ls : Array Slot) (a0 : Nat) (x1 : Int32) (x2 : Int32) (x3 : Int32) (x4 : Int32), kd a0 = 10 → Wd D cA z μ H → va_S (Az z) s.heap H locs → lv_has ls 5 [(0, .ref (z + a0)), (1, .int x1), (2, .int x2), (3, .int x3), (4, .int x4)] → rc μ a0 x1 x2 x3 x4 = some (r, μ') → WG l D cA z wsX10_spreadOf 6 138 av (some (.int r)) μ' p e s m below meth c H locs (F0 m 13 ls [])
def f_X10_spreadOf_j85 (rc13 : Mm → Nat → Int32 → Int32 → Int32 → Int32 → Option (Int32 × Mm)) (μ : Mm) (a0 : Nat) (x1 : Int32) (x2 : Int32) (x4 : Int32) (ys0 : Int32) : Option (Int32 × Mm) := rc13 μ a0 x1 x2 ys0 (x4 + (1 : Int32))
set_option maxRecDepth 100000 in
theorem k_f_X10_spreadOf_j85 {l : Launch} {D : va_G} {cA : Nat → ClassId} {z : Nat} {av : List Value} {p : Program} {e : Env} {s : State} {m : MethodId} {below : List Frame} {meth : Method} {c : Code} {r : Int32} {μ' : Mm} (X : Fx D cA RX10 wsX10_spreadOf cX10_spreadOf 5 (some .int) p s m av.toArray meth c) {rc13 : Mm → Nat → Int32 → Int32 → Int32 → Int32 → Option (Int32 × Mm)} (hrc13 : HL_X10_spreadOf_13 l D cA z av r μ' p e s m below meth c rc13) {μ : Mm} {a0 : Nat} {x1 : Int32} {x2 : Int32} {x4 : Int32} {ys0 : Int32} (hk_a0 : kd a0 = 10) {H : Heap} {locs : List Loc} {ls : Array Slot} (hd : Wd D cA z μ H) (hS : va_S (Az z) s.heap H locs) (hl : lv_has ls 5 [(0, .ref (z + a0)), (1, .int x1), (2, .int x2), (4, .int x4)]) (h : f_X10_spreadOf_j85 rc13 μ a0 x1 x2 x4 ys0 = some (r, μ')) : WG l D cA z wsX10_spreadOf 6 138 av (some (.int r)) μ' p e s m below meth c H locs (F0 m 85 ls [.int ys0]) := by
  obtain ⟨hx, hb, hr, hlk, hml, hown, hts, hK⟩ := id X
  unfold f_X10_spreadOf_j85 at h
  refine lv_istore_n (lv' := [(3, .int ys0), (0, .ref (z + a0)), (1, .int x1), (2, .int x2), (4, .int x4)]) hx hb dX10_spreadOf_85 rfl hl (by decide) rfl (fun ls hl => ?_)
  refine lv_iinc (v := x4 + (1 : Int32)) (lv' := [(4, .int (x4 + (1 : Int32))), (3, .int ys0), (0, .ref (z + a0)), (1, .int x1), (2, .int x2)]) hx hb dX10_spreadOf_86 hl (k := 4) rfl rfl (by decide) rfl (fun ls hl => ?_)
  refine lv_goto (tgt := 13) hx hb dX10_spreadOf_89 (by decide) ?_
  exact hrc13 _ _ _ _ _ _ _ _ _ hk_a0 hd hS (lv_sub hl [2, 3, 4, 1, 0] rfl) h
def f_X10_spreadOf_j84 (rc13 : Mm → Nat → Int32 → Int32 → Int32 → Int32 → Option (Int32 × Mm)) (μ : Mm) (a0 : Nat) (x1 : Int32) (x2 : Int32) (x3 : Int32) (x4 : Int32) : Option (Int32 × Mm) := f_X10_spreadOf_j85 rc13 μ a0 x1 x2 x4 x3
set_option maxRecDepth 100000 in
theorem k_f_X10_spreadOf_j84 {l : Launch} {D : va_G} {cA : Nat → ClassId} {z : Nat} {av : List Value} {p : Program} {e : Env} {s : State} {m : MethodId} {below : List Frame} {meth : Method} {c : Code} {r : Int32} {μ' : Mm} (X : Fx D cA RX10 wsX10_spreadOf cX10_spreadOf 5 (some .int) p s m av.toArray meth c) {rc13 : Mm → Nat → Int32 → Int32 → Int32 → Int32 → Option (Int32 × Mm)} (hrc13 : HL_X10_spreadOf_13 l D cA z av r μ' p e s m below meth c rc13) {μ : Mm} {a0 : Nat} {x1 : Int32} {x2 : Int32} {x3 : Int32} {x4 : Int32} (hk_a0 : kd a0 = 10) {H : Heap} {locs : List Loc} {ls : Array Slot} (hd : Wd D cA z μ H) (hS : va_S (Az z) s.heap H locs) (hl : lv_has ls 5 [(0, .ref (z + a0)), (1, .int x1), (2, .int x2), (3, .int x3), (4, .int x4)]) (h : f_X10_spreadOf_j84 rc13 μ a0 x1 x2 x3 x4 = some (r, μ')) : WG l D cA z wsX10_spreadOf 6 138 av (some (.int r)) μ' p e s m below meth c H locs (F0 m 84 ls []) := by
  obtain ⟨hx, hb, hr, hlk, hml, hown, hts, hK⟩ := id X
  unfold f_X10_spreadOf_j84 at h
  refine lv_iload_n hx hb dX10_spreadOf_84 rfl (lv_at hl 3 rfl) ?_
  exact k_f_X10_spreadOf_j85 X hrc13 hk_a0 hd hS (lv_sub hl [0, 1, 2, 4] rfl) h
def f_X10_spreadOf_j53 (rc13 : Mm → Nat → Int32 → Int32 → Int32 → Int32 → Option (Int32 × Mm)) (μ : Mm) (a0 : Nat) (x1 : Int32) (x3 : Int32) (x4 : Int32) (ys0 : Int32) : Option (Int32 × Mm) := bC (f_X10_has μ x1 x4) (fun r2 μ1 => if r2 = 0 then (f_X10_spreadOf_j84 rc13 μ1 a0 x1 ys0 x3 x4) else (bR (μ1.2 a0 26) (fun b5 => gd (ckb x4 (ln b5)) (if (μ1.1 b5 (x4).toNatClampNeg) ≤ x3 then (f_X10_spreadOf_j84 rc13 μ1 a0 x1 ys0 x3 x4) else (bR (μ1.2 a0 26) (fun b8 => gd (ckb x4 (ln b8)) (f_X10_spreadOf_j85 rc13 μ1 a0 x1 ys0 x4 (μ1.1 b8 (x4).toNatClampNeg))))))))
set_option maxRecDepth 100000 in
theorem k_f_X10_spreadOf_j53 {l : Launch} {D : va_G} {cA : Nat → ClassId} {z : Nat} {av : List Value} {p : Program} {e : Env} {s : State} {m : MethodId} {below : List Frame} {meth : Method} {c : Code} {r : Int32} {μ' : Mm} (X : Fx D cA RX10 wsX10_spreadOf cX10_spreadOf 5 (some .int) p s m av.toArray meth c) {rc13 : Mm → Nat → Int32 → Int32 → Int32 → Int32 → Option (Int32 × Mm)} (hrc13 : HL_X10_spreadOf_13 l D cA z av r μ' p e s m below meth c rc13) {μ : Mm} {a0 : Nat} {x1 : Int32} {x3 : Int32} {x4 : Int32} {ys0 : Int32} (hk_a0 : kd a0 = 10) {H : Heap} {locs : List Loc} {ls : Array Slot} (hd : Wd D cA z μ H) (hS : va_S (Az z) s.heap H locs) (hl : lv_has ls 5 [(0, .ref (z + a0)), (1, .int x1), (3, .int x3), (4, .int x4)]) (h : f_X10_spreadOf_j53 rc13 μ a0 x1 x3 x4 ys0 = some (r, μ')) : WG l D cA z wsX10_spreadOf 6 138 av (some (.int r)) μ' p e s m below meth c H locs (F0 m 53 ls [.int ys0]) := by
  obtain ⟨hx, hb, hr, hlk, hml, hown, hts, hK⟩ := id X
  unfold f_X10_spreadOf_j53 at h
  refine lv_istore_n (lv' := [(2, .int ys0), (0, .ref (z + a0)), (1, .int x1), (3, .int x3), (4, .int x4)]) hx hb dX10_spreadOf_53 rfl hl (by decide) rfl (fun ls hl => ?_)
  refine lv_iload_n hx hb dX10_spreadOf_54 rfl (lv_at hl 2 rfl) ?_
  refine lv_iload hx hb dX10_spreadOf_55 (lv_at hl 4 rfl) ?_
  obtain ⟨r2, μ1, hc3, h⟩ := bC_e h
  refine rc_Si (rest := []) [.int x1, .int x4] ⟨hx, hb, hml, hown, hts⟩ hK hd hS (c_X10_has  hc3) (va_cwS 2 hts gX10_spreadOf_X10_has rfl rfl rfl hn_X10_has ⟨Nat.le_of_ble_eq_true rfl, Nat.le_of_ble_eq_true rfl⟩) rfl hl.1 rfl (Nat.le_of_ble_eq_true rfl) dX10_spreadOf_57 ⟨Nat.zero_le _, Nat.zero_le _⟩ (fun H locs hd hS => ?_)
  refine lv_if_eq (tgt := 84) hx hb dX10_spreadOf_60 (by decide) (fun q4 => ?_) (fun q4 => ?_)
  · have h := if_y q4 h
    exact k_f_X10_spreadOf_j84 X hrc13 hk_a0 hd hS (lv_sub hl [1, 2, 0, 3, 4] rfl) h
  · have h := if_n q4 h
    refine lv_aload_n hx hb dX10_spreadOf_63 rfl (lv_at hl 1 rfl) ?_
    obtain ⟨b5, hb5, h⟩ := bR_e h
    refine r_getr hx hb hts (fun w h => List.mem_cons_of_mem _ (List.mem_append_right _ (h))) hown hK hd hk_a0 hb5 rfl fs_10_26 (hts (.fieldLink RX10 53 "LevelVotesModel" "heights" "[I") (List.mem_of_getElem? (i := 1) rfl)) dX10_spreadOf_64 (fun hq => ?_)
    have hk_b5 : kd b5 = 11 := hq
    refine lv_iload hx hb dX10_spreadOf_67 (lv_at hl 4 rfl) ?_
    obtain ⟨g6, h⟩ := gd_e h
    refine r_iald hx hb hK hd hk_b5 (ckb_in g6) dX10_spreadOf_69 ?_
    refine lv_iload_n hx hb dX10_spreadOf_70 rfl (lv_at hl 3 rfl) ?_
    refine lv_icmp_le (tgt := 84) hx hb dX10_spreadOf_71 (by decide) (fun q7 => ?_) (fun q7 => ?_)
    · have h := if_y q7 h
      exact k_f_X10_spreadOf_j84 X hrc13 hk_a0 hd hS (lv_sub hl [1, 2, 0, 3, 4] rfl) h
    · have h := if_n q7 h
      refine lv_aload_n hx hb dX10_spreadOf_74 rfl (lv_at hl 1 rfl) ?_
      obtain ⟨b8, hb8, h⟩ := bR_e h
      refine r_getr hx hb hts (fun w h => List.mem_cons_of_mem _ (List.mem_append_right _ (h))) hown hK hd hk_a0 hb8 rfl fs_10_26 (hts (.fieldLink RX10 53 "LevelVotesModel" "heights" "[I") (List.mem_of_getElem? (i := 1) rfl)) dX10_spreadOf_75 (fun hq => ?_)
      have hk_b8 : kd b8 = 11 := hq
      refine lv_iload hx hb dX10_spreadOf_78 (lv_at hl 4 rfl) ?_
      obtain ⟨g9, h⟩ := gd_e h
      refine r_iald hx hb hK hd hk_b8 (ckb_in g9) dX10_spreadOf_80 ?_
      refine lv_goto (tgt := 85) hx hb dX10_spreadOf_81 (by decide) ?_
      exact k_f_X10_spreadOf_j85 X hrc13 hk_a0 hd hS (lv_sub hl [1, 2, 0, 4] rfl) h
def f_X10_spreadOf_j52 (rc13 : Mm → Nat → Int32 → Int32 → Int32 → Int32 → Option (Int32 × Mm)) (μ : Mm) (a0 : Nat) (x1 : Int32) (x2 : Int32) (x3 : Int32) (x4 : Int32) : Option (Int32 × Mm) := f_X10_spreadOf_j53 rc13 μ a0 x1 x3 x4 x2
set_option maxRecDepth 100000 in
theorem k_f_X10_spreadOf_j52 {l : Launch} {D : va_G} {cA : Nat → ClassId} {z : Nat} {av : List Value} {p : Program} {e : Env} {s : State} {m : MethodId} {below : List Frame} {meth : Method} {c : Code} {r : Int32} {μ' : Mm} (X : Fx D cA RX10 wsX10_spreadOf cX10_spreadOf 5 (some .int) p s m av.toArray meth c) {rc13 : Mm → Nat → Int32 → Int32 → Int32 → Int32 → Option (Int32 × Mm)} (hrc13 : HL_X10_spreadOf_13 l D cA z av r μ' p e s m below meth c rc13) {μ : Mm} {a0 : Nat} {x1 : Int32} {x2 : Int32} {x3 : Int32} {x4 : Int32} (hk_a0 : kd a0 = 10) {H : Heap} {locs : List Loc} {ls : Array Slot} (hd : Wd D cA z μ H) (hS : va_S (Az z) s.heap H locs) (hl : lv_has ls 5 [(0, .ref (z + a0)), (1, .int x1), (2, .int x2), (3, .int x3), (4, .int x4)]) (h : f_X10_spreadOf_j52 rc13 μ a0 x1 x2 x3 x4 = some (r, μ')) : WG l D cA z wsX10_spreadOf 6 138 av (some (.int r)) μ' p e s m below meth c H locs (F0 m 52 ls []) := by
  obtain ⟨hx, hb, hr, hlk, hml, hown, hts, hK⟩ := id X
  unfold f_X10_spreadOf_j52 at h
  refine lv_iload_n hx hb dX10_spreadOf_52 rfl (lv_at hl 2 rfl) ?_
  exact k_f_X10_spreadOf_j53 X hrc13 hk_a0 hd hS (lv_sub hl [0, 1, 3, 4] rfl) h
def f_X10_spreadOf_L13b (rc13 : Mm → Nat → Int32 → Int32 → Int32 → Int32 → Option (Int32 × Mm)) (μ : Mm) (a0 : Nat) (x1 : Int32) (x2 : Int32) (x3 : Int32) (x4 : Int32) : Option (Int32 × Mm) := bC (f_X10_cells μ a0) (fun r2 μ1 => if r2 ≤ x4 then (if 0 ≤ x3 then (some (x3 - x2, μ1)) else (some ((0 : Int32), μ1))) else (bC (f_X10_has μ1 x1 x4) (fun r7 μ6 => if r7 = 0 then (f_X10_spreadOf_j52 rc13 μ6 a0 x1 x2 x3 x4) else (bR (μ6.2 a0 26) (fun b10 => gd (ckb x4 (ln b10)) (if x2 ≤ (μ6.1 b10 (x4).toNatClampNeg) then (f_X10_spreadOf_j52 rc13 μ6 a0 x1 x2 x3 x4) else (bR (μ6.2 a0 26) (fun b13 => gd (ckb x4 (ln b13)) (f_X10_spreadOf_j53 rc13 μ6 a0 x1 x3 x4 (μ6.1 b13 (x4).toNatClampNeg))))))))))
set_option maxRecDepth 100000 in
theorem k_f_X10_spreadOf_L13b {l : Launch} {D : va_G} {cA : Nat → ClassId} {z : Nat} {av : List Value} {p : Program} {e : Env} {s : State} {m : MethodId} {below : List Frame} {meth : Method} {c : Code} {r : Int32} {μ' : Mm} (X : Fx D cA RX10 wsX10_spreadOf cX10_spreadOf 5 (some .int) p s m av.toArray meth c) {rc13 : Mm → Nat → Int32 → Int32 → Int32 → Int32 → Option (Int32 × Mm)} (hrc13 : HL_X10_spreadOf_13 l D cA z av r μ' p e s m below meth c rc13) {μ : Mm} {a0 : Nat} {x1 : Int32} {x2 : Int32} {x3 : Int32} {x4 : Int32} (hk_a0 : kd a0 = 10) {H : Heap} {locs : List Loc} {ls : Array Slot} (hd : Wd D cA z μ H) (hS : va_S (Az z) s.heap H locs) (hl : lv_has ls 5 [(0, .ref (z + a0)), (1, .int x1), (2, .int x2), (3, .int x3), (4, .int x4)]) (h : f_X10_spreadOf_L13b rc13 μ a0 x1 x2 x3 x4 = some (r, μ')) : WG l D cA z wsX10_spreadOf 6 138 av (some (.int r)) μ' p e s m below meth c H locs (F0 m 13 ls []) := by
  obtain ⟨hx, hb, hr, hlk, hml, hown, hts, hK⟩ := id X
  unfold f_X10_spreadOf_L13b at h
  refine lv_iload hx hb dX10_spreadOf_13 (lv_at hl 4 rfl) ?_
  refine lv_aload_n hx hb dX10_spreadOf_15 rfl (lv_at hl 0 rfl) ?_
  obtain ⟨r2, μ1, hc3, h⟩ := bC_e h
  refine rc_Vi (rest := [.int x4]) [] ⟨hx, hb, hml, hown, hts⟩ hK hd hS (c_X10_cells hk_a0 hc3) (cwV 0 hts gX10_spreadOf_X10_cells rfl rfl rfl hv_X10_cells ⟨Nat.le_of_ble_eq_true rfl, Nat.le_of_ble_eq_true rfl⟩) hk_a0 rfl rfl rfl rfl hl.1 rfl (Nat.le_of_ble_eq_true rfl) dX10_spreadOf_16 ⟨Nat.zero_le _, Nat.zero_le _⟩ (fun H locs hd hS => ?_)
  refine lv_icmp_ge (tgt := 92) hx hb dX10_spreadOf_19 (by decide) (fun q4 => ?_) (fun q4 => ?_)
  · have h := if_y q4 h
    refine lv_iload_n hx hb dX10_spreadOf_92 rfl (lv_at hl 3 rfl) ?_
    refine lv_if_ge (tgt := 100) hx hb dX10_spreadOf_93 (by decide) (fun q5 => ?_) (fun q5 => ?_)
    · have h := if_y q5 h
      refine lv_iload_n hx hb dX10_spreadOf_100 rfl (lv_at hl 3 rfl) ?_
      refine lv_iload_n hx hb dX10_spreadOf_101 rfl (lv_at hl 2 rfl) ?_
      refine lv_isub hx hb dX10_spreadOf_102 ?_
      obtain ⟨rfl, rfl⟩ := so_e h
      exact rt_i hx hb hr hlk hd hS dX10_spreadOf_103
    · have h := if_n q5 h
      refine lv_iconst (v := 0) hx hb dX10_spreadOf_96 (by decide) ?_
      refine lv_goto (tgt := 103) hx hb dX10_spreadOf_97 (by decide) ?_
      obtain ⟨rfl, rfl⟩ := so_e h
      exact rt_i hx hb hr hlk hd hS dX10_spreadOf_103
  · have h := if_n q4 h
    refine lv_iload_n hx hb dX10_spreadOf_22 rfl (lv_at hl 1 rfl) ?_
    refine lv_iload hx hb dX10_spreadOf_23 (lv_at hl 4 rfl) ?_
    obtain ⟨r7, μ6, hc8, h⟩ := bC_e h
    refine rc_Si (rest := []) [.int x1, .int x4] ⟨hx, hb, hml, hown, hts⟩ hK hd hS (c_X10_has  hc8) (va_cwS 2 hts gX10_spreadOf_X10_has rfl rfl rfl hn_X10_has ⟨Nat.le_of_ble_eq_true rfl, Nat.le_of_ble_eq_true rfl⟩) rfl hl.1 rfl (Nat.le_of_ble_eq_true rfl) dX10_spreadOf_25 ⟨Nat.zero_le _, Nat.zero_le _⟩ (fun H locs hd hS => ?_)
    refine lv_if_eq (tgt := 52) hx hb dX10_spreadOf_28 (by decide) (fun q9 => ?_) (fun q9 => ?_)
    · have h := if_y q9 h
      exact k_f_X10_spreadOf_j52 X hrc13 hk_a0 hd hS (lv_sub hl [0, 1, 2, 3, 4] rfl) h
    · have h := if_n q9 h
      refine lv_aload_n hx hb dX10_spreadOf_31 rfl (lv_at hl 0 rfl) ?_
      obtain ⟨b10, hb10, h⟩ := bR_e h
      refine r_getr hx hb hts (fun w h => List.mem_cons_of_mem _ (List.mem_append_right _ (h))) hown hK hd hk_a0 hb10 rfl fs_10_26 (hts (.fieldLink RX10 53 "LevelVotesModel" "heights" "[I") (List.mem_of_getElem? (i := 1) rfl)) dX10_spreadOf_32 (fun hq => ?_)
      have hk_b10 : kd b10 = 11 := hq
      refine lv_iload hx hb dX10_spreadOf_35 (lv_at hl 4 rfl) ?_
      obtain ⟨g11, h⟩ := gd_e h
      refine r_iald hx hb hK hd hk_b10 (ckb_in g11) dX10_spreadOf_37 ?_
      refine lv_iload_n hx hb dX10_spreadOf_38 rfl (lv_at hl 2 rfl) ?_
      refine lv_icmp_ge (tgt := 52) hx hb dX10_spreadOf_39 (by decide) (fun q12 => ?_) (fun q12 => ?_)
      · have h := if_y q12 h
        exact k_f_X10_spreadOf_j52 X hrc13 hk_a0 hd hS (lv_sub hl [0, 1, 2, 3, 4] rfl) h
      · have h := if_n q12 h
        refine lv_aload_n hx hb dX10_spreadOf_42 rfl (lv_at hl 0 rfl) ?_
        obtain ⟨b13, hb13, h⟩ := bR_e h
        refine r_getr hx hb hts (fun w h => List.mem_cons_of_mem _ (List.mem_append_right _ (h))) hown hK hd hk_a0 hb13 rfl fs_10_26 (hts (.fieldLink RX10 53 "LevelVotesModel" "heights" "[I") (List.mem_of_getElem? (i := 1) rfl)) dX10_spreadOf_43 (fun hq => ?_)
        have hk_b13 : kd b13 = 11 := hq
        refine lv_iload hx hb dX10_spreadOf_46 (lv_at hl 4 rfl) ?_
        obtain ⟨g14, h⟩ := gd_e h
        refine r_iald hx hb hK hd hk_b13 (ckb_in g14) dX10_spreadOf_48 ?_
        refine lv_goto (tgt := 53) hx hb dX10_spreadOf_49 (by decide) ?_
        exact k_f_X10_spreadOf_j53 X hrc13 hk_a0 hd hS (lv_sub hl [0, 1, 3, 4] rfl) h
def f_X10_spreadOf_L13 : Nat → Mm → Nat → Int32 → Int32 → Int32 → Int32 → Option (Int32 × Mm)
  | 0 => fun _ _ _ _ _ _ => none
  | n + 1 => fun μ a0 x1 x2 x3 x4 => f_X10_spreadOf_L13b (f_X10_spreadOf_L13 n) μ a0 x1 x2 x3 x4
theorem k_f_X10_spreadOf_L13 {l : Launch} {D : va_G} {cA : Nat → ClassId} {z : Nat} {av : List Value} {p : Program} {e : Env} {s : State} {m : MethodId} {below : List Frame} {meth : Method} {c : Code} {r : Int32} {μ' : Mm} (X : Fx D cA RX10 wsX10_spreadOf cX10_spreadOf 5 (some .int) p s m av.toArray meth c) (n : Nat) : HL_X10_spreadOf_13 l D cA z av r μ' p e s m below meth c (f_X10_spreadOf_L13 n) := by
  induction n with
  | zero => intro _ _ _ _ _ _ _ _ _ _ _ _ _ h; have h2 : (none : Option _) = some _ := h; cases h2
  | succ n ih => intro μ H locs ls a0 x1 x2 x3 x4 hk_a0 hd hS hl h; exact k_f_X10_spreadOf_L13b X ih hk_a0 hd hS hl h
def f_X10_spreadOf (μ : Mm) (a0 : Nat) (x1 : Int32) : Option (Int32 × Mm) := bV (f_X10_lookNow μ a0) (fun μ1 => f_X10_spreadOf_L13 FU μ1 a0 x1 (1000 : Int32) (-1 : Int32) (0 : Int32))
set_option maxRecDepth 100000 in
theorem c_X10_spreadOf {l : Launch} {D : va_G} {cA : Nat → ClassId} {z : Nat} {μ : Mm} {a0 : Nat} {x1 : Int32} {r : Int32} {μ' : Mm} (hk_a0 : kd a0 = 10) (h : f_X10_spreadOf μ a0 x1 = some (r, μ')) : Ct l D cA z yX10_spreadOf wsX10_spreadOf 6 138 [.ref (z + a0), .int x1] μ (some (.int r)) μ' := by
  refine m_in (cc := cX10_spreadOf) (maxL := 5) (ret := (some .int)) (own := RX10) (by decide) rfl rfl (Nat.le_of_ble_eq_true rfl) ?_
  intro p e s m below meth c ls X hd hS hl
  obtain ⟨hx, hb, hr, hlk, hml, hown, hts, hK⟩ := id X
  have hl : lv_has ls 5 [(0, .ref (z + a0)), (1, .int x1)] := hl
  unfold f_X10_spreadOf at h
  refine lv_aload_n hx hb dX10_spreadOf_0 rfl (lv_at hl 0 rfl) ?_
  obtain ⟨μ1, hc3, h⟩ := bV_e h
  refine rc_Vv (rest := []) [] ⟨hx, hb, hml, hown, hts⟩ hK hd hS (c_X10_lookNow hk_a0 hc3) (cwV 0 hts gX10_spreadOf_X10_lookNow rfl rfl rfl hv_X10_lookNow ⟨Nat.le_of_ble_eq_true rfl, Nat.le_of_ble_eq_true rfl⟩) hk_a0 rfl rfl rfl rfl hl.1 rfl (Nat.le_of_ble_eq_true rfl) dX10_spreadOf_1 ⟨Nat.zero_le _, Nat.zero_le _⟩ (fun H locs hd hS => ?_)
  refine lv_sipush (v := 1000) hx hb dX10_spreadOf_4 (by decide) ?_
  refine lv_istore_n (lv' := [(2, .int (1000 : Int32)), (0, .ref (z + a0)), (1, .int x1)]) hx hb dX10_spreadOf_7 rfl hl (by decide) rfl (fun ls hl => ?_)
  refine lv_iconst (v := -1) hx hb dX10_spreadOf_8 (by decide) ?_
  refine lv_istore_n (lv' := [(3, .int (-1 : Int32)), (2, .int (1000 : Int32)), (0, .ref (z + a0)), (1, .int x1)]) hx hb dX10_spreadOf_9 rfl hl (by decide) rfl (fun ls hl => ?_)
  refine lv_iconst (v := 0) hx hb dX10_spreadOf_10 (by decide) ?_
  refine lv_istore (lv' := [(4, .int (0 : Int32)), (3, .int (-1 : Int32)), (2, .int (1000 : Int32)), (0, .ref (z + a0)), (1, .int x1)]) hx hb dX10_spreadOf_11 hl (by decide) rfl (fun ls hl => ?_)
  exact k_f_X10_spreadOf_L13 X FU _ _ _ _ _ _ _ _ _ hk_a0 hd hS (lv_sub hl [3, 4, 2, 1, 0] rfl) h
theorem hv_X10_item : yX10_item.cls = RX10 ∧ yX10_item.cls ≠ "java/lang/invoke/MethodHandle" ∧ yX10_item.cls ≠ "java/lang/invoke/VarHandle" ∧ (parseMethodDescriptor yX10_item.desc).map (fun d => d.parameters.length) = some 2 := by decide +kernel
def f_X10_item (μ : Mm) (a0 : Nat) (x1 : Int32) (x2 : Int32) : Option (Int32 × Mm) := bC (f_X10_isItem μ a0 x1) (fun r2 μ1 => if r2 = 0 then (some ((-1000000001 : Int32), μ1)) else (if x2 = 0 then (bC (f_X10_cellsOf μ1 a0 x1) (fun r7 μ6 => some (r7, μ6))) else (if x2 = 1 then (bR (μ1.2 a0 6) (fun b10 => gd (ckb x1 (ln b10)) (some (μ1.1 b10 (x1).toNatClampNeg, μ1)))) else (if x2 = 2 then (bC (f_X10_standOf μ1 a0 x1) (fun r14 μ13 => some (r14, μ13))) else (if x2 = 3 then (bC (f_X10_voters μ1 a0 x1 (1 : Int32)) (fun r18 μ17 => some (r18, μ17))) else (if x2 = 4 then (bC (f_X10_voters μ1 a0 x1 (0 : Int32)) (fun r22 μ21 => some (r22, μ21))) else (if x2 = 5 then (bC (f_X10_cellsOf μ1 a0 x1) (fun r26 μ25 => bC (f_X10_spreadOf μ25 a0 r26) (fun r29 μ28 => if r29 = 0 then (some ((1 : Int32), μ28)) else (some ((0 : Int32), μ28))))) else (some ((-1000000002 : Int32), μ1)))))))))
set_option maxRecDepth 100000 in
theorem c_X10_item {l : Launch} {D : va_G} {cA : Nat → ClassId} {z : Nat} {μ : Mm} {a0 : Nat} {x1 : Int32} {x2 : Int32} {r : Int32} {μ' : Mm} (hk_a0 : kd a0 = 10) (h : f_X10_item μ a0 x1 x2 = some (r, μ')) : Ct l D cA z yX10_item wsX10_item 7 162 [.ref (z + a0), .int x1, .int x2] μ (some (.int r)) μ' := by
  refine m_in (cc := cX10_item) (maxL := 3) (ret := (some .int)) (own := RX10) (by decide) rfl rfl (Nat.le_of_ble_eq_true rfl) ?_
  intro p e s m below meth c ls X hd hS hl
  obtain ⟨hx, hb, hr, hlk, hml, hown, hts, hK⟩ := id X
  have hl : lv_has ls 3 [(0, .ref (z + a0)), (1, .int x1), (2, .int x2)] := hl
  unfold f_X10_item at h
  refine lv_aload_n hx hb dX10_item_0 rfl (lv_at hl 0 rfl) ?_
  refine lv_iload_n hx hb dX10_item_1 rfl (lv_at hl 1 rfl) ?_
  obtain ⟨r2, μ1, hc3, h⟩ := bC_e h
  refine rc_Vi (rest := []) [.int x1] ⟨hx, hb, hml, hown, hts⟩ hK hd hS (c_X10_isItem hk_a0 hc3) (cwV 1 hts gX10_item_X10_isItem rfl rfl rfl hv_X10_isItem ⟨Nat.le_of_ble_eq_true rfl, Nat.le_of_ble_eq_true rfl⟩) hk_a0 rfl rfl rfl rfl hl.1 rfl (Nat.le_of_ble_eq_true rfl) dX10_item_2 ⟨Nat.zero_le _, Nat.zero_le _⟩ (fun H locs hd hS => ?_)
  refine lv_if_ne (tgt := 11) hx hb dX10_item_5 (by decide) (fun q4 => ?_) (fun q4 => ?_)
  · have h := if_n q4 h
    refine lv_iload_n hx hb dX10_item_11 rfl (lv_at hl 2 rfl) ?_
    by_cases q5 : x2 = 0
    · have h := if_y q5 h
      refine lv_tableIn (off := 40) (tgt := 52) hx hb dX10_item_12 (by rw [q5]; decide) (by rw [q5]; decide) (by rw [q5]; rfl) (by decide) ?_
      refine lv_aload_n hx hb dX10_item_52 rfl (lv_at hl 0 rfl) ?_
      refine lv_iload_n hx hb dX10_item_53 rfl (lv_at hl 1 rfl) ?_
      obtain ⟨r7, μ6, hc8, h⟩ := bC_e h
      refine rc_Vi (rest := []) [.int x1] ⟨hx, hb, hml, hown, hts⟩ hK hd hS (c_X10_cellsOf hk_a0 hc8) (cwV 1 hts gX10_item_X10_cellsOf rfl rfl rfl hv_X10_cellsOf ⟨Nat.le_of_ble_eq_true rfl, Nat.le_of_ble_eq_true rfl⟩) hk_a0 rfl rfl rfl rfl hl.1 rfl (Nat.le_of_ble_eq_true rfl) dX10_item_54 ⟨Nat.zero_le _, Nat.zero_le _⟩ (fun H locs hd hS => ?_)
      obtain ⟨rfl, rfl⟩ := so_e h
      exact rt_i hx hb hr hlk hd hS dX10_item_57
    have h := if_n q5 h
    by_cases q9 : x2 = 1
    · have h := if_y q9 h
      refine lv_tableIn (off := 46) (tgt := 58) hx hb dX10_item_12 (by rw [q9]; decide) (by rw [q9]; decide) (by rw [q9]; rfl) (by decide) ?_
      refine lv_aload_n hx hb dX10_item_58 rfl (lv_at hl 0 rfl) ?_
      obtain ⟨b10, hb10, h⟩ := bR_e h
      refine r_getr hx hb hts (fun w h => List.mem_cons_of_mem _ (List.mem_append_right _ (h))) hown hK hd hk_a0 hb10 rfl fs_10_6 (hts (.fieldLink RX10 19 "LevelVotesModel" "itemLevel" "[I") (List.mem_of_getElem? (i := 2) rfl)) dX10_item_59 (fun hq => ?_)
      have hk_b10 : kd b10 = 11 := hq
      refine lv_iload_n hx hb dX10_item_62 rfl (lv_at hl 1 rfl) ?_
      obtain ⟨g11, h⟩ := gd_e h
      refine r_iald hx hb hK hd hk_b10 (ckb_in g11) dX10_item_63 ?_
      obtain ⟨rfl, rfl⟩ := so_e h
      exact rt_i hx hb hr hlk hd hS dX10_item_64
    have h := if_n q9 h
    by_cases q12 : x2 = 2
    · have h := if_y q12 h
      refine lv_tableIn (off := 53) (tgt := 65) hx hb dX10_item_12 (by rw [q12]; decide) (by rw [q12]; decide) (by rw [q12]; rfl) (by decide) ?_
      refine lv_aload_n hx hb dX10_item_65 rfl (lv_at hl 0 rfl) ?_
      refine lv_iload_n hx hb dX10_item_66 rfl (lv_at hl 1 rfl) ?_
      obtain ⟨r14, μ13, hc15, h⟩ := bC_e h
      refine rc_Vi (rest := []) [.int x1] ⟨hx, hb, hml, hown, hts⟩ hK hd hS (c_X10_standOf hk_a0 hc15) (cwV 1 hts gX10_item_X10_standOf rfl rfl rfl hv_X10_standOf ⟨Nat.le_of_ble_eq_true rfl, Nat.le_of_ble_eq_true rfl⟩) hk_a0 rfl rfl rfl rfl hl.1 rfl (Nat.le_of_ble_eq_true rfl) dX10_item_67 ⟨Nat.zero_le _, Nat.zero_le _⟩ (fun H locs hd hS => ?_)
      obtain ⟨rfl, rfl⟩ := so_e h
      exact rt_i hx hb hr hlk hd hS dX10_item_70
    have h := if_n q12 h
    by_cases q16 : x2 = 3
    · have h := if_y q16 h
      refine lv_tableIn (off := 59) (tgt := 71) hx hb dX10_item_12 (by rw [q16]; decide) (by rw [q16]; decide) (by rw [q16]; rfl) (by decide) ?_
      refine lv_aload_n hx hb dX10_item_71 rfl (lv_at hl 0 rfl) ?_
      refine lv_iload_n hx hb dX10_item_72 rfl (lv_at hl 1 rfl) ?_
      refine lv_iconst (v := 1) hx hb dX10_item_73 (by decide) ?_
      obtain ⟨r18, μ17, hc19, h⟩ := bC_e h
      refine rc_Vi (rest := []) [.int x1, .int (1 : Int32)] ⟨hx, hb, hml, hown, hts⟩ hK hd hS (c_X10_voters hk_a0 hc19) (cwV 2 hts gX10_item_X10_voters rfl rfl rfl hv_X10_voters ⟨Nat.le_of_ble_eq_true rfl, Nat.le_of_ble_eq_true rfl⟩) hk_a0 rfl rfl rfl rfl hl.1 rfl (Nat.le_of_ble_eq_true rfl) dX10_item_74 ⟨Nat.zero_le _, Nat.zero_le _⟩ (fun H locs hd hS => ?_)
      obtain ⟨rfl, rfl⟩ := so_e h
      exact rt_i hx hb hr hlk hd hS dX10_item_77
    have h := if_n q16 h
    by_cases q20 : x2 = 4
    · have h := if_y q20 h
      refine lv_tableIn (off := 66) (tgt := 78) hx hb dX10_item_12 (by rw [q20]; decide) (by rw [q20]; decide) (by rw [q20]; rfl) (by decide) ?_
      refine lv_aload_n hx hb dX10_item_78 rfl (lv_at hl 0 rfl) ?_
      refine lv_iload_n hx hb dX10_item_79 rfl (lv_at hl 1 rfl) ?_
      refine lv_iconst (v := 0) hx hb dX10_item_80 (by decide) ?_
      obtain ⟨r22, μ21, hc23, h⟩ := bC_e h
      refine rc_Vi (rest := []) [.int x1, .int (0 : Int32)] ⟨hx, hb, hml, hown, hts⟩ hK hd hS (c_X10_voters hk_a0 hc23) (cwV 2 hts gX10_item_X10_voters rfl rfl rfl hv_X10_voters ⟨Nat.le_of_ble_eq_true rfl, Nat.le_of_ble_eq_true rfl⟩) hk_a0 rfl rfl rfl rfl hl.1 rfl (Nat.le_of_ble_eq_true rfl) dX10_item_81 ⟨Nat.zero_le _, Nat.zero_le _⟩ (fun H locs hd hS => ?_)
      obtain ⟨rfl, rfl⟩ := so_e h
      exact rt_i hx hb hr hlk hd hS dX10_item_84
    have h := if_n q20 h
    by_cases q24 : x2 = 5
    · have h := if_y q24 h
      refine lv_tableIn (off := 73) (tgt := 85) hx hb dX10_item_12 (by rw [q24]; decide) (by rw [q24]; decide) (by rw [q24]; rfl) (by decide) ?_
      refine lv_aload_n hx hb dX10_item_85 rfl (lv_at hl 0 rfl) ?_
      refine lv_aload_n hx hb dX10_item_86 rfl (lv_at hl 0 rfl) ?_
      refine lv_iload_n hx hb dX10_item_87 rfl (lv_at hl 1 rfl) ?_
      obtain ⟨r26, μ25, hc27, h⟩ := bC_e h
      refine rc_Vi (rest := [.ref (z + a0)]) [.int x1] ⟨hx, hb, hml, hown, hts⟩ hK hd hS (c_X10_cellsOf hk_a0 hc27) (cwV 1 hts gX10_item_X10_cellsOf rfl rfl rfl hv_X10_cellsOf ⟨Nat.le_of_ble_eq_true rfl, Nat.le_of_ble_eq_true rfl⟩) hk_a0 rfl rfl rfl rfl hl.1 rfl (Nat.le_of_ble_eq_true rfl) dX10_item_88 ⟨Nat.zero_le _, Nat.zero_le _⟩ (fun H locs hd hS => ?_)
      obtain ⟨r29, μ28, hc30, h⟩ := bC_e h
      refine rc_Vi (rest := []) [.int r26] ⟨hx, hb, hml, hown, hts⟩ hK hd hS (c_X10_spreadOf hk_a0 hc30) (cwV 1 hts gX10_item_X10_spreadOf rfl rfl rfl hv_X10_spreadOf ⟨Nat.le_of_ble_eq_true rfl, Nat.le_of_ble_eq_true rfl⟩) hk_a0 rfl rfl rfl rfl hl.1 rfl (Nat.le_of_ble_eq_true rfl) dX10_item_91 ⟨Nat.zero_le _, Nat.zero_le _⟩ (fun H locs hd hS => ?_)
      refine lv_if_ne (tgt := 101) hx hb dX10_item_94 (by decide) (fun q31 => ?_) (fun q31 => ?_)
      · have h := if_n q31 h
        refine lv_iconst (v := 0) hx hb dX10_item_101 (by decide) ?_
        obtain ⟨rfl, rfl⟩ := so_e h
        exact rt_i hx hb hr hlk hd hS dX10_item_102
      · have h := if_y q31 h
        refine lv_iconst (v := 1) hx hb dX10_item_97 (by decide) ?_
        refine lv_goto (tgt := 102) hx hb dX10_item_98 (by decide) ?_
        obtain ⟨rfl, rfl⟩ := so_e h
        exact rt_i hx hb hr hlk hd hS dX10_item_102
    have h := if_n q24 h
    refine lv_tableOut (tgt := 103) hx hb dX10_item_12 (sw_out 0 6 rfl rfl (by decide) (fun k hk => match k, hk with | 0, _ => q5 | 1, _ => q9 | 2, _ => q12 | 3, _ => q16 | 4, _ => q20 | 5, _ => q24 | k + 6, hk => absurd hk (by omega))) (by decide) ?_
    refine lv_ldc (v := -1000000002) hx hb hown (hts (.constant RX10 106 (-1000000002)) (List.mem_of_getElem? (i := 3) rfl)) dX10_item_103 ?_
    obtain ⟨rfl, rfl⟩ := so_e h
    exact rt_i hx hb hr hlk hd hS dX10_item_105
  · have h := if_y q4 h
    refine lv_ldc (v := -1000000001) hx hb hown (hts (.constant RX10 226 (-1000000001)) (List.mem_of_getElem? (i := 1) rfl)) dX10_item_8 ?_
    obtain ⟨rfl, rfl⟩ := so_e h
    exact rt_i hx hb hr hlk hd hS dX10_item_10
theorem hv_X10_votes : yX10_votes.cls = RX10 ∧ yX10_votes.cls ≠ "java/lang/invoke/MethodHandle" ∧ yX10_votes.cls ≠ "java/lang/invoke/VarHandle" ∧ (parseMethodDescriptor yX10_votes.desc).map (fun d => d.parameters.length) = some 2 := by decide +kernel
def f_X10_votes (μ : Mm) (a0 : Nat) (x1 : Int32) (x2 : Int32) : Option (Int32 × Mm) := bC (f_X10_isPerson μ a0 x1) (fun r2 μ1 => if r2 = 0 then (some ((-1000000001 : Int32), μ1)) else (bC (f_X10_isItem μ1 a0 x2) (fun r6 μ5 => if r6 = 0 then (some ((-1000000001 : Int32), μ5)) else (bR (μ5.2 a0 8) (fun b9 => gd (ckb (((5 : Int32) * x1) + x2) (ln b9)) (some (μ5.1 b9 (((5 : Int32) * x1) + x2).toNatClampNeg, μ5)))))))
set_option maxRecDepth 100000 in
theorem c_X10_votes {l : Launch} {D : va_G} {cA : Nat → ClassId} {z : Nat} {μ : Mm} {a0 : Nat} {x1 : Int32} {x2 : Int32} {r : Int32} {μ' : Mm} (hk_a0 : kd a0 = 10) (h : f_X10_votes μ a0 x1 x2 = some (r, μ')) : Ct l D cA z yX10_votes wsX10_votes 2 46 [.ref (z + a0), .int x1, .int x2] μ (some (.int r)) μ' := by
  refine m_in (cc := cX10_votes) (maxL := 3) (ret := (some .int)) (own := RX10) (by decide) rfl rfl (Nat.le_of_ble_eq_true rfl) ?_
  intro p e s m below meth c ls X hd hS hl
  obtain ⟨hx, hb, hr, hlk, hml, hown, hts, hK⟩ := id X
  have hl : lv_has ls 3 [(0, .ref (z + a0)), (1, .int x1), (2, .int x2)] := hl
  unfold f_X10_votes at h
  refine lv_aload_n hx hb dX10_votes_0 rfl (lv_at hl 0 rfl) ?_
  refine lv_iload_n hx hb dX10_votes_1 rfl (lv_at hl 1 rfl) ?_
  obtain ⟨r2, μ1, hc3, h⟩ := bC_e h
  refine rc_Vi (rest := []) [.int x1] ⟨hx, hb, hml, hown, hts⟩ hK hd hS (c_X10_isPerson hk_a0 hc3) (cwV 1 hts gX10_votes_X10_isPerson rfl rfl rfl hv_X10_isPerson ⟨Nat.le_of_ble_eq_true rfl, Nat.le_of_ble_eq_true rfl⟩) hk_a0 rfl rfl rfl rfl hl.1 rfl (Nat.le_of_ble_eq_true rfl) dX10_votes_2 ⟨Nat.zero_le _, Nat.zero_le _⟩ (fun H locs hd hS => ?_)
  refine lv_if_eq (tgt := 29) hx hb dX10_votes_5 (by decide) (fun q4 => ?_) (fun q4 => ?_)
  · have h := if_y q4 h
    refine lv_ldc (v := -1000000001) hx hb hown (hts (.constant RX10 226 (-1000000001)) (List.mem_of_getElem? (i := 2) rfl)) dX10_votes_29 ?_
    obtain ⟨rfl, rfl⟩ := so_e h
    exact rt_i hx hb hr hlk hd hS dX10_votes_31
  · have h := if_n q4 h
    refine lv_aload_n hx hb dX10_votes_8 rfl (lv_at hl 0 rfl) ?_
    refine lv_iload_n hx hb dX10_votes_9 rfl (lv_at hl 2 rfl) ?_
    obtain ⟨r6, μ5, hc7, h⟩ := bC_e h
    refine rc_Vi (rest := []) [.int x2] ⟨hx, hb, hml, hown, hts⟩ hK hd hS (c_X10_isItem hk_a0 hc7) (cwV 1 hts gX10_votes_X10_isItem rfl rfl rfl hv_X10_isItem ⟨Nat.le_of_ble_eq_true rfl, Nat.le_of_ble_eq_true rfl⟩) hk_a0 rfl rfl rfl rfl hl.1 rfl (Nat.le_of_ble_eq_true rfl) dX10_votes_10 ⟨Nat.zero_le _, Nat.zero_le _⟩ (fun H locs hd hS => ?_)
    refine lv_if_eq (tgt := 29) hx hb dX10_votes_13 (by decide) (fun q8 => ?_) (fun q8 => ?_)
    · have h := if_y q8 h
      refine lv_ldc (v := -1000000001) hx hb hown (hts (.constant RX10 226 (-1000000001)) (List.mem_of_getElem? (i := 2) rfl)) dX10_votes_29 ?_
      obtain ⟨rfl, rfl⟩ := so_e h
      exact rt_i hx hb hr hlk hd hS dX10_votes_31
    · have h := if_n q8 h
      refine lv_aload_n hx hb dX10_votes_16 rfl (lv_at hl 0 rfl) ?_
      obtain ⟨b9, hb9, h⟩ := bR_e h
      refine r_getr hx hb hts (fun w h => List.mem_cons_of_mem _ (List.mem_append_right _ (h))) hown hK hd hk_a0 hb9 rfl fs_10_8 (hts (.fieldLink RX10 22 "LevelVotesModel" "now" "[I") (List.mem_of_getElem? (i := 1) rfl)) dX10_votes_17 (fun hq => ?_)
      have hk_b9 : kd b9 = 11 := hq
      refine lv_iconst (v := 5) hx hb dX10_votes_20 (by decide) ?_
      refine lv_iload_n hx hb dX10_votes_21 rfl (lv_at hl 1 rfl) ?_
      refine lv_imul hx hb dX10_votes_22 ?_
      refine lv_iload_n hx hb dX10_votes_23 rfl (lv_at hl 2 rfl) ?_
      refine lv_iadd hx hb dX10_votes_24 ?_
      obtain ⟨g10, h⟩ := gd_e h
      refine r_iald hx hb hK hd hk_b9 (ckb_in g10) dX10_votes_25 ?_
      refine lv_goto (tgt := 31) hx hb dX10_votes_26 (by decide) ?_
      obtain ⟨rfl, rfl⟩ := so_e h
      exact rt_i hx hb hr hlk hd hS dX10_votes_31
theorem hv_X10_remember : yX10_remember.cls = RX10 ∧ yX10_remember.cls ≠ "java/lang/invoke/MethodHandle" ∧ yX10_remember.cls ≠ "java/lang/invoke/VarHandle" ∧ (parseMethodDescriptor yX10_remember.desc).map (fun d => d.parameters.length) = some 0 := by decide +kernel
abbrev HL_X10_remember_12 (l : Launch) (D : va_G) (cA : Nat → ClassId) (z : Nat) (av : List Value) (μ' : Mm) (p : Program) (e : Env) (s : State) (m : MethodId) (below : List Frame) (meth : Method) (c : Code) (rc : Mm → Nat → Int32 → Option Mm) : Prop := ∀ (μ : Mm) (H : Heap) (locs : List Loc) (ls : Array Slot) (a0 : Nat) (x1 : Int32), kd a0 = 10 → Wd D cA z μ H → va_S (Az z) s.heap H locs → lv_has ls 2 [(0, .ref (z + a0)), (1, .int x1)] → rc μ a0 x1 = some μ' → WG l D cA z wsX10_remember 0 0 av none μ' p e s m below meth c H locs (F0 m 12 ls [])
abbrev HL_X10_remember_52 (l : Launch) (D : va_G) (cA : Nat → ClassId) (z : Nat) (av : List Value) (μ' : Mm) (p : Program) (e : Env) (s : State) (m : MethodId) (below : List Frame) (meth : Method) (c : Code) (rc : Mm → Nat → Int32 → Option Mm) : Prop := ∀ (μ : Mm) (H : Heap) (locs : List Loc) (ls : Array Slot) (a0 : Nat) (x1 : Int32), kd a0 = 10 → Wd D cA z μ H → va_S (Az z) s.heap H locs → lv_has ls 2 [(0, .ref (z + a0)), (1, .int x1)] → rc μ a0 x1 = some μ' → WG l D cA z wsX10_remember 0 0 av none μ' p e s m below meth c H locs (F0 m 52 ls [])
def f_X10_remember_L52b (rc52 : Mm → Nat → Int32 → Option Mm) (μ : Mm) (a0 : Nat) (x1 : Int32) : Option Mm := if (37 : Int32) ≤ x1 then (bM (up2 μ.1 a0 27 ((μ.1 a0 27) + (1 : Int32)), μ.2) (fun μ2 => some μ2)) else (bR (μ.2 a0 28) (fun b3 => bR (μ.2 a0 8) (fun b4 => gd (ckb x1 (ln b4)) (gd (ckb (((37 : Int32) * (μ.1 a0 27)) + x1) (ln b3)) (bM (up2 μ.1 b3 (((37 : Int32) * (μ.1 a0 27)) + x1).toNatClampNeg (μ.1 b4 (x1).toNatClampNeg), μ.2) (fun μ7 => rc52 μ7 a0 (x1 + (1 : Int32))))))))
set_option maxRecDepth 100000 in
theorem k_f_X10_remember_L52b {l : Launch} {D : va_G} {cA : Nat → ClassId} {z : Nat} {av : List Value} {p : Program} {e : Env} {s : State} {m : MethodId} {below : List Frame} {meth : Method} {c : Code} {μ' : Mm} (X : Fx D cA RX10 wsX10_remember cX10_remember 2 none p s m av.toArray meth c) {rc52 : Mm → Nat → Int32 → Option Mm} (hrc52 : HL_X10_remember_52 l D cA z av μ' p e s m below meth c rc52) {μ : Mm} {a0 : Nat} {x1 : Int32} (hk_a0 : kd a0 = 10) {H : Heap} {locs : List Loc} {ls : Array Slot} (hd : Wd D cA z μ H) (hS : va_S (Az z) s.heap H locs) (hl : lv_has ls 2 [(0, .ref (z + a0)), (1, .int x1)]) (h : f_X10_remember_L52b rc52 μ a0 x1 = some μ') : WG l D cA z wsX10_remember 0 0 av none μ' p e s m below meth c H locs (F0 m 52 ls []) := by
  obtain ⟨hx, hb, hr, hlk, hml, hown, hts, hK⟩ := id X
  unfold f_X10_remember_L52b at h
  refine lv_iload_n hx hb dX10_remember_52 rfl (lv_at hl 1 rfl) ?_
  refine lv_bipush (v := 37) hx hb dX10_remember_53 (by decide) ?_
  refine lv_icmp_ge (tgt := 84) hx hb dX10_remember_55 (by decide) (fun q1 => ?_) (fun q1 => ?_)
  · have h := if_y q1 h
    refine lv_aload_n hx hb dX10_remember_84 rfl (lv_at hl 0 rfl) ?_
    refine lv_dup hx hb dX10_remember_85 rfl ?_
    refine r_geti hx hb hts (fun w h => List.mem_cons_of_mem _ (List.mem_append_right _ (h))) hown hK hd hk_a0 rfl 27 fs_10_27 (hts (.fieldLink RX10 172 "LevelVotesModel" "undos" "I") (List.mem_of_getElem? (i := 1) rfl)) dX10_remember_86 ?_
    refine lv_iconst (v := 1) hx hb dX10_remember_89 (by decide) ?_
    refine lv_iadd hx hb dX10_remember_90 ?_
    refine r_puti hx hb hts (fun w h => List.mem_cons_of_mem _ (List.mem_append_right _ (h))) tyX10 tyX10_ok nmX10 hown hK hd hS hk_a0 rfl 27 fs_10_27 rfl (hts (.fieldLink RX10 172 "LevelVotesModel" "undos" "I") (List.mem_of_getElem? (i := 1) rfl)) (vp_nar_int _) rfl dX10_remember_91 (fun μ2 eμ2 H locs hd hS => ?_)
    have h := bM_e eμ2 h
    obtain rfl := sv_e h
    exact rt_v hx hb hr hlk hd hS dX10_remember_94
  · have h := if_n q1 h
    refine lv_aload_n hx hb dX10_remember_58 rfl (lv_at hl 0 rfl) ?_
    obtain ⟨b3, hb3, h⟩ := bR_e h
    refine r_getr hx hb hts (fun w h => List.mem_cons_of_mem _ (List.mem_append_right _ (h))) hown hK hd hk_a0 hb3 rfl fs_10_28 (hts (.fieldLink RX10 56 "LevelVotesModel" "past" "[I") (List.mem_of_getElem? (i := 2) rfl)) dX10_remember_59 (fun hq => ?_)
    have hk_b3 : kd b3 = 11 := hq
    refine lv_bipush (v := 37) hx hb dX10_remember_62 (by decide) ?_
    refine lv_aload_n hx hb dX10_remember_64 rfl (lv_at hl 0 rfl) ?_
    refine r_geti hx hb hts (fun w h => List.mem_cons_of_mem _ (List.mem_append_right _ (h))) hown hK hd hk_a0 rfl 27 fs_10_27 (hts (.fieldLink RX10 172 "LevelVotesModel" "undos" "I") (List.mem_of_getElem? (i := 1) rfl)) dX10_remember_65 ?_
    refine lv_imul hx hb dX10_remember_68 ?_
    refine lv_iload_n hx hb dX10_remember_69 rfl (lv_at hl 1 rfl) ?_
    refine lv_iadd hx hb dX10_remember_70 ?_
    refine lv_aload_n hx hb dX10_remember_71 rfl (lv_at hl 0 rfl) ?_
    obtain ⟨b4, hb4, h⟩ := bR_e h
    refine r_getr hx hb hts (fun w h => List.mem_cons_of_mem _ (List.mem_append_right _ (h))) hown hK hd hk_a0 hb4 rfl fs_10_8 (hts (.fieldLink RX10 22 "LevelVotesModel" "now" "[I") (List.mem_of_getElem? (i := 3) rfl)) dX10_remember_72 (fun hq => ?_)
    have hk_b4 : kd b4 = 11 := hq
    refine lv_iload_n hx hb dX10_remember_75 rfl (lv_at hl 1 rfl) ?_
    obtain ⟨g5, h⟩ := gd_e h
    refine r_iald hx hb hK hd hk_b4 (ckb_in g5) dX10_remember_76 ?_
    obtain ⟨g6, h⟩ := gd_e h
    refine r_iast hx hb hK hd hS hk_b3 (ckb_in g6) dX10_remember_77 (fun μ7 eμ7 H locs hd hS => ?_)
    have h := bM_e eμ7 h
    refine lv_iinc (v := x1 + (1 : Int32)) (lv' := [(1, .int (x1 + (1 : Int32))), (0, .ref (z + a0))]) hx hb dX10_remember_78 hl (k := 1) rfl rfl (by decide) rfl (fun ls hl => ?_)
    refine lv_goto (tgt := 52) hx hb dX10_remember_81 (by decide) ?_
    exact hrc52 _ _ _ _ _ _ hk_a0 hd hS (lv_sub hl [1, 0] rfl) h
def f_X10_remember_L52 : Nat → Mm → Nat → Int32 → Option Mm
  | 0 => fun _ _ _ => none
  | n + 1 => fun μ a0 x1 => f_X10_remember_L52b (f_X10_remember_L52 n) μ a0 x1
theorem k_f_X10_remember_L52 {l : Launch} {D : va_G} {cA : Nat → ClassId} {z : Nat} {av : List Value} {p : Program} {e : Env} {s : State} {m : MethodId} {below : List Frame} {meth : Method} {c : Code} {μ' : Mm} (X : Fx D cA RX10 wsX10_remember cX10_remember 2 none p s m av.toArray meth c) (n : Nat) : HL_X10_remember_52 l D cA z av μ' p e s m below meth c (f_X10_remember_L52 n) := by
  induction n with
  | zero => intro _ _ _ _ _ _ _ _ _ _ h; have h2 : (none : Option _) = some _ := h; cases h2
  | succ n ih => intro μ H locs ls a0 x1 hk_a0 hd hS hl h; exact k_f_X10_remember_L52b X ih hk_a0 hd hS hl h
def f_X10_remember_j50 (μ : Mm) (a0 : Nat) : Option Mm := f_X10_remember_L52 FU μ a0 (0 : Int32)
set_option maxRecDepth 100000 in
theorem k_f_X10_remember_j50 {l : Launch} {D : va_G} {cA : Nat → ClassId} {z : Nat} {av : List Value} {p : Program} {e : Env} {s : State} {m : MethodId} {below : List Frame} {meth : Method} {c : Code} {μ' : Mm} (X : Fx D cA RX10 wsX10_remember cX10_remember 2 none p s m av.toArray meth c) {μ : Mm} {a0 : Nat} (hk_a0 : kd a0 = 10) {H : Heap} {locs : List Loc} {ls : Array Slot} (hd : Wd D cA z μ H) (hS : va_S (Az z) s.heap H locs) (hl : lv_has ls 2 [(0, .ref (z + a0))]) (h : f_X10_remember_j50 μ a0 = some μ') : WG l D cA z wsX10_remember 0 0 av none μ' p e s m below meth c H locs (F0 m 50 ls []) := by
  obtain ⟨hx, hb, hr, hlk, hml, hown, hts, hK⟩ := id X
  unfold f_X10_remember_j50 at h
  refine lv_iconst (v := 0) hx hb dX10_remember_50 (by decide) ?_
  refine lv_istore_n (lv' := [(1, .int (0 : Int32)), (0, .ref (z + a0))]) hx hb dX10_remember_51 rfl hl (by decide) rfl (fun ls hl => ?_)
  exact k_f_X10_remember_L52 X FU _ _ _ _ _ _ hk_a0 hd hS (lv_sub hl [1, 0] rfl) h
def f_X10_remember_L12b (rc12 : Mm → Nat → Int32 → Option Mm) (μ : Mm) (a0 : Nat) (x1 : Int32) : Option Mm := if (740 : Int32) ≤ x1 then (bM (up2 μ.1 a0 27 ((μ.1 a0 27) - (1 : Int32)), μ.2) (fun μ2 => f_X10_remember_j50 μ2 a0)) else (bR (μ.2 a0 28) (fun b3 => bR (μ.2 a0 28) (fun b4 => gd (ckb x1 (ln b4)) (gd (ckb (x1 - (37 : Int32)) (ln b3)) (bM (up2 μ.1 b3 (x1 - (37 : Int32)).toNatClampNeg (μ.1 b4 (x1).toNatClampNeg), μ.2) (fun μ7 => rc12 μ7 a0 (x1 + (1 : Int32))))))))
set_option maxRecDepth 100000 in
theorem k_f_X10_remember_L12b {l : Launch} {D : va_G} {cA : Nat → ClassId} {z : Nat} {av : List Value} {p : Program} {e : Env} {s : State} {m : MethodId} {below : List Frame} {meth : Method} {c : Code} {μ' : Mm} (X : Fx D cA RX10 wsX10_remember cX10_remember 2 none p s m av.toArray meth c) {rc12 : Mm → Nat → Int32 → Option Mm} (hrc12 : HL_X10_remember_12 l D cA z av μ' p e s m below meth c rc12) {μ : Mm} {a0 : Nat} {x1 : Int32} (hk_a0 : kd a0 = 10) {H : Heap} {locs : List Loc} {ls : Array Slot} (hd : Wd D cA z μ H) (hS : va_S (Az z) s.heap H locs) (hl : lv_has ls 2 [(0, .ref (z + a0)), (1, .int x1)]) (h : f_X10_remember_L12b rc12 μ a0 x1 = some μ') : WG l D cA z wsX10_remember 0 0 av none μ' p e s m below meth c H locs (F0 m 12 ls []) := by
  obtain ⟨hx, hb, hr, hlk, hml, hown, hts, hK⟩ := id X
  unfold f_X10_remember_L12b at h
  refine lv_iload_n hx hb dX10_remember_12 rfl (lv_at hl 1 rfl) ?_
  refine lv_sipush (v := 740) hx hb dX10_remember_13 (by decide) ?_
  refine lv_icmp_ge (tgt := 40) hx hb dX10_remember_16 (by decide) (fun q1 => ?_) (fun q1 => ?_)
  · have h := if_y q1 h
    refine lv_aload_n hx hb dX10_remember_40 rfl (lv_at hl 0 rfl) ?_
    refine lv_dup hx hb dX10_remember_41 rfl ?_
    refine r_geti hx hb hts (fun w h => List.mem_cons_of_mem _ (List.mem_append_right _ (h))) hown hK hd hk_a0 rfl 27 fs_10_27 (hts (.fieldLink RX10 172 "LevelVotesModel" "undos" "I") (List.mem_of_getElem? (i := 1) rfl)) dX10_remember_42 ?_
    refine lv_iconst (v := 1) hx hb dX10_remember_45 (by decide) ?_
    refine lv_isub hx hb dX10_remember_46 ?_
    refine r_puti hx hb hts (fun w h => List.mem_cons_of_mem _ (List.mem_append_right _ (h))) tyX10 tyX10_ok nmX10 hown hK hd hS hk_a0 rfl 27 fs_10_27 rfl (hts (.fieldLink RX10 172 "LevelVotesModel" "undos" "I") (List.mem_of_getElem? (i := 1) rfl)) (vp_nar_int _) rfl dX10_remember_47 (fun μ2 eμ2 H locs hd hS => ?_)
    have h := bM_e eμ2 h
    exact k_f_X10_remember_j50 X hk_a0 hd hS (lv_sub hl [0] rfl) h
  · have h := if_n q1 h
    refine lv_aload_n hx hb dX10_remember_19 rfl (lv_at hl 0 rfl) ?_
    obtain ⟨b3, hb3, h⟩ := bR_e h
    refine r_getr hx hb hts (fun w h => List.mem_cons_of_mem _ (List.mem_append_right _ (h))) hown hK hd hk_a0 hb3 rfl fs_10_28 (hts (.fieldLink RX10 56 "LevelVotesModel" "past" "[I") (List.mem_of_getElem? (i := 2) rfl)) dX10_remember_20 (fun hq => ?_)
    have hk_b3 : kd b3 = 11 := hq
    refine lv_iload_n hx hb dX10_remember_23 rfl (lv_at hl 1 rfl) ?_
    refine lv_bipush (v := 37) hx hb dX10_remember_24 (by decide) ?_
    refine lv_isub hx hb dX10_remember_26 ?_
    refine lv_aload_n hx hb dX10_remember_27 rfl (lv_at hl 0 rfl) ?_
    obtain ⟨b4, hb4, h⟩ := bR_e h
    refine r_getr hx hb hts (fun w h => List.mem_cons_of_mem _ (List.mem_append_right _ (h))) hown hK hd hk_a0 hb4 rfl fs_10_28 (hts (.fieldLink RX10 56 "LevelVotesModel" "past" "[I") (List.mem_of_getElem? (i := 2) rfl)) dX10_remember_28 (fun hq => ?_)
    have hk_b4 : kd b4 = 11 := hq
    refine lv_iload_n hx hb dX10_remember_31 rfl (lv_at hl 1 rfl) ?_
    obtain ⟨g5, h⟩ := gd_e h
    refine r_iald hx hb hK hd hk_b4 (ckb_in g5) dX10_remember_32 ?_
    obtain ⟨g6, h⟩ := gd_e h
    refine r_iast hx hb hK hd hS hk_b3 (ckb_in g6) dX10_remember_33 (fun μ7 eμ7 H locs hd hS => ?_)
    have h := bM_e eμ7 h
    refine lv_iinc (v := x1 + (1 : Int32)) (lv' := [(1, .int (x1 + (1 : Int32))), (0, .ref (z + a0))]) hx hb dX10_remember_34 hl (k := 1) rfl rfl (by decide) rfl (fun ls hl => ?_)
    refine lv_goto (tgt := 12) hx hb dX10_remember_37 (by decide) ?_
    exact hrc12 _ _ _ _ _ _ hk_a0 hd hS (lv_sub hl [1, 0] rfl) h
def f_X10_remember_L12 : Nat → Mm → Nat → Int32 → Option Mm
  | 0 => fun _ _ _ => none
  | n + 1 => fun μ a0 x1 => f_X10_remember_L12b (f_X10_remember_L12 n) μ a0 x1
theorem k_f_X10_remember_L12 {l : Launch} {D : va_G} {cA : Nat → ClassId} {z : Nat} {av : List Value} {p : Program} {e : Env} {s : State} {m : MethodId} {below : List Frame} {meth : Method} {c : Code} {μ' : Mm} (X : Fx D cA RX10 wsX10_remember cX10_remember 2 none p s m av.toArray meth c) (n : Nat) : HL_X10_remember_12 l D cA z av μ' p e s m below meth c (f_X10_remember_L12 n) := by
  induction n with
  | zero => intro _ _ _ _ _ _ _ _ _ _ h; have h2 : (none : Option _) = some _ := h; cases h2
  | succ n ih => intro μ H locs ls a0 x1 hk_a0 hd hS hl h; exact k_f_X10_remember_L12b X ih hk_a0 hd hS hl h
def f_X10_remember (μ : Mm) (a0 : Nat) : Option Mm := if (μ.1 a0 27) = (20 : Int32) then (f_X10_remember_L12 FU μ a0 (37 : Int32)) else (f_X10_remember_j50 μ a0)
set_option maxRecDepth 100000 in
theorem c_X10_remember {l : Launch} {D : va_G} {cA : Nat → ClassId} {z : Nat} {μ : Mm} {a0 : Nat} {μ' : Mm} (hk_a0 : kd a0 = 10) (h : f_X10_remember μ a0 = some μ') : Ct l D cA z yX10_remember wsX10_remember 0 0 [.ref (z + a0)] μ none μ' := by
  refine m_in (cc := cX10_remember) (maxL := 2) (ret := none) (own := RX10) (by decide) rfl rfl (Nat.le_of_ble_eq_true rfl) ?_
  intro p e s m below meth c ls X hd hS hl
  obtain ⟨hx, hb, hr, hlk, hml, hown, hts, hK⟩ := id X
  have hl : lv_has ls 2 [(0, .ref (z + a0))] := hl
  unfold f_X10_remember at h
  refine lv_aload_n hx hb dX10_remember_0 rfl (lv_at hl 0 rfl) ?_
  refine r_geti hx hb hts (fun w h => List.mem_cons_of_mem _ (List.mem_append_right _ (h))) hown hK hd hk_a0 rfl 27 fs_10_27 (hts (.fieldLink RX10 172 "LevelVotesModel" "undos" "I") (List.mem_of_getElem? (i := 1) rfl)) dX10_remember_1 ?_
  refine lv_bipush (v := 20) hx hb dX10_remember_4 (by decide) ?_
  refine lv_icmp_ne (tgt := 50) hx hb dX10_remember_6 (by decide) (fun q1 => ?_) (fun q1 => ?_)
  · have h := if_n q1 h
    exact k_f_X10_remember_j50 X hk_a0 hd hS (lv_sub hl [0] rfl) h
  · have h := if_y q1 h
    refine lv_bipush (v := 37) hx hb dX10_remember_9 (by decide) ?_
    refine lv_istore_n (lv' := [(1, .int (37 : Int32)), (0, .ref (z + a0))]) hx hb dX10_remember_11 rfl hl (by decide) rfl (fun ls hl => ?_)
    exact k_f_X10_remember_L12 X FU _ _ _ _ _ _ hk_a0 hd hS (lv_sub hl [1, 0] rfl) h
theorem hv_X10_vote : yX10_vote.cls = RX10 ∧ yX10_vote.cls ≠ "java/lang/invoke/MethodHandle" ∧ yX10_vote.cls ≠ "java/lang/invoke/VarHandle" ∧ (parseMethodDescriptor yX10_vote.desc).map (fun d => d.parameters.length) = some 3 := by decide +kernel
def f_X10_vote (μ : Mm) (a0 : Nat) (x1 : Int32) (x2 : Int32) (x3 : Int32) : Option (Int32 × Mm) := bC (f_X10_isPerson μ a0 x1) (fun r2 μ1 => if r2 = 0 then (some ((-1000000001 : Int32), μ1)) else (bC (f_X10_isItem μ1 a0 x2) (fun r6 μ5 => if r6 = 0 then (some ((-1000000001 : Int32), μ5)) else (bC (f_X10_in μ5 (x3.toInt64) (0 : Int64) (2 : Int64)) (fun r10 μ9 => if r10 = 0 then (some ((-1000000002 : Int32), μ9)) else (bV (f_X10_remember μ9 a0) (fun μ13 => bR (μ13.2 a0 8) (fun b16 => gd (ckb (((5 : Int32) * x1) + x2) (ln b16)) (bM (up2 μ13.1 b16 (((5 : Int32) * x1) + x2).toNatClampNeg x3, μ13.2) (fun μ18 => bC (f_X10_standOf μ18 a0 x2) (fun r20 μ19 => some (r20, μ19))))))))))))
set_option maxRecDepth 100000 in
theorem c_X10_vote {l : Launch} {D : va_G} {cA : Nat → ClassId} {z : Nat} {μ : Mm} {a0 : Nat} {x1 : Int32} {x2 : Int32} {x3 : Int32} {r : Int32} {μ' : Mm} (hk_a0 : kd a0 = 10) (h : f_X10_vote μ a0 x1 x2 x3 = some (r, μ')) : Ct l D cA z yX10_vote wsX10_vote 2 46 [.ref (z + a0), .int x1, .int x2, .int x3] μ (some (.int r)) μ' := by
  refine m_in (cc := cX10_vote) (maxL := 4) (ret := (some .int)) (own := RX10) (by decide) rfl rfl (Nat.le_of_ble_eq_true rfl) ?_
  intro p e s m below meth c ls X hd hS hl
  obtain ⟨hx, hb, hr, hlk, hml, hown, hts, hK⟩ := id X
  have hl : lv_has ls 4 [(0, .ref (z + a0)), (1, .int x1), (2, .int x2), (3, .int x3)] := hl
  unfold f_X10_vote at h
  refine lv_aload_n hx hb dX10_vote_0 rfl (lv_at hl 0 rfl) ?_
  refine lv_iload_n hx hb dX10_vote_1 rfl (lv_at hl 1 rfl) ?_
  obtain ⟨r2, μ1, hc3, h⟩ := bC_e h
  refine rc_Vi (rest := []) [.int x1] ⟨hx, hb, hml, hown, hts⟩ hK hd hS (c_X10_isPerson hk_a0 hc3) (cwV 1 hts gX10_vote_X10_isPerson rfl rfl rfl hv_X10_isPerson ⟨Nat.le_of_ble_eq_true rfl, Nat.le_of_ble_eq_true rfl⟩) hk_a0 rfl rfl rfl rfl hl.1 rfl (Nat.le_of_ble_eq_true rfl) dX10_vote_2 ⟨Nat.zero_le _, Nat.zero_le _⟩ (fun H locs hd hS => ?_)
  refine lv_if_eq (tgt := 16) hx hb dX10_vote_5 (by decide) (fun q4 => ?_) (fun q4 => ?_)
  · have h := if_y q4 h
    refine lv_ldc (v := -1000000001) hx hb hown (hts (.constant RX10 226 (-1000000001)) (List.mem_of_getElem? (i := 1) rfl)) dX10_vote_16 ?_
    obtain ⟨rfl, rfl⟩ := so_e h
    exact rt_i hx hb hr hlk hd hS dX10_vote_18
  · have h := if_n q4 h
    refine lv_aload_n hx hb dX10_vote_8 rfl (lv_at hl 0 rfl) ?_
    refine lv_iload_n hx hb dX10_vote_9 rfl (lv_at hl 2 rfl) ?_
    obtain ⟨r6, μ5, hc7, h⟩ := bC_e h
    refine rc_Vi (rest := []) [.int x2] ⟨hx, hb, hml, hown, hts⟩ hK hd hS (c_X10_isItem hk_a0 hc7) (cwV 1 hts gX10_vote_X10_isItem rfl rfl rfl hv_X10_isItem ⟨Nat.le_of_ble_eq_true rfl, Nat.le_of_ble_eq_true rfl⟩) hk_a0 rfl rfl rfl rfl hl.1 rfl (Nat.le_of_ble_eq_true rfl) dX10_vote_10 ⟨Nat.zero_le _, Nat.zero_le _⟩ (fun H locs hd hS => ?_)
    refine lv_if_ne (tgt := 19) hx hb dX10_vote_13 (by decide) (fun q8 => ?_) (fun q8 => ?_)
    · have h := if_n q8 h
      refine lv_iload_n hx hb dX10_vote_19 rfl (lv_at hl 3 rfl) ?_
      refine lv_i2l hx hb dX10_vote_20 rfl ?_
      refine lv_lconst (v := 0) hx hb dX10_vote_21 (by decide) ?_
      refine lv_ldc2 (v := 2) hx hb hown (hts (.constantLong RX10 242 (2)) (List.mem_of_getElem? (i := 2) rfl)) dX10_vote_22 ?_
      obtain ⟨r10, μ9, hc11, h⟩ := bC_e h
      refine rc_Si (rest := []) [.long (x3.toInt64), .long (0 : Int64), .long (2 : Int64)] ⟨hx, hb, hml, hown, hts⟩ hK hd hS (c_X10_in  hc11) (va_cwS 3 hts gX10_vote_X10_in rfl rfl rfl hn_X10_in ⟨Nat.le_of_ble_eq_true rfl, Nat.le_of_ble_eq_true rfl⟩) rfl hl.1 rfl (Nat.le_of_ble_eq_true rfl) dX10_vote_25 ⟨Nat.zero_le _, Nat.zero_le _⟩ (fun H locs hd hS => ?_)
      refine lv_if_ne (tgt := 34) hx hb dX10_vote_28 (by decide) (fun q12 => ?_) (fun q12 => ?_)
      · have h := if_n q12 h
        refine lv_aload_n hx hb dX10_vote_34 rfl (lv_at hl 0 rfl) ?_
        obtain ⟨μ13, hc15, h⟩ := bV_e h
        refine rc_Vv (rest := []) [] ⟨hx, hb, hml, hown, hts⟩ hK hd hS (c_X10_remember hk_a0 hc15) (cwV 0 hts gX10_vote_X10_remember rfl rfl rfl hv_X10_remember ⟨Nat.le_of_ble_eq_true rfl, Nat.le_of_ble_eq_true rfl⟩) hk_a0 rfl rfl rfl rfl hl.1 rfl (Nat.le_of_ble_eq_true rfl) dX10_vote_35 ⟨Nat.zero_le _, Nat.zero_le _⟩ (fun H locs hd hS => ?_)
        refine lv_aload_n hx hb dX10_vote_38 rfl (lv_at hl 0 rfl) ?_
        obtain ⟨b16, hb16, h⟩ := bR_e h
        refine r_getr hx hb hts (fun w h => List.mem_cons_of_mem _ (List.mem_append_right _ (h))) hown hK hd hk_a0 hb16 rfl fs_10_8 (hts (.fieldLink RX10 22 "LevelVotesModel" "now" "[I") (List.mem_of_getElem? (i := 4) rfl)) dX10_vote_39 (fun hq => ?_)
        have hk_b16 : kd b16 = 11 := hq
        refine lv_iconst (v := 5) hx hb dX10_vote_42 (by decide) ?_
        refine lv_iload_n hx hb dX10_vote_43 rfl (lv_at hl 1 rfl) ?_
        refine lv_imul hx hb dX10_vote_44 ?_
        refine lv_iload_n hx hb dX10_vote_45 rfl (lv_at hl 2 rfl) ?_
        refine lv_iadd hx hb dX10_vote_46 ?_
        refine lv_iload_n hx hb dX10_vote_47 rfl (lv_at hl 3 rfl) ?_
        obtain ⟨g17, h⟩ := gd_e h
        refine r_iast hx hb hK hd hS hk_b16 (ckb_in g17) dX10_vote_48 (fun μ18 eμ18 H locs hd hS => ?_)
        have h := bM_e eμ18 h
        refine lv_aload_n hx hb dX10_vote_49 rfl (lv_at hl 0 rfl) ?_
        refine lv_iload_n hx hb dX10_vote_50 rfl (lv_at hl 2 rfl) ?_
        obtain ⟨r20, μ19, hc21, h⟩ := bC_e h
        refine rc_Vi (rest := []) [.int x2] ⟨hx, hb, hml, hown, hts⟩ hK hd hS (c_X10_standOf hk_a0 hc21) (cwV 1 hts gX10_vote_X10_standOf rfl rfl rfl hv_X10_standOf ⟨Nat.le_of_ble_eq_true rfl, Nat.le_of_ble_eq_true rfl⟩) hk_a0 rfl rfl rfl rfl hl.1 rfl (Nat.le_of_ble_eq_true rfl) dX10_vote_51 ⟨Nat.zero_le _, Nat.zero_le _⟩ (fun H locs hd hS => ?_)
        obtain ⟨rfl, rfl⟩ := so_e h
        exact rt_i hx hb hr hlk hd hS dX10_vote_54
      · have h := if_y q12 h
        refine lv_ldc (v := -1000000002) hx hb hown (hts (.constant RX10 106 (-1000000002)) (List.mem_of_getElem? (i := 3) rfl)) dX10_vote_31 ?_
        obtain ⟨rfl, rfl⟩ := so_e h
        exact rt_i hx hb hr hlk hd hS dX10_vote_33
    · have h := if_y q8 h
      refine lv_ldc (v := -1000000001) hx hb hown (hts (.constant RX10 226 (-1000000001)) (List.mem_of_getElem? (i := 1) rfl)) dX10_vote_16 ?_
      obtain ⟨rfl, rfl⟩ := so_e h
      exact rt_i hx hb hr hlk hd hS dX10_vote_18
theorem hv_X10_sit : yX10_sit.cls = RX10 ∧ yX10_sit.cls ≠ "java/lang/invoke/MethodHandle" ∧ yX10_sit.cls ≠ "java/lang/invoke/VarHandle" ∧ (parseMethodDescriptor yX10_sit.desc).map (fun d => d.parameters.length) = some 0 := by decide +kernel
def f_X10_sit (μ : Mm) (a0 : Nat) : Option Mm := bR (μ.2 a0 8) (fun b1 => gd (ckb (35 : Int32) (ln b1)) (gd (ckb (35 : Int32) (ln b1)) (bM (up2 μ.1 b1 ((35 : Int32)).toNatClampNeg ((μ.1 b1 ((35 : Int32)).toNatClampNeg) + (1 : Int32)), μ.2) (fun μ4 => bR (μ4.2 a0 8) (fun b5 => bC (f_X10_standNow μ4 a0) (fun r7 μ6 => gd (ckb (36 : Int32) (ln b5)) (bM (up2 μ6.1 b5 ((36 : Int32)).toNatClampNeg r7, μ6.2) (fun μ10 => some μ10))))))))
set_option maxRecDepth 100000 in
theorem c_X10_sit {l : Launch} {D : va_G} {cA : Nat → ClassId} {z : Nat} {μ : Mm} {a0 : Nat} {μ' : Mm} (hk_a0 : kd a0 = 10) (h : f_X10_sit μ a0 = some μ') : Ct l D cA z yX10_sit wsX10_sit 3 67 [.ref (z + a0)] μ none μ' := by
  refine m_in (cc := cX10_sit) (maxL := 1) (ret := none) (own := RX10) (by decide) rfl rfl (Nat.le_of_ble_eq_true rfl) ?_
  intro p e s m below meth c ls X hd hS hl
  obtain ⟨hx, hb, hr, hlk, hml, hown, hts, hK⟩ := id X
  have hl : lv_has ls 1 [(0, .ref (z + a0))] := hl
  unfold f_X10_sit at h
  refine lv_aload_n hx hb dX10_sit_0 rfl (lv_at hl 0 rfl) ?_
  obtain ⟨b1, hb1, h⟩ := bR_e h
  refine r_getr hx hb hts (fun w h => List.mem_cons_of_mem _ (List.mem_append_right _ (h))) hown hK hd hk_a0 hb1 rfl fs_10_8 (hts (.fieldLink RX10 22 "LevelVotesModel" "now" "[I") (List.mem_of_getElem? (i := 1) rfl)) dX10_sit_1 (fun hq => ?_)
  have hk_b1 : kd b1 = 11 := hq
  refine lv_bipush (v := 35) hx hb dX10_sit_4 (by decide) ?_
  refine lv_dup2_11 hx hb dX10_sit_6 rfl rfl ?_
  obtain ⟨g2, h⟩ := gd_e h
  refine r_iald hx hb hK hd hk_b1 (ckb_in g2) dX10_sit_7 ?_
  refine lv_iconst (v := 1) hx hb dX10_sit_8 (by decide) ?_
  refine lv_iadd hx hb dX10_sit_9 ?_
  obtain ⟨g3, h⟩ := gd_e h
  refine r_iast hx hb hK hd hS hk_b1 (ckb_in g3) dX10_sit_10 (fun μ4 eμ4 H locs hd hS => ?_)
  have h := bM_e eμ4 h
  refine lv_aload_n hx hb dX10_sit_11 rfl (lv_at hl 0 rfl) ?_
  obtain ⟨b5, hb5, h⟩ := bR_e h
  refine r_getr hx hb hts (fun w h => List.mem_cons_of_mem _ (List.mem_append_right _ (h))) hown hK hd hk_a0 hb5 rfl fs_10_8 (hts (.fieldLink RX10 22 "LevelVotesModel" "now" "[I") (List.mem_of_getElem? (i := 1) rfl)) dX10_sit_12 (fun hq => ?_)
  have hk_b5 : kd b5 = 11 := hq
  refine lv_bipush (v := 36) hx hb dX10_sit_15 (by decide) ?_
  refine lv_aload_n hx hb dX10_sit_17 rfl (lv_at hl 0 rfl) ?_
  obtain ⟨r7, μ6, hc8, h⟩ := bC_e h
  refine rc_Vi (rest := [.int (36 : Int32), .ref (z + b5)]) [] ⟨hx, hb, hml, hown, hts⟩ hK hd hS (c_X10_standNow hk_a0 hc8) (cwV 0 hts gX10_sit_X10_standNow rfl rfl rfl hv_X10_standNow ⟨Nat.le_of_ble_eq_true rfl, Nat.le_of_ble_eq_true rfl⟩) hk_a0 rfl rfl rfl rfl hl.1 rfl (Nat.le_of_ble_eq_true rfl) dX10_sit_18 ⟨Nat.zero_le _, Nat.zero_le _⟩ (fun H locs hd hS => ?_)
  obtain ⟨g9, h⟩ := gd_e h
  refine r_iast hx hb hK hd hS hk_b5 (ckb_in g9) dX10_sit_21 (fun μ10 eμ10 H locs hd hS => ?_)
  have h := bM_e eμ10 h
  obtain rfl := sv_e h
  exact rt_v hx hb hr hlk hd hS dX10_sit_22
theorem hv_X10_session : yX10_session.cls = RX10 ∧ yX10_session.cls ≠ "java/lang/invoke/MethodHandle" ∧ yX10_session.cls ≠ "java/lang/invoke/VarHandle" ∧ (parseMethodDescriptor yX10_session.desc).map (fun d => d.parameters.length) = some 0 := by decide +kernel
def f_X10_session (μ : Mm) (a0 : Nat) : Option (Int32 × Mm) := if (μ.1 a0 0) = 0 then (some ((-1000000003 : Int32), μ)) else (bR (μ.2 a0 8) (fun b2 => gd (ckb (35 : Int32) (ln b2)) (if (μ.1 b2 ((35 : Int32)).toNatClampNeg) ≤ (9000 : Int32) then (bV (f_X10_remember μ a0) (fun μ5 => bV (f_X10_sit μ5 a0) (fun μ8 => bR (μ8.2 a0 8) (fun b11 => gd (ckb (36 : Int32) (ln b11)) (some (μ8.1 b11 ((36 : Int32)).toNatClampNeg, μ8)))))) else (some ((-1000000004 : Int32), μ)))))
set_option maxRecDepth 100000 in
theorem c_X10_session {l : Launch} {D : va_G} {cA : Nat → ClassId} {z : Nat} {μ : Mm} {a0 : Nat} {r : Int32} {μ' : Mm} (hk_a0 : kd a0 = 10) (h : f_X10_session μ a0 = some (r, μ')) : Ct l D cA z yX10_session wsX10_session 4 87 [.ref (z + a0)] μ (some (.int r)) μ' := by
  refine m_in (cc := cX10_session) (maxL := 1) (ret := (some .int)) (own := RX10) (by decide) rfl rfl (Nat.le_of_ble_eq_true rfl) ?_
  intro p e s m below meth c ls X hd hS hl
  obtain ⟨hx, hb, hr, hlk, hml, hown, hts, hK⟩ := id X
  have hl : lv_has ls 1 [(0, .ref (z + a0))] := hl
  unfold f_X10_session at h
  refine lv_aload_n hx hb dX10_session_0 rfl (lv_at hl 0 rfl) ?_
  refine r_geti hx hb hts (fun w h => List.mem_cons_of_mem _ (List.mem_append_right _ (h))) hown hK hd hk_a0 rfl 0 fs_10_0 (hts (.fieldLink RX10 84 "LevelVotesModel" "columns" "I") (List.mem_of_getElem? (i := 1) rfl)) dX10_session_1 ?_
  refine lv_if_ne (tgt := 10) hx hb dX10_session_4 (by decide) (fun q1 => ?_) (fun q1 => ?_)
  · have h := if_n q1 h
    refine lv_aload_n hx hb dX10_session_10 rfl (lv_at hl 0 rfl) ?_
    obtain ⟨b2, hb2, h⟩ := bR_e h
    refine r_getr hx hb hts (fun w h => List.mem_cons_of_mem _ (List.mem_append_right _ (h))) hown hK hd hk_a0 hb2 rfl fs_10_8 (hts (.fieldLink RX10 22 "LevelVotesModel" "now" "[I") (List.mem_of_getElem? (i := 3) rfl)) dX10_session_11 (fun hq => ?_)
    have hk_b2 : kd b2 = 11 := hq
    refine lv_bipush (v := 35) hx hb dX10_session_14 (by decide) ?_
    obtain ⟨g3, h⟩ := gd_e h
    refine r_iald hx hb hK hd hk_b2 (ckb_in g3) dX10_session_16 ?_
    refine lv_sipush (v := 9000) hx hb dX10_session_17 (by decide) ?_
    refine lv_icmp_le (tgt := 26) hx hb dX10_session_20 (by decide) (fun q4 => ?_) (fun q4 => ?_)
    · have h := if_y q4 h
      refine lv_aload_n hx hb dX10_session_26 rfl (lv_at hl 0 rfl) ?_
      obtain ⟨μ5, hc7, h⟩ := bV_e h
      refine rc_Vv (rest := []) [] ⟨hx, hb, hml, hown, hts⟩ hK hd hS (c_X10_remember hk_a0 hc7) (cwV 0 hts gX10_session_X10_remember rfl rfl rfl hv_X10_remember ⟨Nat.le_of_ble_eq_true rfl, Nat.le_of_ble_eq_true rfl⟩) hk_a0 rfl rfl rfl rfl hl.1 rfl (Nat.le_of_ble_eq_true rfl) dX10_session_27 ⟨Nat.zero_le _, Nat.zero_le _⟩ (fun H locs hd hS => ?_)
      refine lv_aload_n hx hb dX10_session_30 rfl (lv_at hl 0 rfl) ?_
      obtain ⟨μ8, hc10, h⟩ := bV_e h
      refine rc_Vv (rest := []) [] ⟨hx, hb, hml, hown, hts⟩ hK hd hS (c_X10_sit hk_a0 hc10) (cwV 0 hts gX10_session_X10_sit rfl rfl rfl hv_X10_sit ⟨Nat.le_of_ble_eq_true rfl, Nat.le_of_ble_eq_true rfl⟩) hk_a0 rfl rfl rfl rfl hl.1 rfl (Nat.le_of_ble_eq_true rfl) dX10_session_31 ⟨Nat.zero_le _, Nat.zero_le _⟩ (fun H locs hd hS => ?_)
      refine lv_aload_n hx hb dX10_session_34 rfl (lv_at hl 0 rfl) ?_
      obtain ⟨b11, hb11, h⟩ := bR_e h
      refine r_getr hx hb hts (fun w h => List.mem_cons_of_mem _ (List.mem_append_right _ (h))) hown hK hd hk_a0 hb11 rfl fs_10_8 (hts (.fieldLink RX10 22 "LevelVotesModel" "now" "[I") (List.mem_of_getElem? (i := 3) rfl)) dX10_session_35 (fun hq => ?_)
      have hk_b11 : kd b11 = 11 := hq
      refine lv_bipush (v := 36) hx hb dX10_session_38 (by decide) ?_
      obtain ⟨g12, h⟩ := gd_e h
      refine r_iald hx hb hK hd hk_b11 (ckb_in g12) dX10_session_40 ?_
      obtain ⟨rfl, rfl⟩ := so_e h
      exact rt_i hx hb hr hlk hd hS dX10_session_41
    · have h := if_n q4 h
      refine lv_ldc (v := -1000000004) hx hb hown (hts (.constant RX10 110 (-1000000004)) (List.mem_of_getElem? (i := 4) rfl)) dX10_session_23 ?_
      obtain ⟨rfl, rfl⟩ := so_e h
      exact rt_i hx hb hr hlk hd hS dX10_session_25
  · have h := if_y q1 h
    refine lv_ldc (v := -1000000003) hx hb hown (hts (.constant RX10 247 (-1000000003)) (List.mem_of_getElem? (i := 2) rfl)) dX10_session_7 ?_
    obtain ⟨rfl, rfl⟩ := so_e h
    exact rt_i hx hb hr hlk hd hS dX10_session_9
theorem hv_X10_draw : yX10_draw.cls = RX10 ∧ yX10_draw.cls ≠ "java/lang/invoke/MethodHandle" ∧ yX10_draw.cls ≠ "java/lang/invoke/VarHandle" ∧ (parseMethodDescriptor yX10_draw.desc).map (fun d => d.parameters.length) = some 1 := by decide +kernel
def f_X10_draw (μ : Mm) (a0 : Nat) (x1 : Int32) : Option (Int32 × Mm) := bM (up2 μ.1 a0 9 ((((((μ.1 a0 9).toInt64) * (1103515245 : Int64)) + (12345 : Int64)) - ((((μ.1 a0 9).toInt64) * (1103515245 : Int64)) + (12345 : Int64)) / (2147483648 : Int64) * (2147483648 : Int64)).toInt32), μ.2) (fun μ1 => gd (ck0 x1) (some (((μ1.1 a0 9) / (65536 : Int32)) - ((μ1.1 a0 9) / (65536 : Int32)) / x1 * x1, μ1)))
set_option maxRecDepth 100000 in
theorem c_X10_draw {l : Launch} {D : va_G} {cA : Nat → ClassId} {z : Nat} {μ : Mm} {a0 : Nat} {x1 : Int32} {r : Int32} {μ' : Mm} (hk_a0 : kd a0 = 10) (h : f_X10_draw μ a0 x1 = some (r, μ')) : Ct l D cA z yX10_draw wsX10_draw 0 0 [.ref (z + a0), .int x1] μ (some (.int r)) μ' := by
  refine m_in (cc := cX10_draw) (maxL := 2) (ret := (some .int)) (own := RX10) (by decide) rfl rfl (Nat.le_of_ble_eq_true rfl) ?_
  intro p e s m below meth c ls X hd hS hl
  obtain ⟨hx, hb, hr, hlk, hml, hown, hts, hK⟩ := id X
  have hl : lv_has ls 2 [(0, .ref (z + a0)), (1, .int x1)] := hl
  unfold f_X10_draw at h
  refine lv_aload_n hx hb dX10_draw_0 rfl (lv_at hl 0 rfl) ?_
  refine lv_aload_n hx hb dX10_draw_1 rfl (lv_at hl 0 rfl) ?_
  refine r_geti hx hb hts (fun w h => List.mem_cons_of_mem _ (List.mem_append_right _ (h))) hown hK hd hk_a0 rfl 9 fs_10_9 (hts (.fieldLink RX10 251 "LevelVotesModel" "seed" "I") (List.mem_of_getElem? (i := 1) rfl)) dX10_draw_2 ?_
  refine lv_i2l hx hb dX10_draw_5 rfl ?_
  refine lv_ldc2 (v := 1103515245) hx hb hown (hts (.constantLong RX10 254 (1103515245)) (List.mem_of_getElem? (i := 2) rfl)) dX10_draw_6 ?_
  refine lv_lmul hx hb dX10_draw_9 ?_
  refine lv_ldc2 (v := 12345) hx hb hown (hts (.constantLong RX10 256 (12345)) (List.mem_of_getElem? (i := 3) rfl)) dX10_draw_10 ?_
  refine lv_ladd hx hb dX10_draw_13 ?_
  refine lv_ldc2 (v := 2147483648) hx hb hown (hts (.constantLong RX10 258 (2147483648)) (List.mem_of_getElem? (i := 4) rfl)) dX10_draw_14 ?_
  refine lv_lrem hx hb dX10_draw_17 (by decide) ?_
  refine lv_l2i hx hb dX10_draw_18 rfl ?_
  refine r_puti hx hb hts (fun w h => List.mem_cons_of_mem _ (List.mem_append_right _ (h))) tyX10 tyX10_ok nmX10 hown hK hd hS hk_a0 rfl 9 fs_10_9 rfl (hts (.fieldLink RX10 251 "LevelVotesModel" "seed" "I") (List.mem_of_getElem? (i := 1) rfl)) (vp_nar_int _) rfl dX10_draw_19 (fun μ1 eμ1 H locs hd hS => ?_)
  have h := bM_e eμ1 h
  refine lv_aload_n hx hb dX10_draw_22 rfl (lv_at hl 0 rfl) ?_
  refine r_geti hx hb hts (fun w h => List.mem_cons_of_mem _ (List.mem_append_right _ (h))) hown hK hd hk_a0 rfl 9 fs_10_9 (hts (.fieldLink RX10 251 "LevelVotesModel" "seed" "I") (List.mem_of_getElem? (i := 1) rfl)) dX10_draw_23 ?_
  refine lv_ldcw (v := 65536) hx hb hown (hts (.constant RX10 260 (65536)) (List.mem_of_getElem? (i := 5) rfl)) dX10_draw_26 ?_
  refine lv_idiv hx hb dX10_draw_29 (by decide) ?_
  refine lv_iload_n hx hb dX10_draw_30 rfl (lv_at hl 1 rfl) ?_
  obtain ⟨g2, h⟩ := gd_e h
  refine lv_irem hx hb dX10_draw_31 (ck0_ne g2) ?_
  obtain ⟨rfl, rfl⟩ := so_e h
  exact rt_i hx hb hr hlk hd hS dX10_draw_32
theorem hv_X10_drift : yX10_drift.cls = RX10 ∧ yX10_drift.cls ≠ "java/lang/invoke/MethodHandle" ∧ yX10_drift.cls ≠ "java/lang/invoke/VarHandle" ∧ (parseMethodDescriptor yX10_drift.desc).map (fun d => d.parameters.length) = some 1 := by decide +kernel
abbrev HL_X10_drift_47 (l : Launch) (D : va_G) (cA : Nat → ClassId) (z : Nat) (av : List Value) (r : Int32) (μ' : Mm) (p : Program) (e : Env) (s : State) (m : MethodId) (below : List Frame) (meth : Method) (c : Code) (rc : Mm → Nat → Int32 → Int32 → Option (Int32 × Mm)) : Prop := ∀ (μ : Mm) (H : Heap) (locs : List Loc) (ls : Array Slot) (a0 : Nat) (x1 : Int32) (x2 : Int32), kd a0 = 10 → Wd D cA z μ H → va_S (Az z) s.heap H locs → lv_has ls 5 [(0, .ref (z + a0)), (1, .int x1), (2, .int x2)] → rc μ a0 x1 x2 = some (r, μ') → WG l D cA z wsX10_drift 4 87 av (some (.int r)) μ' p e s m below meth c H locs (F0 m 47 ls [])
def f_X10_drift_j111 (μ : Mm) (a0 : Nat) : Option (Int32 × Mm) := bC (f_X10_standNow μ a0) (fun r2 μ1 => some (r2, μ1))
set_option maxRecDepth 100000 in
theorem k_f_X10_drift_j111 {l : Launch} {D : va_G} {cA : Nat → ClassId} {z : Nat} {av : List Value} {p : Program} {e : Env} {s : State} {m : MethodId} {below : List Frame} {meth : Method} {c : Code} {r : Int32} {μ' : Mm} (X : Fx D cA RX10 wsX10_drift cX10_drift 5 (some .int) p s m av.toArray meth c) {μ : Mm} {a0 : Nat} (hk_a0 : kd a0 = 10) {H : Heap} {locs : List Loc} {ls : Array Slot} (hd : Wd D cA z μ H) (hS : va_S (Az z) s.heap H locs) (hl : lv_has ls 5 [(0, .ref (z + a0))]) (h : f_X10_drift_j111 μ a0 = some (r, μ')) : WG l D cA z wsX10_drift 4 87 av (some (.int r)) μ' p e s m below meth c H locs (F0 m 111 ls []) := by
  obtain ⟨hx, hb, hr, hlk, hml, hown, hts, hK⟩ := id X
  unfold f_X10_drift_j111 at h
  refine lv_aload_n hx hb dX10_drift_111 rfl (lv_at hl 0 rfl) ?_
  obtain ⟨r2, μ1, hc3, h⟩ := bC_e h
  refine rc_Vi (rest := []) [] ⟨hx, hb, hml, hown, hts⟩ hK hd hS (c_X10_standNow hk_a0 hc3) (cwV 0 hts gX10_drift_X10_standNow rfl rfl rfl hv_X10_standNow ⟨Nat.le_of_ble_eq_true rfl, Nat.le_of_ble_eq_true rfl⟩) hk_a0 rfl rfl rfl rfl hl.1 rfl (Nat.le_of_ble_eq_true rfl) dX10_drift_112 ⟨Nat.zero_le _, Nat.zero_le _⟩ (fun H locs hd hS => ?_)
  obtain ⟨rfl, rfl⟩ := so_e h
  exact rt_i hx hb hr hlk hd hS dX10_drift_115
def f_X10_drift_L47b (rc47 : Mm → Nat → Int32 → Int32 → Option (Int32 × Mm)) (μ : Mm) (a0 : Nat) (x1 : Int32) (x2 : Int32) : Option (Int32 × Mm) := if x1 ≤ x2 then (f_X10_drift_j111 μ a0) else (if (μ.1 a0 7) ≤ 0 then (f_X10_drift_j111 μ a0) else (if (μ.1 a0 3) ≤ 0 then (f_X10_drift_j111 μ a0) else (bC (f_X10_draw μ a0 (μ.1 a0 7)) (fun r5 μ4 => bC (f_X10_draw μ4 a0 (μ4.1 a0 3)) (fun r8 μ7 => bR (μ7.2 a0 8) (fun b10 => bC (f_X10_draw μ7 a0 (3 : Int32)) (fun r12 μ11 => gd (ckb (((5 : Int32) * r5) + r8) (ln b10)) (bM (up2 μ11.1 b10 (((5 : Int32) * r5) + r8).toNatClampNeg r12, μ11.2) (fun μ15 => bV (f_X10_sit μ15 a0) (fun μ16 => rc47 μ16 a0 x1 (x2 + (1 : Int32))))))))))))
set_option maxRecDepth 100000 in
theorem k_f_X10_drift_L47b {l : Launch} {D : va_G} {cA : Nat → ClassId} {z : Nat} {av : List Value} {p : Program} {e : Env} {s : State} {m : MethodId} {below : List Frame} {meth : Method} {c : Code} {r : Int32} {μ' : Mm} (X : Fx D cA RX10 wsX10_drift cX10_drift 5 (some .int) p s m av.toArray meth c) {rc47 : Mm → Nat → Int32 → Int32 → Option (Int32 × Mm)} (hrc47 : HL_X10_drift_47 l D cA z av r μ' p e s m below meth c rc47) {μ : Mm} {a0 : Nat} {x1 : Int32} {x2 : Int32} (hk_a0 : kd a0 = 10) {H : Heap} {locs : List Loc} {ls : Array Slot} (hd : Wd D cA z μ H) (hS : va_S (Az z) s.heap H locs) (hl : lv_has ls 5 [(0, .ref (z + a0)), (1, .int x1), (2, .int x2)]) (h : f_X10_drift_L47b rc47 μ a0 x1 x2 = some (r, μ')) : WG l D cA z wsX10_drift 4 87 av (some (.int r)) μ' p e s m below meth c H locs (F0 m 47 ls []) := by
  obtain ⟨hx, hb, hr, hlk, hml, hown, hts, hK⟩ := id X
  unfold f_X10_drift_L47b at h
  refine lv_iload_n hx hb dX10_drift_47 rfl (lv_at hl 2 rfl) ?_
  refine lv_iload_n hx hb dX10_drift_48 rfl (lv_at hl 1 rfl) ?_
  refine lv_icmp_ge (tgt := 111) hx hb dX10_drift_49 (by decide) (fun q1 => ?_) (fun q1 => ?_)
  · have h := if_y q1 h
    exact k_f_X10_drift_j111 X hk_a0 hd hS (lv_sub hl [0] rfl) h
  · have h := if_n q1 h
    refine lv_aload_n hx hb dX10_drift_52 rfl (lv_at hl 0 rfl) ?_
    refine r_geti hx hb hts (fun w h => List.mem_cons_of_mem _ (List.mem_append_right _ (h))) hown hK hd hk_a0 rfl 7 fs_10_7 (hts (.fieldLink RX10 101 "LevelVotesModel" "persons" "I") (List.mem_of_getElem? (i := 7) rfl)) dX10_drift_53 ?_
    refine lv_if_le (tgt := 111) hx hb dX10_drift_56 (by decide) (fun q2 => ?_) (fun q2 => ?_)
    · have h := if_y q2 h
      exact k_f_X10_drift_j111 X hk_a0 hd hS (lv_sub hl [0] rfl) h
    · have h := if_n q2 h
      refine lv_aload_n hx hb dX10_drift_59 rfl (lv_at hl 0 rfl) ?_
      refine r_geti hx hb hts (fun w h => List.mem_cons_of_mem _ (List.mem_append_right _ (h))) hown hK hd hk_a0 rfl 3 fs_10_3 (hts (.fieldLink RX10 98 "LevelVotesModel" "items" "I") (List.mem_of_getElem? (i := 8) rfl)) dX10_drift_60 ?_
      refine lv_if_le (tgt := 111) hx hb dX10_drift_63 (by decide) (fun q3 => ?_) (fun q3 => ?_)
      · have h := if_y q3 h
        exact k_f_X10_drift_j111 X hk_a0 hd hS (lv_sub hl [0] rfl) h
      · have h := if_n q3 h
        refine lv_aload_n hx hb dX10_drift_66 rfl (lv_at hl 0 rfl) ?_
        refine lv_aload_n hx hb dX10_drift_67 rfl (lv_at hl 0 rfl) ?_
        refine r_geti hx hb hts (fun w h => List.mem_cons_of_mem _ (List.mem_append_right _ (h))) hown hK hd hk_a0 rfl 7 fs_10_7 (hts (.fieldLink RX10 101 "LevelVotesModel" "persons" "I") (List.mem_of_getElem? (i := 7) rfl)) dX10_drift_68 ?_
        obtain ⟨r5, μ4, hc6, h⟩ := bC_e h
        refine rc_Vi (rest := []) [.int (μ.1 a0 7)] ⟨hx, hb, hml, hown, hts⟩ hK hd hS (c_X10_draw hk_a0 hc6) (cwV 1 hts gX10_drift_X10_draw rfl rfl rfl hv_X10_draw ⟨Nat.le_of_ble_eq_true rfl, Nat.le_of_ble_eq_true rfl⟩) hk_a0 rfl rfl rfl rfl hl.1 rfl (Nat.le_of_ble_eq_true rfl) dX10_drift_71 ⟨Nat.zero_le _, Nat.zero_le _⟩ (fun H locs hd hS => ?_)
        refine lv_istore_n (lv' := [(3, .int r5), (0, .ref (z + a0)), (1, .int x1), (2, .int x2)]) hx hb dX10_drift_74 rfl hl (by decide) rfl (fun ls hl => ?_)
        refine lv_aload_n hx hb dX10_drift_75 rfl (lv_at hl 1 rfl) ?_
        refine lv_aload_n hx hb dX10_drift_76 rfl (lv_at hl 1 rfl) ?_
        refine r_geti hx hb hts (fun w h => List.mem_cons_of_mem _ (List.mem_append_right _ (h))) hown hK hd hk_a0 rfl 3 fs_10_3 (hts (.fieldLink RX10 98 "LevelVotesModel" "items" "I") (List.mem_of_getElem? (i := 8) rfl)) dX10_drift_77 ?_
        obtain ⟨r8, μ7, hc9, h⟩ := bC_e h
        refine rc_Vi (rest := []) [.int (μ4.1 a0 3)] ⟨hx, hb, hml, hown, hts⟩ hK hd hS (c_X10_draw hk_a0 hc9) (cwV 1 hts gX10_drift_X10_draw rfl rfl rfl hv_X10_draw ⟨Nat.le_of_ble_eq_true rfl, Nat.le_of_ble_eq_true rfl⟩) hk_a0 rfl rfl rfl rfl hl.1 rfl (Nat.le_of_ble_eq_true rfl) dX10_drift_80 ⟨Nat.zero_le _, Nat.zero_le _⟩ (fun H locs hd hS => ?_)
        refine lv_istore (lv' := [(4, .int r8), (3, .int r5), (0, .ref (z + a0)), (1, .int x1), (2, .int x2)]) hx hb dX10_drift_83 hl (by decide) rfl (fun ls hl => ?_)
        refine lv_aload_n hx hb dX10_drift_85 rfl (lv_at hl 2 rfl) ?_
        obtain ⟨b10, hb10, h⟩ := bR_e h
        refine r_getr hx hb hts (fun w h => List.mem_cons_of_mem _ (List.mem_append_right _ (h))) hown hK hd hk_a0 hb10 rfl fs_10_8 (hts (.fieldLink RX10 22 "LevelVotesModel" "now" "[I") (List.mem_of_getElem? (i := 5) rfl)) dX10_drift_86 (fun hq => ?_)
        have hk_b10 : kd b10 = 11 := hq
        refine lv_iconst (v := 5) hx hb dX10_drift_89 (by decide) ?_
        refine lv_iload_n hx hb dX10_drift_90 rfl (lv_at hl 1 rfl) ?_
        refine lv_imul hx hb dX10_drift_91 ?_
        refine lv_iload hx hb dX10_drift_92 (lv_at hl 0 rfl) ?_
        refine lv_iadd hx hb dX10_drift_94 ?_
        refine lv_aload_n hx hb dX10_drift_95 rfl (lv_at hl 2 rfl) ?_
        refine lv_iconst (v := 3) hx hb dX10_drift_96 (by decide) ?_
        obtain ⟨r12, μ11, hc13, h⟩ := bC_e h
        refine rc_Vi (rest := [.int (((5 : Int32) * r5) + r8), .ref (z + b10)]) [.int (3 : Int32)] ⟨hx, hb, hml, hown, hts⟩ hK hd hS (c_X10_draw hk_a0 hc13) (cwV 1 hts gX10_drift_X10_draw rfl rfl rfl hv_X10_draw ⟨Nat.le_of_ble_eq_true rfl, Nat.le_of_ble_eq_true rfl⟩) hk_a0 rfl rfl rfl rfl hl.1 rfl (Nat.le_of_ble_eq_true rfl) dX10_drift_97 ⟨Nat.zero_le _, Nat.zero_le _⟩ (fun H locs hd hS => ?_)
        obtain ⟨g14, h⟩ := gd_e h
        refine r_iast hx hb hK hd hS hk_b10 (ckb_in g14) dX10_drift_100 (fun μ15 eμ15 H locs hd hS => ?_)
        have h := bM_e eμ15 h
        refine lv_aload_n hx hb dX10_drift_101 rfl (lv_at hl 2 rfl) ?_
        obtain ⟨μ16, hc18, h⟩ := bV_e h
        refine rc_Vv (rest := []) [] ⟨hx, hb, hml, hown, hts⟩ hK hd hS (c_X10_sit hk_a0 hc18) (cwV 0 hts gX10_drift_X10_sit rfl rfl rfl hv_X10_sit ⟨Nat.le_of_ble_eq_true rfl, Nat.le_of_ble_eq_true rfl⟩) hk_a0 rfl rfl rfl rfl hl.1 rfl (Nat.le_of_ble_eq_true rfl) dX10_drift_102 ⟨Nat.zero_le _, Nat.zero_le _⟩ (fun H locs hd hS => ?_)
        refine lv_iinc (v := x2 + (1 : Int32)) (lv' := [(2, .int (x2 + (1 : Int32))), (4, .int r8), (3, .int r5), (0, .ref (z + a0)), (1, .int x1)]) hx hb dX10_drift_105 hl (k := 4) rfl rfl (by decide) rfl (fun ls hl => ?_)
        refine lv_goto (tgt := 47) hx hb dX10_drift_108 (by decide) ?_
        exact hrc47 _ _ _ _ _ _ _ hk_a0 hd hS (lv_sub hl [3, 4, 0] rfl) h
def f_X10_drift_L47 : Nat → Mm → Nat → Int32 → Int32 → Option (Int32 × Mm)
  | 0 => fun _ _ _ _ => none
  | n + 1 => fun μ a0 x1 x2 => f_X10_drift_L47b (f_X10_drift_L47 n) μ a0 x1 x2
theorem k_f_X10_drift_L47 {l : Launch} {D : va_G} {cA : Nat → ClassId} {z : Nat} {av : List Value} {p : Program} {e : Env} {s : State} {m : MethodId} {below : List Frame} {meth : Method} {c : Code} {r : Int32} {μ' : Mm} (X : Fx D cA RX10 wsX10_drift cX10_drift 5 (some .int) p s m av.toArray meth c) (n : Nat) : HL_X10_drift_47 l D cA z av r μ' p e s m below meth c (f_X10_drift_L47 n) := by
  induction n with
  | zero => intro _ _ _ _ _ _ _ _ _ _ _ h; have h2 : (none : Option _) = some _ := h; cases h2
  | succ n ih => intro μ H locs ls a0 x1 x2 hk_a0 hd hS hl h; exact k_f_X10_drift_L47b X ih hk_a0 hd hS hl h
def f_X10_drift (μ : Mm) (a0 : Nat) (x1 : Int32) : Option (Int32 × Mm) := bC (f_X10_in μ (x1.toInt64) (1 : Int64) (60 : Int64)) (fun r2 μ1 => if r2 = 0 then (some ((-1000000002 : Int32), μ1)) else (if (μ1.1 a0 0) = 0 then (some ((-1000000003 : Int32), μ1)) else (bR (μ1.2 a0 8) (fun b6 => gd (ckb (35 : Int32) (ln b6)) (if (μ1.1 b6 ((35 : Int32)).toNatClampNeg) ≤ (9000 : Int32) then (bV (f_X10_remember μ1 a0) (fun μ9 => f_X10_drift_L47 FU μ9 a0 x1 (0 : Int32))) else (some ((-1000000004 : Int32), μ1)))))))
set_option maxRecDepth 100000 in
theorem c_X10_drift {l : Launch} {D : va_G} {cA : Nat → ClassId} {z : Nat} {μ : Mm} {a0 : Nat} {x1 : Int32} {r : Int32} {μ' : Mm} (hk_a0 : kd a0 = 10) (h : f_X10_drift μ a0 x1 = some (r, μ')) : Ct l D cA z yX10_drift wsX10_drift 4 87 [.ref (z + a0), .int x1] μ (some (.int r)) μ' := by
  refine m_in (cc := cX10_drift) (maxL := 5) (ret := (some .int)) (own := RX10) (by decide) rfl rfl (Nat.le_of_ble_eq_true rfl) ?_
  intro p e s m below meth c ls X hd hS hl
  obtain ⟨hx, hb, hr, hlk, hml, hown, hts, hK⟩ := id X
  have hl : lv_has ls 5 [(0, .ref (z + a0)), (1, .int x1)] := hl
  unfold f_X10_drift at h
  refine lv_iload_n hx hb dX10_drift_0 rfl (lv_at hl 1 rfl) ?_
  refine lv_i2l hx hb dX10_drift_1 rfl ?_
  refine lv_lconst (v := 1) hx hb dX10_drift_2 (by decide) ?_
  refine lv_ldc2 (v := 60) hx hb hown (hts (.constantLong RX10 261 (60)) (List.mem_of_getElem? (i := 1) rfl)) dX10_drift_3 ?_
  obtain ⟨r2, μ1, hc3, h⟩ := bC_e h
  refine rc_Si (rest := []) [.long (x1.toInt64), .long (1 : Int64), .long (60 : Int64)] ⟨hx, hb, hml, hown, hts⟩ hK hd hS (c_X10_in  hc3) (va_cwS 3 hts gX10_drift_X10_in rfl rfl rfl hn_X10_in ⟨Nat.le_of_ble_eq_true rfl, Nat.le_of_ble_eq_true rfl⟩) rfl hl.1 rfl (Nat.le_of_ble_eq_true rfl) dX10_drift_6 ⟨Nat.zero_le _, Nat.zero_le _⟩ (fun H locs hd hS => ?_)
  refine lv_if_ne (tgt := 15) hx hb dX10_drift_9 (by decide) (fun q4 => ?_) (fun q4 => ?_)
  · have h := if_n q4 h
    refine lv_aload_n hx hb dX10_drift_15 rfl (lv_at hl 0 rfl) ?_
    refine r_geti hx hb hts (fun w h => List.mem_cons_of_mem _ (List.mem_append_right _ (h))) hown hK hd hk_a0 rfl 0 fs_10_0 (hts (.fieldLink RX10 84 "LevelVotesModel" "columns" "I") (List.mem_of_getElem? (i := 3) rfl)) dX10_drift_16 ?_
    refine lv_if_ne (tgt := 25) hx hb dX10_drift_19 (by decide) (fun q5 => ?_) (fun q5 => ?_)
    · have h := if_n q5 h
      refine lv_aload_n hx hb dX10_drift_25 rfl (lv_at hl 0 rfl) ?_
      obtain ⟨b6, hb6, h⟩ := bR_e h
      refine r_getr hx hb hts (fun w h => List.mem_cons_of_mem _ (List.mem_append_right _ (h))) hown hK hd hk_a0 hb6 rfl fs_10_8 (hts (.fieldLink RX10 22 "LevelVotesModel" "now" "[I") (List.mem_of_getElem? (i := 5) rfl)) dX10_drift_26 (fun hq => ?_)
      have hk_b6 : kd b6 = 11 := hq
      refine lv_bipush (v := 35) hx hb dX10_drift_29 (by decide) ?_
      obtain ⟨g7, h⟩ := gd_e h
      refine r_iald hx hb hK hd hk_b6 (ckb_in g7) dX10_drift_31 ?_
      refine lv_sipush (v := 9000) hx hb dX10_drift_32 (by decide) ?_
      refine lv_icmp_le (tgt := 41) hx hb dX10_drift_35 (by decide) (fun q8 => ?_) (fun q8 => ?_)
      · have h := if_y q8 h
        refine lv_aload_n hx hb dX10_drift_41 rfl (lv_at hl 0 rfl) ?_
        obtain ⟨μ9, hc11, h⟩ := bV_e h
        refine rc_Vv (rest := []) [] ⟨hx, hb, hml, hown, hts⟩ hK hd hS (c_X10_remember hk_a0 hc11) (cwV 0 hts gX10_drift_X10_remember rfl rfl rfl hv_X10_remember ⟨Nat.le_of_ble_eq_true rfl, Nat.le_of_ble_eq_true rfl⟩) hk_a0 rfl rfl rfl rfl hl.1 rfl (Nat.le_of_ble_eq_true rfl) dX10_drift_42 ⟨Nat.zero_le _, Nat.zero_le _⟩ (fun H locs hd hS => ?_)
        refine lv_iconst (v := 0) hx hb dX10_drift_45 (by decide) ?_
        refine lv_istore_n (lv' := [(2, .int (0 : Int32)), (0, .ref (z + a0)), (1, .int x1)]) hx hb dX10_drift_46 rfl hl (by decide) rfl (fun ls hl => ?_)
        exact k_f_X10_drift_L47 X FU _ _ _ _ _ _ _ hk_a0 hd hS (lv_sub hl [1, 2, 0] rfl) h
      · have h := if_n q8 h
        refine lv_ldc (v := -1000000004) hx hb hown (hts (.constant RX10 110 (-1000000004)) (List.mem_of_getElem? (i := 6) rfl)) dX10_drift_38 ?_
        obtain ⟨rfl, rfl⟩ := so_e h
        exact rt_i hx hb hr hlk hd hS dX10_drift_40
    · have h := if_y q5 h
      refine lv_ldc (v := -1000000003) hx hb hown (hts (.constant RX10 247 (-1000000003)) (List.mem_of_getElem? (i := 4) rfl)) dX10_drift_22 ?_
      obtain ⟨rfl, rfl⟩ := so_e h
      exact rt_i hx hb hr hlk hd hS dX10_drift_24
  · have h := if_y q4 h
    refine lv_ldc (v := -1000000002) hx hb hown (hts (.constant RX10 106 (-1000000002)) (List.mem_of_getElem? (i := 2) rfl)) dX10_drift_12 ?_
    obtain ⟨rfl, rfl⟩ := so_e h
    exact rt_i hx hb hr hlk hd hS dX10_drift_14
theorem hv_X10_undo : yX10_undo.cls = RX10 ∧ yX10_undo.cls ≠ "java/lang/invoke/MethodHandle" ∧ yX10_undo.cls ≠ "java/lang/invoke/VarHandle" ∧ (parseMethodDescriptor yX10_undo.desc).map (fun d => d.parameters.length) = some 0 := by decide +kernel
abbrev HL_X10_undo_22 (l : Launch) (D : va_G) (cA : Nat → ClassId) (z : Nat) (av : List Value) (r : Int32) (μ' : Mm) (p : Program) (e : Env) (s : State) (m : MethodId) (below : List Frame) (meth : Method) (c : Code) (rc : Mm → Nat → Int32 → Option (Int32 × Mm)) : Prop := ∀ (μ : Mm) (H : Heap) (locs : List Loc) (ls : Array Slot) (a0 : Nat) (x1 : Int32), kd a0 = 10 → Wd D cA z μ H → va_S (Az z) s.heap H locs → lv_has ls 2 [(0, .ref (z + a0)), (1, .int x1)] → rc μ a0 x1 = some (r, μ') → WG l D cA z wsX10_undo 0 0 av (some (.int r)) μ' p e s m below meth c H locs (F0 m 22 ls [])
def f_X10_undo_L22b (rc22 : Mm → Nat → Int32 → Option (Int32 × Mm)) (μ : Mm) (a0 : Nat) (x1 : Int32) : Option (Int32 × Mm) := if (37 : Int32) ≤ x1 then (some (μ.1 a0 27, μ)) else (bR (μ.2 a0 8) (fun b2 => bR (μ.2 a0 28) (fun b3 => gd (ckb (((37 : Int32) * (μ.1 a0 27)) + x1) (ln b3)) (gd (ckb x1 (ln b2)) (bM (up2 μ.1 b2 (x1).toNatClampNeg (μ.1 b3 (((37 : Int32) * (μ.1 a0 27)) + x1).toNatClampNeg), μ.2) (fun μ6 => rc22 μ6 a0 (x1 + (1 : Int32))))))))
set_option maxRecDepth 100000 in
theorem k_f_X10_undo_L22b {l : Launch} {D : va_G} {cA : Nat → ClassId} {z : Nat} {av : List Value} {p : Program} {e : Env} {s : State} {m : MethodId} {below : List Frame} {meth : Method} {c : Code} {r : Int32} {μ' : Mm} (X : Fx D cA RX10 wsX10_undo cX10_undo 2 (some .int) p s m av.toArray meth c) {rc22 : Mm → Nat → Int32 → Option (Int32 × Mm)} (hrc22 : HL_X10_undo_22 l D cA z av r μ' p e s m below meth c rc22) {μ : Mm} {a0 : Nat} {x1 : Int32} (hk_a0 : kd a0 = 10) {H : Heap} {locs : List Loc} {ls : Array Slot} (hd : Wd D cA z μ H) (hS : va_S (Az z) s.heap H locs) (hl : lv_has ls 2 [(0, .ref (z + a0)), (1, .int x1)]) (h : f_X10_undo_L22b rc22 μ a0 x1 = some (r, μ')) : WG l D cA z wsX10_undo 0 0 av (some (.int r)) μ' p e s m below meth c H locs (F0 m 22 ls []) := by
  obtain ⟨hx, hb, hr, hlk, hml, hown, hts, hK⟩ := id X
  unfold f_X10_undo_L22b at h
  refine lv_iload_n hx hb dX10_undo_22 rfl (lv_at hl 1 rfl) ?_
  refine lv_bipush (v := 37) hx hb dX10_undo_23 (by decide) ?_
  refine lv_icmp_ge (tgt := 54) hx hb dX10_undo_25 (by decide) (fun q1 => ?_) (fun q1 => ?_)
  · have h := if_y q1 h
    refine lv_aload_n hx hb dX10_undo_54 rfl (lv_at hl 0 rfl) ?_
    refine r_geti hx hb hts (fun w h => List.mem_cons_of_mem _ (List.mem_append_right _ (h))) hown hK hd hk_a0 rfl 27 fs_10_27 (hts (.fieldLink RX10 172 "LevelVotesModel" "undos" "I") (List.mem_of_getElem? (i := 1) rfl)) dX10_undo_55 ?_
    obtain ⟨rfl, rfl⟩ := so_e h
    exact rt_i hx hb hr hlk hd hS dX10_undo_58
  · have h := if_n q1 h
    refine lv_aload_n hx hb dX10_undo_28 rfl (lv_at hl 0 rfl) ?_
    obtain ⟨b2, hb2, h⟩ := bR_e h
    refine r_getr hx hb hts (fun w h => List.mem_cons_of_mem _ (List.mem_append_right _ (h))) hown hK hd hk_a0 hb2 rfl fs_10_8 (hts (.fieldLink RX10 22 "LevelVotesModel" "now" "[I") (List.mem_of_getElem? (i := 3) rfl)) dX10_undo_29 (fun hq => ?_)
    have hk_b2 : kd b2 = 11 := hq
    refine lv_iload_n hx hb dX10_undo_32 rfl (lv_at hl 1 rfl) ?_
    refine lv_aload_n hx hb dX10_undo_33 rfl (lv_at hl 0 rfl) ?_
    obtain ⟨b3, hb3, h⟩ := bR_e h
    refine r_getr hx hb hts (fun w h => List.mem_cons_of_mem _ (List.mem_append_right _ (h))) hown hK hd hk_a0 hb3 rfl fs_10_28 (hts (.fieldLink RX10 56 "LevelVotesModel" "past" "[I") (List.mem_of_getElem? (i := 4) rfl)) dX10_undo_34 (fun hq => ?_)
    have hk_b3 : kd b3 = 11 := hq
    refine lv_bipush (v := 37) hx hb dX10_undo_37 (by decide) ?_
    refine lv_aload_n hx hb dX10_undo_39 rfl (lv_at hl 0 rfl) ?_
    refine r_geti hx hb hts (fun w h => List.mem_cons_of_mem _ (List.mem_append_right _ (h))) hown hK hd hk_a0 rfl 27 fs_10_27 (hts (.fieldLink RX10 172 "LevelVotesModel" "undos" "I") (List.mem_of_getElem? (i := 1) rfl)) dX10_undo_40 ?_
    refine lv_imul hx hb dX10_undo_43 ?_
    refine lv_iload_n hx hb dX10_undo_44 rfl (lv_at hl 1 rfl) ?_
    refine lv_iadd hx hb dX10_undo_45 ?_
    obtain ⟨g4, h⟩ := gd_e h
    refine r_iald hx hb hK hd hk_b3 (ckb_in g4) dX10_undo_46 ?_
    obtain ⟨g5, h⟩ := gd_e h
    refine r_iast hx hb hK hd hS hk_b2 (ckb_in g5) dX10_undo_47 (fun μ6 eμ6 H locs hd hS => ?_)
    have h := bM_e eμ6 h
    refine lv_iinc (v := x1 + (1 : Int32)) (lv' := [(1, .int (x1 + (1 : Int32))), (0, .ref (z + a0))]) hx hb dX10_undo_48 hl (k := 1) rfl rfl (by decide) rfl (fun ls hl => ?_)
    refine lv_goto (tgt := 22) hx hb dX10_undo_51 (by decide) ?_
    exact hrc22 _ _ _ _ _ _ hk_a0 hd hS (lv_sub hl [1, 0] rfl) h
def f_X10_undo_L22 : Nat → Mm → Nat → Int32 → Option (Int32 × Mm)
  | 0 => fun _ _ _ => none
  | n + 1 => fun μ a0 x1 => f_X10_undo_L22b (f_X10_undo_L22 n) μ a0 x1
theorem k_f_X10_undo_L22 {l : Launch} {D : va_G} {cA : Nat → ClassId} {z : Nat} {av : List Value} {p : Program} {e : Env} {s : State} {m : MethodId} {below : List Frame} {meth : Method} {c : Code} {r : Int32} {μ' : Mm} (X : Fx D cA RX10 wsX10_undo cX10_undo 2 (some .int) p s m av.toArray meth c) (n : Nat) : HL_X10_undo_22 l D cA z av r μ' p e s m below meth c (f_X10_undo_L22 n) := by
  induction n with
  | zero => intro _ _ _ _ _ _ _ _ _ _ h; have h2 : (none : Option _) = some _ := h; cases h2
  | succ n ih => intro μ H locs ls a0 x1 hk_a0 hd hS hl h; exact k_f_X10_undo_L22b X ih hk_a0 hd hS hl h
def f_X10_undo (μ : Mm) (a0 : Nat) : Option (Int32 × Mm) := if (μ.1 a0 27) = 0 then (some ((-1000000003 : Int32), μ)) else (bM (up2 μ.1 a0 27 ((μ.1 a0 27) - (1 : Int32)), μ.2) (fun μ2 => f_X10_undo_L22 FU μ2 a0 (0 : Int32)))
set_option maxRecDepth 100000 in
theorem c_X10_undo {l : Launch} {D : va_G} {cA : Nat → ClassId} {z : Nat} {μ : Mm} {a0 : Nat} {r : Int32} {μ' : Mm} (hk_a0 : kd a0 = 10) (h : f_X10_undo μ a0 = some (r, μ')) : Ct l D cA z yX10_undo wsX10_undo 0 0 [.ref (z + a0)] μ (some (.int r)) μ' := by
  refine m_in (cc := cX10_undo) (maxL := 2) (ret := (some .int)) (own := RX10) (by decide) rfl rfl (Nat.le_of_ble_eq_true rfl) ?_
  intro p e s m below meth c ls X hd hS hl
  obtain ⟨hx, hb, hr, hlk, hml, hown, hts, hK⟩ := id X
  have hl : lv_has ls 2 [(0, .ref (z + a0))] := hl
  unfold f_X10_undo at h
  refine lv_aload_n hx hb dX10_undo_0 rfl (lv_at hl 0 rfl) ?_
  refine r_geti hx hb hts (fun w h => List.mem_cons_of_mem _ (List.mem_append_right _ (h))) hown hK hd hk_a0 rfl 27 fs_10_27 (hts (.fieldLink RX10 172 "LevelVotesModel" "undos" "I") (List.mem_of_getElem? (i := 1) rfl)) dX10_undo_1 ?_
  refine lv_if_ne (tgt := 10) hx hb dX10_undo_4 (by decide) (fun q1 => ?_) (fun q1 => ?_)
  · have h := if_n q1 h
    refine lv_aload_n hx hb dX10_undo_10 rfl (lv_at hl 0 rfl) ?_
    refine lv_dup hx hb dX10_undo_11 rfl ?_
    refine r_geti hx hb hts (fun w h => List.mem_cons_of_mem _ (List.mem_append_right _ (h))) hown hK hd hk_a0 rfl 27 fs_10_27 (hts (.fieldLink RX10 172 "LevelVotesModel" "undos" "I") (List.mem_of_getElem? (i := 1) rfl)) dX10_undo_12 ?_
    refine lv_iconst (v := 1) hx hb dX10_undo_15 (by decide) ?_
    refine lv_isub hx hb dX10_undo_16 ?_
    refine r_puti hx hb hts (fun w h => List.mem_cons_of_mem _ (List.mem_append_right _ (h))) tyX10 tyX10_ok nmX10 hown hK hd hS hk_a0 rfl 27 fs_10_27 rfl (hts (.fieldLink RX10 172 "LevelVotesModel" "undos" "I") (List.mem_of_getElem? (i := 1) rfl)) (vp_nar_int _) rfl dX10_undo_17 (fun μ2 eμ2 H locs hd hS => ?_)
    have h := bM_e eμ2 h
    refine lv_iconst (v := 0) hx hb dX10_undo_20 (by decide) ?_
    refine lv_istore_n (lv' := [(1, .int (0 : Int32)), (0, .ref (z + a0))]) hx hb dX10_undo_21 rfl hl (by decide) rfl (fun ls hl => ?_)
    exact k_f_X10_undo_L22 X FU _ _ _ _ _ _ hk_a0 hd hS (lv_sub hl [1, 0] rfl) h
  · have h := if_y q1 h
    refine lv_ldc (v := -1000000003) hx hb hown (hts (.constant RX10 247 (-1000000003)) (List.mem_of_getElem? (i := 2) rfl)) dX10_undo_7 ?_
    obtain ⟨rfl, rfl⟩ := so_e h
    exact rt_i hx hb hr hlk hd hS dX10_undo_9
theorem hv_X10_rests : yX10_rests.cls = RX10 ∧ yX10_rests.cls ≠ "java/lang/invoke/MethodHandle" ∧ yX10_rests.cls ≠ "java/lang/invoke/VarHandle" ∧ (parseMethodDescriptor yX10_rests.desc).map (fun d => d.parameters.length) = some 2 := by decide +kernel
abbrev HL_X10_rests_40 (l : Launch) (D : va_G) (cA : Nat → ClassId) (z : Nat) (av : List Value) (r : Int32) (μ' : Mm) (p : Program) (e : Env) (s : State) (m : MethodId) (below : List Frame) (meth : Method) (c : Code) (rc : Mm → Nat → Int32 → Int32 → Int32 → Int32 → Option (Int32 × Mm)) : Prop := ∀ (μ : Mm) (H : Heap) (locs : List Loc) (ls : Array Slot) (a0 : Nat) (x2 : Int32) (x3 : Int32) (x4 : Int32) (x5 : Int32), kd a0 = 10 → Wd D cA z μ H → va_S (Az z) s.heap H locs → lv_has ls 6 [(0, .ref (z + a0)), (2, .int x2), (3, .int x3), (4, .int x4), (5, .int x5)] → rc μ a0 x2 x3 x4 x5 = some (r, μ') → WG l D cA z wsX10_rests 6 138 av (some (.int r)) μ' p e s m below meth c H locs (F0 m 40 ls [])
def f_X10_rests_L40b (rc40 : Mm → Nat → Int32 → Int32 → Int32 → Int32 → Option (Int32 × Mm)) (μ : Mm) (a0 : Nat) (x2 : Int32) (x3 : Int32) (x4 : Int32) (x5 : Int32) : Option (Int32 × Mm) := if x5 = x3 then (if x2 = 0 then (some (x3, μ)) else (some (x4, μ))) else (bC (f_X10_rollsTo μ a0 x5) (fun r4 μ3 => rc40 μ3 a0 x2 x5 (x4 + (1 : Int32)) r4))
set_option maxRecDepth 100000 in
theorem k_f_X10_rests_L40b {l : Launch} {D : va_G} {cA : Nat → ClassId} {z : Nat} {av : List Value} {p : Program} {e : Env} {s : State} {m : MethodId} {below : List Frame} {meth : Method} {c : Code} {r : Int32} {μ' : Mm} (X : Fx D cA RX10 wsX10_rests cX10_rests 6 (some .int) p s m av.toArray meth c) {rc40 : Mm → Nat → Int32 → Int32 → Int32 → Int32 → Option (Int32 × Mm)} (hrc40 : HL_X10_rests_40 l D cA z av r μ' p e s m below meth c rc40) {μ : Mm} {a0 : Nat} {x2 : Int32} {x3 : Int32} {x4 : Int32} {x5 : Int32} (hk_a0 : kd a0 = 10) {H : Heap} {locs : List Loc} {ls : Array Slot} (hd : Wd D cA z μ H) (hS : va_S (Az z) s.heap H locs) (hl : lv_has ls 6 [(0, .ref (z + a0)), (2, .int x2), (3, .int x3), (4, .int x4), (5, .int x5)]) (h : f_X10_rests_L40b rc40 μ a0 x2 x3 x4 x5 = some (r, μ')) : WG l D cA z wsX10_rests 6 138 av (some (.int r)) μ' p e s m below meth c H locs (F0 m 40 ls []) := by
  obtain ⟨hx, hb, hr, hlk, hml, hown, hts, hK⟩ := id X
  unfold f_X10_rests_L40b at h
  refine lv_iload hx hb dX10_rests_40 (lv_at hl 4 rfl) ?_
  refine lv_iload_n hx hb dX10_rests_42 rfl (lv_at hl 2 rfl) ?_
  refine lv_icmp_eq (tgt := 62) hx hb dX10_rests_43 (by decide) (fun q1 => ?_) (fun q1 => ?_)
  · have h := if_y q1 h
    refine lv_iload_n hx hb dX10_rests_62 rfl (lv_at hl 1 rfl) ?_
    refine lv_if_ne (tgt := 70) hx hb dX10_rests_63 (by decide) (fun q2 => ?_) (fun q2 => ?_)
    · have h := if_n q2 h
      refine lv_iload hx hb dX10_rests_70 (lv_at hl 3 rfl) ?_
      obtain ⟨rfl, rfl⟩ := so_e h
      exact rt_i hx hb hr hlk hd hS dX10_rests_72
    · have h := if_y q2 h
      refine lv_iload_n hx hb dX10_rests_66 rfl (lv_at hl 2 rfl) ?_
      refine lv_goto (tgt := 72) hx hb dX10_rests_67 (by decide) ?_
      obtain ⟨rfl, rfl⟩ := so_e h
      exact rt_i hx hb hr hlk hd hS dX10_rests_72
  · have h := if_n q1 h
    refine lv_iload hx hb dX10_rests_46 (lv_at hl 4 rfl) ?_
    refine lv_istore_n (lv' := [(3, .int x5), (0, .ref (z + a0)), (2, .int x2), (4, .int x4), (5, .int x5)]) hx hb dX10_rests_48 rfl hl (by decide) rfl (fun ls hl => ?_)
    refine lv_aload_n hx hb dX10_rests_49 rfl (lv_at hl 1 rfl) ?_
    refine lv_iload_n hx hb dX10_rests_50 rfl (lv_at hl 0 rfl) ?_
    obtain ⟨r4, μ3, hc5, h⟩ := bC_e h
    refine rc_Vi (rest := []) [.int x5] ⟨hx, hb, hml, hown, hts⟩ hK hd hS (c_X10_rollsTo hk_a0 hc5) (cwV 1 hts gX10_rests_X10_rollsTo rfl rfl rfl hv_X10_rollsTo ⟨Nat.le_of_ble_eq_true rfl, Nat.le_of_ble_eq_true rfl⟩) hk_a0 rfl rfl rfl rfl hl.1 rfl (Nat.le_of_ble_eq_true rfl) dX10_rests_51 ⟨Nat.zero_le _, Nat.zero_le _⟩ (fun H locs hd hS => ?_)
    refine lv_istore (lv' := [(5, .int r4), (3, .int x5), (0, .ref (z + a0)), (2, .int x2), (4, .int x4)]) hx hb dX10_rests_54 hl (by decide) rfl (fun ls hl => ?_)
    refine lv_iinc (v := x4 + (1 : Int32)) (lv' := [(4, .int (x4 + (1 : Int32))), (5, .int r4), (3, .int x5), (0, .ref (z + a0)), (2, .int x2)]) hx hb dX10_rests_56 hl (k := 4) rfl rfl (by decide) rfl (fun ls hl => ?_)
    refine lv_goto (tgt := 40) hx hb dX10_rests_59 (by decide) ?_
    exact hrc40 _ _ _ _ _ _ _ _ _ hk_a0 hd hS (lv_sub hl [3, 4, 2, 0, 1] rfl) h
def f_X10_rests_L40 : Nat → Mm → Nat → Int32 → Int32 → Int32 → Int32 → Option (Int32 × Mm)
  | 0 => fun _ _ _ _ _ _ => none
  | n + 1 => fun μ a0 x2 x3 x4 x5 => f_X10_rests_L40b (f_X10_rests_L40 n) μ a0 x2 x3 x4 x5
theorem k_f_X10_rests_L40 {l : Launch} {D : va_G} {cA : Nat → ClassId} {z : Nat} {av : List Value} {p : Program} {e : Env} {s : State} {m : MethodId} {below : List Frame} {meth : Method} {c : Code} {r : Int32} {μ' : Mm} (X : Fx D cA RX10 wsX10_rests cX10_rests 6 (some .int) p s m av.toArray meth c) (n : Nat) : HL_X10_rests_40 l D cA z av r μ' p e s m below meth c (f_X10_rests_L40 n) := by
  induction n with
  | zero => intro _ _ _ _ _ _ _ _ _ _ _ _ _ h; have h2 : (none : Option _) = some _ := h; cases h2
  | succ n ih => intro μ H locs ls a0 x2 x3 x4 x5 hk_a0 hd hS hl h; exact k_f_X10_rests_L40b X ih hk_a0 hd hS hl h
def f_X10_rests (μ : Mm) (a0 : Nat) (x1 : Int32) (x2 : Int32) : Option (Int32 × Mm) := bC (f_X10_isCell μ a0 x1) (fun r2 μ1 => if r2 = 0 then (some ((-1000000001 : Int32), μ1)) else (bC (f_X10_in μ1 (x2.toInt64) (0 : Int64) (1 : Int64)) (fun r6 μ5 => if r6 = 0 then (some ((-1000000002 : Int32), μ5)) else (bV (f_X10_lookNow μ5 a0) (fun μ9 => bC (f_X10_rollsTo μ9 a0 x1) (fun r13 μ12 => f_X10_rests_L40 FU μ12 a0 x2 x1 (0 : Int32) r13))))))
set_option maxRecDepth 100000 in
theorem c_X10_rests {l : Launch} {D : va_G} {cA : Nat → ClassId} {z : Nat} {μ : Mm} {a0 : Nat} {x1 : Int32} {x2 : Int32} {r : Int32} {μ' : Mm} (hk_a0 : kd a0 = 10) (h : f_X10_rests μ a0 x1 x2 = some (r, μ')) : Ct l D cA z yX10_rests wsX10_rests 6 138 [.ref (z + a0), .int x1, .int x2] μ (some (.int r)) μ' := by
  refine m_in (cc := cX10_rests) (maxL := 6) (ret := (some .int)) (own := RX10) (by decide) rfl rfl (Nat.le_of_ble_eq_true rfl) ?_
  intro p e s m below meth c ls X hd hS hl
  obtain ⟨hx, hb, hr, hlk, hml, hown, hts, hK⟩ := id X
  have hl : lv_has ls 6 [(0, .ref (z + a0)), (1, .int x1), (2, .int x2)] := hl
  unfold f_X10_rests at h
  refine lv_aload_n hx hb dX10_rests_0 rfl (lv_at hl 0 rfl) ?_
  refine lv_iload_n hx hb dX10_rests_1 rfl (lv_at hl 1 rfl) ?_
  obtain ⟨r2, μ1, hc3, h⟩ := bC_e h
  refine rc_Vi (rest := []) [.int x1] ⟨hx, hb, hml, hown, hts⟩ hK hd hS (c_X10_isCell hk_a0 hc3) (cwV 1 hts gX10_rests_X10_isCell rfl rfl rfl hv_X10_isCell ⟨Nat.le_of_ble_eq_true rfl, Nat.le_of_ble_eq_true rfl⟩) hk_a0 rfl rfl rfl rfl hl.1 rfl (Nat.le_of_ble_eq_true rfl) dX10_rests_2 ⟨Nat.zero_le _, Nat.zero_le _⟩ (fun H locs hd hS => ?_)
  refine lv_if_ne (tgt := 11) hx hb dX10_rests_5 (by decide) (fun q4 => ?_) (fun q4 => ?_)
  · have h := if_n q4 h
    refine lv_iload_n hx hb dX10_rests_11 rfl (lv_at hl 2 rfl) ?_
    refine lv_i2l hx hb dX10_rests_12 rfl ?_
    refine lv_lconst (v := 0) hx hb dX10_rests_13 (by decide) ?_
    refine lv_lconst (v := 1) hx hb dX10_rests_14 (by decide) ?_
    obtain ⟨r6, μ5, hc7, h⟩ := bC_e h
    refine rc_Si (rest := []) [.long (x2.toInt64), .long (0 : Int64), .long (1 : Int64)] ⟨hx, hb, hml, hown, hts⟩ hK hd hS (c_X10_in  hc7) (va_cwS 3 hts gX10_rests_X10_in rfl rfl rfl hn_X10_in ⟨Nat.le_of_ble_eq_true rfl, Nat.le_of_ble_eq_true rfl⟩) rfl hl.1 rfl (Nat.le_of_ble_eq_true rfl) dX10_rests_15 ⟨Nat.zero_le _, Nat.zero_le _⟩ (fun H locs hd hS => ?_)
    refine lv_if_ne (tgt := 24) hx hb dX10_rests_18 (by decide) (fun q8 => ?_) (fun q8 => ?_)
    · have h := if_n q8 h
      refine lv_aload_n hx hb dX10_rests_24 rfl (lv_at hl 0 rfl) ?_
      obtain ⟨μ9, hc11, h⟩ := bV_e h
      refine rc_Vv (rest := []) [] ⟨hx, hb, hml, hown, hts⟩ hK hd hS (c_X10_lookNow hk_a0 hc11) (cwV 0 hts gX10_rests_X10_lookNow rfl rfl rfl hv_X10_lookNow ⟨Nat.le_of_ble_eq_true rfl, Nat.le_of_ble_eq_true rfl⟩) hk_a0 rfl rfl rfl rfl hl.1 rfl (Nat.le_of_ble_eq_true rfl) dX10_rests_25 ⟨Nat.zero_le _, Nat.zero_le _⟩ (fun H locs hd hS => ?_)
      refine lv_iload_n hx hb dX10_rests_28 rfl (lv_at hl 1 rfl) ?_
      refine lv_istore_n (lv' := [(3, .int x1), (0, .ref (z + a0)), (1, .int x1), (2, .int x2)]) hx hb dX10_rests_29 rfl hl (by decide) rfl (fun ls hl => ?_)
      refine lv_iconst (v := 0) hx hb dX10_rests_30 (by decide) ?_
      refine lv_istore (lv' := [(4, .int (0 : Int32)), (3, .int x1), (0, .ref (z + a0)), (1, .int x1), (2, .int x2)]) hx hb dX10_rests_31 hl (by decide) rfl (fun ls hl => ?_)
      refine lv_aload_n hx hb dX10_rests_33 rfl (lv_at hl 2 rfl) ?_
      refine lv_iload_n hx hb dX10_rests_34 rfl (lv_at hl 3 rfl) ?_
      obtain ⟨r13, μ12, hc14, h⟩ := bC_e h
      refine rc_Vi (rest := []) [.int x1] ⟨hx, hb, hml, hown, hts⟩ hK hd hS (c_X10_rollsTo hk_a0 hc14) (cwV 1 hts gX10_rests_X10_rollsTo rfl rfl rfl hv_X10_rollsTo ⟨Nat.le_of_ble_eq_true rfl, Nat.le_of_ble_eq_true rfl⟩) hk_a0 rfl rfl rfl rfl hl.1 rfl (Nat.le_of_ble_eq_true rfl) dX10_rests_35 ⟨Nat.zero_le _, Nat.zero_le _⟩ (fun H locs hd hS => ?_)
      refine lv_istore (lv' := [(5, .int r13), (4, .int (0 : Int32)), (3, .int x1), (0, .ref (z + a0)), (1, .int x1), (2, .int x2)]) hx hb dX10_rests_38 hl (by decide) rfl (fun ls hl => ?_)
      exact k_f_X10_rests_L40 X FU _ _ _ _ _ _ _ _ _ hk_a0 hd hS (lv_sub hl [3, 5, 2, 1, 0] rfl) h
    · have h := if_y q8 h
      refine lv_ldc (v := -1000000002) hx hb hown (hts (.constant RX10 106 (-1000000002)) (List.mem_of_getElem? (i := 2) rfl)) dX10_rests_21 ?_
      obtain ⟨rfl, rfl⟩ := so_e h
      exact rt_i hx hb hr hlk hd hS dX10_rests_23
  · have h := if_y q4 h
    refine lv_ldc (v := -1000000001) hx hb hown (hts (.constant RX10 226 (-1000000001)) (List.mem_of_getElem? (i := 1) rfl)) dX10_rests_8 ?_
    obtain ⟨rfl, rfl⟩ := so_e h
    exact rt_i hx hb hr hlk hd hS dX10_rests_10
theorem hv_X10_pool : yX10_pool.cls = RX10 ∧ yX10_pool.cls ≠ "java/lang/invoke/MethodHandle" ∧ yX10_pool.cls ≠ "java/lang/invoke/VarHandle" ∧ (parseMethodDescriptor yX10_pool.desc).map (fun d => d.parameters.length) = some 1 := by decide +kernel
abbrev HL_X10_pool_19 (l : Launch) (D : va_G) (cA : Nat → ClassId) (z : Nat) (av : List Value) (r : Int32) (μ' : Mm) (p : Program) (e : Env) (s : State) (m : MethodId) (below : List Frame) (meth : Method) (c : Code) (rc : Mm → Nat → Int32 → Int32 → Int32 → Option (Int32 × Mm)) : Prop := ∀ (μ : Mm) (H : Heap) (locs : List Loc) (ls : Array Slot) (a0 : Nat) (x1 : Int32) (x2 : Int32) (x3 : Int32), kd a0 = 10 → Wd D cA z μ H → va_S (Az z) s.heap H locs → lv_has ls 4 [(0, .ref (z + a0)), (1, .int x1), (2, .int x2), (3, .int x3)] → rc μ a0 x1 x2 x3 = some (r, μ') → WG l D cA z wsX10_pool 6 138 av (some (.int r)) μ' p e s m below meth c H locs (F0 m 19 ls [])
def f_X10_pool_j42 (rc19 : Mm → Nat → Int32 → Int32 → Int32 → Option (Int32 × Mm)) (μ : Mm) (a0 : Nat) (x1 : Int32) (x3 : Int32) (ys0 : Int32) (ys1 : Int32) : Option (Int32 × Mm) := bI (ys1 + ys0) (fun v1 => rc19 μ a0 x1 v1 (x3 + (1 : Int32)))
set_option maxRecDepth 100000 in
theorem k_f_X10_pool_j42 {l : Launch} {D : va_G} {cA : Nat → ClassId} {z : Nat} {av : List Value} {p : Program} {e : Env} {s : State} {m : MethodId} {below : List Frame} {meth : Method} {c : Code} {r : Int32} {μ' : Mm} (X : Fx D cA RX10 wsX10_pool cX10_pool 4 (some .int) p s m av.toArray meth c) {rc19 : Mm → Nat → Int32 → Int32 → Int32 → Option (Int32 × Mm)} (hrc19 : HL_X10_pool_19 l D cA z av r μ' p e s m below meth c rc19) {μ : Mm} {a0 : Nat} {x1 : Int32} {x3 : Int32} {ys0 : Int32} {ys1 : Int32} (hk_a0 : kd a0 = 10) {H : Heap} {locs : List Loc} {ls : Array Slot} (hd : Wd D cA z μ H) (hS : va_S (Az z) s.heap H locs) (hl : lv_has ls 4 [(0, .ref (z + a0)), (1, .int x1), (3, .int x3)]) (h : f_X10_pool_j42 rc19 μ a0 x1 x3 ys0 ys1 = some (r, μ')) : WG l D cA z wsX10_pool 6 138 av (some (.int r)) μ' p e s m below meth c H locs (F0 m 42 ls [.int ys0, .int ys1]) := by
  obtain ⟨hx, hb, hr, hlk, hml, hown, hts, hK⟩ := id X
  unfold f_X10_pool_j42 at h
  refine lv_iadd hx hb dX10_pool_42 ?_
  refine lv_topi (fun v1 ev1 => ?_)
  have h := bI_e ev1 h
  refine lv_istore_n (lv' := [(2, .int v1), (0, .ref (z + a0)), (1, .int x1), (3, .int x3)]) hx hb dX10_pool_43 rfl hl (by decide) rfl (fun ls hl => ?_)
  refine lv_iinc (v := x3 + (1 : Int32)) (lv' := [(3, .int (x3 + (1 : Int32))), (2, .int v1), (0, .ref (z + a0)), (1, .int x1)]) hx hb dX10_pool_44 hl (k := 3) rfl rfl (by decide) rfl (fun ls hl => ?_)
  refine lv_goto (tgt := 19) hx hb dX10_pool_47 (by decide) ?_
  exact hrc19 _ _ _ _ _ _ _ _ hk_a0 hd hS (lv_sub hl [2, 3, 1, 0] rfl) h
def f_X10_pool_L19b (rc19 : Mm → Nat → Int32 → Int32 → Int32 → Option (Int32 × Mm)) (μ : Mm) (a0 : Nat) (x1 : Int32) (x2 : Int32) (x3 : Int32) : Option (Int32 × Mm) := bC (f_X10_cells μ a0) (fun r2 μ1 => if r2 ≤ x3 then (some (x2, μ1)) else (bC (f_X10_restOf μ1 a0 x3) (fun r6 μ5 => if r6 = x1 then (f_X10_pool_j42 rc19 μ5 a0 x1 x3 (1 : Int32) x2) else (f_X10_pool_j42 rc19 μ5 a0 x1 x3 (0 : Int32) x2))))
set_option maxRecDepth 100000 in
theorem k_f_X10_pool_L19b {l : Launch} {D : va_G} {cA : Nat → ClassId} {z : Nat} {av : List Value} {p : Program} {e : Env} {s : State} {m : MethodId} {below : List Frame} {meth : Method} {c : Code} {r : Int32} {μ' : Mm} (X : Fx D cA RX10 wsX10_pool cX10_pool 4 (some .int) p s m av.toArray meth c) {rc19 : Mm → Nat → Int32 → Int32 → Int32 → Option (Int32 × Mm)} (hrc19 : HL_X10_pool_19 l D cA z av r μ' p e s m below meth c rc19) {μ : Mm} {a0 : Nat} {x1 : Int32} {x2 : Int32} {x3 : Int32} (hk_a0 : kd a0 = 10) {H : Heap} {locs : List Loc} {ls : Array Slot} (hd : Wd D cA z μ H) (hS : va_S (Az z) s.heap H locs) (hl : lv_has ls 4 [(0, .ref (z + a0)), (1, .int x1), (2, .int x2), (3, .int x3)]) (h : f_X10_pool_L19b rc19 μ a0 x1 x2 x3 = some (r, μ')) : WG l D cA z wsX10_pool 6 138 av (some (.int r)) μ' p e s m below meth c H locs (F0 m 19 ls []) := by
  obtain ⟨hx, hb, hr, hlk, hml, hown, hts, hK⟩ := id X
  unfold f_X10_pool_L19b at h
  refine lv_iload_n hx hb dX10_pool_19 rfl (lv_at hl 3 rfl) ?_
  refine lv_aload_n hx hb dX10_pool_20 rfl (lv_at hl 0 rfl) ?_
  obtain ⟨r2, μ1, hc3, h⟩ := bC_e h
  refine rc_Vi (rest := [.int x3]) [] ⟨hx, hb, hml, hown, hts⟩ hK hd hS (c_X10_cells hk_a0 hc3) (cwV 0 hts gX10_pool_X10_cells rfl rfl rfl hv_X10_cells ⟨Nat.le_of_ble_eq_true rfl, Nat.le_of_ble_eq_true rfl⟩) hk_a0 rfl rfl rfl rfl hl.1 rfl (Nat.le_of_ble_eq_true rfl) dX10_pool_21 ⟨Nat.zero_le _, Nat.zero_le _⟩ (fun H locs hd hS => ?_)
  refine lv_icmp_ge (tgt := 50) hx hb dX10_pool_24 (by decide) (fun q4 => ?_) (fun q4 => ?_)
  · have h := if_y q4 h
    refine lv_iload_n hx hb dX10_pool_50 rfl (lv_at hl 2 rfl) ?_
    obtain ⟨rfl, rfl⟩ := so_e h
    exact rt_i hx hb hr hlk hd hS dX10_pool_51
  · have h := if_n q4 h
    refine lv_iload_n hx hb dX10_pool_27 rfl (lv_at hl 2 rfl) ?_
    refine lv_aload_n hx hb dX10_pool_28 rfl (lv_at hl 0 rfl) ?_
    refine lv_iload_n hx hb dX10_pool_29 rfl (lv_at hl 3 rfl) ?_
    obtain ⟨r6, μ5, hc7, h⟩ := bC_e h
    refine rc_Vi (rest := [.int x2]) [.int x3] ⟨hx, hb, hml, hown, hts⟩ hK hd hS (c_X10_restOf hk_a0 hc7) (cwV 1 hts gX10_pool_X10_restOf rfl rfl rfl hv_X10_restOf ⟨Nat.le_of_ble_eq_true rfl, Nat.le_of_ble_eq_true rfl⟩) hk_a0 rfl rfl rfl rfl hl.1 rfl (Nat.le_of_ble_eq_true rfl) dX10_pool_30 ⟨Nat.zero_le _, Nat.zero_le _⟩ (fun H locs hd hS => ?_)
    refine lv_iload_n hx hb dX10_pool_33 rfl (lv_at hl 1 rfl) ?_
    refine lv_icmp_ne (tgt := 41) hx hb dX10_pool_34 (by decide) (fun q8 => ?_) (fun q8 => ?_)
    · have h := if_n q8 h
      refine lv_iconst (v := 0) hx hb dX10_pool_41 (by decide) ?_
      exact k_f_X10_pool_j42 X hrc19 hk_a0 hd hS (lv_sub hl [0, 1, 3] rfl) h
    · have h := if_y q8 h
      refine lv_iconst (v := 1) hx hb dX10_pool_37 (by decide) ?_
      refine lv_goto (tgt := 42) hx hb dX10_pool_38 (by decide) ?_
      exact k_f_X10_pool_j42 X hrc19 hk_a0 hd hS (lv_sub hl [0, 1, 3] rfl) h
def f_X10_pool_L19 : Nat → Mm → Nat → Int32 → Int32 → Int32 → Option (Int32 × Mm)
  | 0 => fun _ _ _ _ _ => none
  | n + 1 => fun μ a0 x1 x2 x3 => f_X10_pool_L19b (f_X10_pool_L19 n) μ a0 x1 x2 x3
theorem k_f_X10_pool_L19 {l : Launch} {D : va_G} {cA : Nat → ClassId} {z : Nat} {av : List Value} {p : Program} {e : Env} {s : State} {m : MethodId} {below : List Frame} {meth : Method} {c : Code} {r : Int32} {μ' : Mm} (X : Fx D cA RX10 wsX10_pool cX10_pool 4 (some .int) p s m av.toArray meth c) (n : Nat) : HL_X10_pool_19 l D cA z av r μ' p e s m below meth c (f_X10_pool_L19 n) := by
  induction n with
  | zero => intro _ _ _ _ _ _ _ _ _ _ _ _ h; have h2 : (none : Option _) = some _ := h; cases h2
  | succ n ih => intro μ H locs ls a0 x1 x2 x3 hk_a0 hd hS hl h; exact k_f_X10_pool_L19b X ih hk_a0 hd hS hl h
def f_X10_pool (μ : Mm) (a0 : Nat) (x1 : Int32) : Option (Int32 × Mm) := bC (f_X10_isCell μ a0 x1) (fun r2 μ1 => if r2 = 0 then (some ((-1000000001 : Int32), μ1)) else (bV (f_X10_lookNow μ1 a0) (fun μ5 => f_X10_pool_L19 FU μ5 a0 x1 (0 : Int32) (0 : Int32))))
set_option maxRecDepth 100000 in
theorem c_X10_pool {l : Launch} {D : va_G} {cA : Nat → ClassId} {z : Nat} {μ : Mm} {a0 : Nat} {x1 : Int32} {r : Int32} {μ' : Mm} (hk_a0 : kd a0 = 10) (h : f_X10_pool μ a0 x1 = some (r, μ')) : Ct l D cA z yX10_pool wsX10_pool 6 138 [.ref (z + a0), .int x1] μ (some (.int r)) μ' := by
  refine m_in (cc := cX10_pool) (maxL := 4) (ret := (some .int)) (own := RX10) (by decide) rfl rfl (Nat.le_of_ble_eq_true rfl) ?_
  intro p e s m below meth c ls X hd hS hl
  obtain ⟨hx, hb, hr, hlk, hml, hown, hts, hK⟩ := id X
  have hl : lv_has ls 4 [(0, .ref (z + a0)), (1, .int x1)] := hl
  unfold f_X10_pool at h
  refine lv_aload_n hx hb dX10_pool_0 rfl (lv_at hl 0 rfl) ?_
  refine lv_iload_n hx hb dX10_pool_1 rfl (lv_at hl 1 rfl) ?_
  obtain ⟨r2, μ1, hc3, h⟩ := bC_e h
  refine rc_Vi (rest := []) [.int x1] ⟨hx, hb, hml, hown, hts⟩ hK hd hS (c_X10_isCell hk_a0 hc3) (cwV 1 hts gX10_pool_X10_isCell rfl rfl rfl hv_X10_isCell ⟨Nat.le_of_ble_eq_true rfl, Nat.le_of_ble_eq_true rfl⟩) hk_a0 rfl rfl rfl rfl hl.1 rfl (Nat.le_of_ble_eq_true rfl) dX10_pool_2 ⟨Nat.zero_le _, Nat.zero_le _⟩ (fun H locs hd hS => ?_)
  refine lv_if_ne (tgt := 11) hx hb dX10_pool_5 (by decide) (fun q4 => ?_) (fun q4 => ?_)
  · have h := if_n q4 h
    refine lv_aload_n hx hb dX10_pool_11 rfl (lv_at hl 0 rfl) ?_
    obtain ⟨μ5, hc7, h⟩ := bV_e h
    refine rc_Vv (rest := []) [] ⟨hx, hb, hml, hown, hts⟩ hK hd hS (c_X10_lookNow hk_a0 hc7) (cwV 0 hts gX10_pool_X10_lookNow rfl rfl rfl hv_X10_lookNow ⟨Nat.le_of_ble_eq_true rfl, Nat.le_of_ble_eq_true rfl⟩) hk_a0 rfl rfl rfl rfl hl.1 rfl (Nat.le_of_ble_eq_true rfl) dX10_pool_12 ⟨Nat.zero_le _, Nat.zero_le _⟩ (fun H locs hd hS => ?_)
    refine lv_iconst (v := 0) hx hb dX10_pool_15 (by decide) ?_
    refine lv_istore_n (lv' := [(2, .int (0 : Int32)), (0, .ref (z + a0)), (1, .int x1)]) hx hb dX10_pool_16 rfl hl (by decide) rfl (fun ls hl => ?_)
    refine lv_iconst (v := 0) hx hb dX10_pool_17 (by decide) ?_
    refine lv_istore_n (lv' := [(3, .int (0 : Int32)), (2, .int (0 : Int32)), (0, .ref (z + a0)), (1, .int x1)]) hx hb dX10_pool_18 rfl hl (by decide) rfl (fun ls hl => ?_)
    exact k_f_X10_pool_L19 X FU _ _ _ _ _ _ _ _ hk_a0 hd hS (lv_sub hl [2, 3, 1, 0] rfl) h
  · have h := if_y q4 h
    refine lv_ldc (v := -1000000001) hx hb hown (hts (.constant RX10 226 (-1000000001)) (List.mem_of_getElem? (i := 1) rfl)) dX10_pool_8 ?_
    obtain ⟨rfl, rfl⟩ := so_e h
    exact rt_i hx hb hr hlk hd hS dX10_pool_10
theorem hv_X10_tips : yX10_tips.cls = RX10 ∧ yX10_tips.cls ≠ "java/lang/invoke/MethodHandle" ∧ yX10_tips.cls ≠ "java/lang/invoke/VarHandle" ∧ (parseMethodDescriptor yX10_tips.desc).map (fun d => d.parameters.length) = some 1 := by decide +kernel
abbrev HL_X10_tips_36 (l : Launch) (D : va_G) (cA : Nat → ClassId) (z : Nat) (av : List Value) (r : Int32) (μ' : Mm) (p : Program) (e : Env) (s : State) (m : MethodId) (below : List Frame) (meth : Method) (c : Code) (rc : Mm → Nat → Int32 → Int32 → Int32 → Int32 → Option (Int32 × Mm)) : Prop := ∀ (μ : Mm) (H : Heap) (locs : List Loc) (ls : Array Slot) (a0 : Nat) (x1 : Int32) (x2 : Int32) (x3 : Int32) (x4 : Int32), kd a0 = 10 → Wd D cA z μ H → va_S (Az z) s.heap H locs → lv_has ls 9 [(0, .ref (z + a0)), (1, .int x1), (2, .int x2), (3, .int x3), (4, .int x4)] → rc μ a0 x1 x2 x3 x4 = some (r, μ') → WG l D cA z wsX10_tips 2 46 av (some (.int r)) μ' p e s m below meth c H locs (F0 m 36 ls [])
abbrev HL_X10_tips_88 (l : Launch) (D : va_G) (cA : Nat → ClassId) (z : Nat) (av : List Value) (r : Int32) (μ' : Mm) (p : Program) (e : Env) (s : State) (m : MethodId) (below : List Frame) (meth : Method) (c : Code) (rc : Mm → Nat → Int32 → Int32 → Int32 → Int32 → Int32 → Int32 → Int32 → Option (Int32 × Mm)) : Prop := ∀ (μ : Mm) (H : Heap) (locs : List Loc) (ls : Array Slot) (a0 : Nat) (x1 : Int32) (x2 : Int32) (x3 : Int32) (x4 : Int32) (x6 : Int32) (x7 : Int32) (x8 : Int32), kd a0 = 10 → Wd D cA z μ H → va_S (Az z) s.heap H locs → lv_has ls 9 [(0, .ref (z + a0)), (1, .int x1), (2, .int x2), (3, .int x3), (4, .int x4), (6, .int x6), (7, .int x7), (8, .int x8)] → rc μ a0 x1 x2 x3 x4 x6 x7 x8 = some (r, μ') → WG l D cA z wsX10_tips 2 46 av (some (.int r)) μ' p e s m below meth c H locs (F0 m 88 ls [])
def f_X10_tips_j141 (rc36 : Mm → Nat → Int32 → Int32 → Int32 → Int32 → Option (Int32 × Mm)) (μ : Mm) (a0 : Nat) (x1 : Int32) (x2 : Int32) (x4 : Int32) (ys0 : Int32) (ys1 : Int32) : Option (Int32 × Mm) := bI (ys1 ||| ys0) (fun v1 => rc36 μ a0 x1 x2 v1 (x4 + (1 : Int32)))
set_option maxRecDepth 100000 in
theorem k_f_X10_tips_j141 {l : Launch} {D : va_G} {cA : Nat → ClassId} {z : Nat} {av : List Value} {p : Program} {e : Env} {s : State} {m : MethodId} {below : List Frame} {meth : Method} {c : Code} {r : Int32} {μ' : Mm} (X : Fx D cA RX10 wsX10_tips cX10_tips 9 (some .int) p s m av.toArray meth c) {rc36 : Mm → Nat → Int32 → Int32 → Int32 → Int32 → Option (Int32 × Mm)} (hrc36 : HL_X10_tips_36 l D cA z av r μ' p e s m below meth c rc36) {μ : Mm} {a0 : Nat} {x1 : Int32} {x2 : Int32} {x4 : Int32} {ys0 : Int32} {ys1 : Int32} (hk_a0 : kd a0 = 10) {H : Heap} {locs : List Loc} {ls : Array Slot} (hd : Wd D cA z μ H) (hS : va_S (Az z) s.heap H locs) (hl : lv_has ls 9 [(0, .ref (z + a0)), (1, .int x1), (2, .int x2), (4, .int x4)]) (h : f_X10_tips_j141 rc36 μ a0 x1 x2 x4 ys0 ys1 = some (r, μ')) : WG l D cA z wsX10_tips 2 46 av (some (.int r)) μ' p e s m below meth c H locs (F0 m 141 ls [.int ys0, .int ys1]) := by
  obtain ⟨hx, hb, hr, hlk, hml, hown, hts, hK⟩ := id X
  unfold f_X10_tips_j141 at h
  refine lv_ior hx hb dX10_tips_141 ?_
  refine lv_topi (fun v1 ev1 => ?_)
  have h := bI_e ev1 h
  refine lv_istore_n (lv' := [(3, .int v1), (0, .ref (z + a0)), (1, .int x1), (2, .int x2), (4, .int x4)]) hx hb dX10_tips_142 rfl hl (by decide) rfl (fun ls hl => ?_)
  refine lv_iinc (v := x4 + (1 : Int32)) (lv' := [(4, .int (x4 + (1 : Int32))), (3, .int v1), (0, .ref (z + a0)), (1, .int x1), (2, .int x2)]) hx hb dX10_tips_143 hl (k := 4) rfl rfl (by decide) rfl (fun ls hl => ?_)
  refine lv_goto (tgt := 36) hx hb dX10_tips_146 (by decide) ?_
  exact hrc36 _ _ _ _ _ _ _ _ _ hk_a0 hd hS (lv_sub hl [2, 3, 4, 1, 0] rfl) h
def f_X10_tips_j119 (rc36 : Mm → Nat → Int32 → Int32 → Int32 → Int32 → Option (Int32 × Mm)) (rc88 : Mm → Nat → Int32 → Int32 → Int32 → Int32 → Int32 → Int32 → Int32 → Option (Int32 × Mm)) (μ : Mm) (a0 : Nat) (x1 : Int32) (x2 : Int32) (x3 : Int32) (x4 : Int32) (x6 : Int32) (x8 : Int32) (ys0 : Int32) : Option (Int32 × Mm) := rc88 μ a0 x1 x2 x3 x4 x6 ys0 (x8 + (1 : Int32))
set_option maxRecDepth 100000 in
theorem k_f_X10_tips_j119 {l : Launch} {D : va_G} {cA : Nat → ClassId} {z : Nat} {av : List Value} {p : Program} {e : Env} {s : State} {m : MethodId} {below : List Frame} {meth : Method} {c : Code} {r : Int32} {μ' : Mm} (X : Fx D cA RX10 wsX10_tips cX10_tips 9 (some .int) p s m av.toArray meth c) {rc36 : Mm → Nat → Int32 → Int32 → Int32 → Int32 → Option (Int32 × Mm)} {rc88 : Mm → Nat → Int32 → Int32 → Int32 → Int32 → Int32 → Int32 → Int32 → Option (Int32 × Mm)} (hrc36 : HL_X10_tips_36 l D cA z av r μ' p e s m below meth c rc36) (hrc88 : HL_X10_tips_88 l D cA z av r μ' p e s m below meth c rc88) {μ : Mm} {a0 : Nat} {x1 : Int32} {x2 : Int32} {x3 : Int32} {x4 : Int32} {x6 : Int32} {x8 : Int32} {ys0 : Int32} (hk_a0 : kd a0 = 10) {H : Heap} {locs : List Loc} {ls : Array Slot} (hd : Wd D cA z μ H) (hS : va_S (Az z) s.heap H locs) (hl : lv_has ls 9 [(0, .ref (z + a0)), (1, .int x1), (2, .int x2), (3, .int x3), (4, .int x4), (6, .int x6), (8, .int x8)]) (h : f_X10_tips_j119 rc36 rc88 μ a0 x1 x2 x3 x4 x6 x8 ys0 = some (r, μ')) : WG l D cA z wsX10_tips 2 46 av (some (.int r)) μ' p e s m below meth c H locs (F0 m 119 ls [.int ys0]) := by
  obtain ⟨hx, hb, hr, hlk, hml, hown, hts, hK⟩ := id X
  unfold f_X10_tips_j119 at h
  refine lv_istore (lv' := [(7, .int ys0), (0, .ref (z + a0)), (1, .int x1), (2, .int x2), (3, .int x3), (4, .int x4), (6, .int x6), (8, .int x8)]) hx hb dX10_tips_119 hl (by decide) rfl (fun ls hl => ?_)
  refine lv_iinc (v := x8 + (1 : Int32)) (lv' := [(8, .int (x8 + (1 : Int32))), (7, .int ys0), (0, .ref (z + a0)), (1, .int x1), (2, .int x2), (3, .int x3), (4, .int x4), (6, .int x6)]) hx hb dX10_tips_121 hl (k := 7) rfl rfl (by decide) rfl (fun ls hl => ?_)
  refine lv_goto (tgt := 88) hx hb dX10_tips_124 (by decide) ?_
  exact hrc88 _ _ _ _ _ _ _ _ _ _ _ _ hk_a0 hd hS (lv_sub hl [2, 3, 4, 5, 6, 7, 1, 0] rfl) h
def f_X10_tips_j114 (rc36 : Mm → Nat → Int32 → Int32 → Int32 → Int32 → Option (Int32 × Mm)) (rc88 : Mm → Nat → Int32 → Int32 → Int32 → Int32 → Int32 → Int32 → Int32 → Option (Int32 × Mm)) (μ : Mm) (a0 : Nat) (x1 : Int32) (x2 : Int32) (x3 : Int32) (x4 : Int32) (x6 : Int32) (x8 : Int32) : Option (Int32 × Mm) := f_X10_tips_j119 rc36 rc88 μ a0 x1 x2 x3 x4 x6 x8 (1 : Int32)
set_option maxRecDepth 100000 in
theorem k_f_X10_tips_j114 {l : Launch} {D : va_G} {cA : Nat → ClassId} {z : Nat} {av : List Value} {p : Program} {e : Env} {s : State} {m : MethodId} {below : List Frame} {meth : Method} {c : Code} {r : Int32} {μ' : Mm} (X : Fx D cA RX10 wsX10_tips cX10_tips 9 (some .int) p s m av.toArray meth c) {rc36 : Mm → Nat → Int32 → Int32 → Int32 → Int32 → Option (Int32 × Mm)} {rc88 : Mm → Nat → Int32 → Int32 → Int32 → Int32 → Int32 → Int32 → Int32 → Option (Int32 × Mm)} (hrc36 : HL_X10_tips_36 l D cA z av r μ' p e s m below meth c rc36) (hrc88 : HL_X10_tips_88 l D cA z av r μ' p e s m below meth c rc88) {μ : Mm} {a0 : Nat} {x1 : Int32} {x2 : Int32} {x3 : Int32} {x4 : Int32} {x6 : Int32} {x8 : Int32} (hk_a0 : kd a0 = 10) {H : Heap} {locs : List Loc} {ls : Array Slot} (hd : Wd D cA z μ H) (hS : va_S (Az z) s.heap H locs) (hl : lv_has ls 9 [(0, .ref (z + a0)), (1, .int x1), (2, .int x2), (3, .int x3), (4, .int x4), (6, .int x6), (8, .int x8)]) (h : f_X10_tips_j114 rc36 rc88 μ a0 x1 x2 x3 x4 x6 x8 = some (r, μ')) : WG l D cA z wsX10_tips 2 46 av (some (.int r)) μ' p e s m below meth c H locs (F0 m 114 ls []) := by
  obtain ⟨hx, hb, hr, hlk, hml, hown, hts, hK⟩ := id X
  unfold f_X10_tips_j114 at h
  refine lv_iconst (v := 1) hx hb dX10_tips_114 (by decide) ?_
  refine lv_goto (tgt := 119) hx hb dX10_tips_115 (by decide) ?_
  exact k_f_X10_tips_j119 X hrc36 hrc88 hk_a0 hd hS (lv_sub hl [0, 1, 2, 3, 4, 5, 6] rfl) h
def f_X10_tips_L88b (rc36 : Mm → Nat → Int32 → Int32 → Int32 → Int32 → Option (Int32 × Mm)) (rc88 : Mm → Nat → Int32 → Int32 → Int32 → Int32 → Int32 → Int32 → Int32 → Option (Int32 × Mm)) (μ : Mm) (a0 : Nat) (x1 : Int32) (x2 : Int32) (x3 : Int32) (x4 : Int32) (x6 : Int32) (x7 : Int32) (x8 : Int32) : Option (Int32 × Mm) := if (2 : Int32) ≤ x8 then (if x7 = 0 then (f_X10_tips_j141 rc36 μ a0 x1 x2 x4 (0 : Int32) x3) else (f_X10_tips_j141 rc36 μ a0 x1 x2 x4 ((1 : Int32) <<< (x4 &&& 31)) x3)) else (if x7 = 0 then (bC (f_X10_standsBy μ (x6 + x8)) (fun r5 μ4 => bC (f_X10_standsBy μ4 x2) (fun r8 μ7 => if r5 = r8 then (f_X10_tips_j119 rc36 rc88 μ7 a0 x1 x2 x3 x4 x6 x8 (0 : Int32)) else (f_X10_tips_j114 rc36 rc88 μ7 a0 x1 x2 x3 x4 x6 x8)))) else (f_X10_tips_j114 rc36 rc88 μ a0 x1 x2 x3 x4 x6 x8))
set_option maxRecDepth 100000 in
theorem k_f_X10_tips_L88b {l : Launch} {D : va_G} {cA : Nat → ClassId} {z : Nat} {av : List Value} {p : Program} {e : Env} {s : State} {m : MethodId} {below : List Frame} {meth : Method} {c : Code} {r : Int32} {μ' : Mm} (X : Fx D cA RX10 wsX10_tips cX10_tips 9 (some .int) p s m av.toArray meth c) {rc36 : Mm → Nat → Int32 → Int32 → Int32 → Int32 → Option (Int32 × Mm)} {rc88 : Mm → Nat → Int32 → Int32 → Int32 → Int32 → Int32 → Int32 → Int32 → Option (Int32 × Mm)} (hrc36 : HL_X10_tips_36 l D cA z av r μ' p e s m below meth c rc36) (hrc88 : HL_X10_tips_88 l D cA z av r μ' p e s m below meth c rc88) {μ : Mm} {a0 : Nat} {x1 : Int32} {x2 : Int32} {x3 : Int32} {x4 : Int32} {x6 : Int32} {x7 : Int32} {x8 : Int32} (hk_a0 : kd a0 = 10) {H : Heap} {locs : List Loc} {ls : Array Slot} (hd : Wd D cA z μ H) (hS : va_S (Az z) s.heap H locs) (hl : lv_has ls 9 [(0, .ref (z + a0)), (1, .int x1), (2, .int x2), (3, .int x3), (4, .int x4), (6, .int x6), (7, .int x7), (8, .int x8)]) (h : f_X10_tips_L88b rc36 rc88 μ a0 x1 x2 x3 x4 x6 x7 x8 = some (r, μ')) : WG l D cA z wsX10_tips 2 46 av (some (.int r)) μ' p e s m below meth c H locs (F0 m 88 ls []) := by
  obtain ⟨hx, hb, hr, hlk, hml, hown, hts, hK⟩ := id X
  unfold f_X10_tips_L88b at h
  refine lv_iload hx hb dX10_tips_88 (lv_at hl 7 rfl) ?_
  refine lv_iconst (v := 2) hx hb dX10_tips_90 (by decide) ?_
  refine lv_icmp_ge (tgt := 127) hx hb dX10_tips_91 (by decide) (fun q1 => ?_) (fun q1 => ?_)
  · have h := if_y q1 h
    refine lv_iload_n hx hb dX10_tips_127 rfl (lv_at hl 3 rfl) ?_
    refine lv_iload hx hb dX10_tips_128 (lv_at hl 6 rfl) ?_
    refine lv_if_eq (tgt := 140) hx hb dX10_tips_130 (by decide) (fun q2 => ?_) (fun q2 => ?_)
    · have h := if_y q2 h
      refine lv_iconst (v := 0) hx hb dX10_tips_140 (by decide) ?_
      exact k_f_X10_tips_j141 X hrc36 hk_a0 hd hS (lv_sub hl [0, 1, 2, 4] rfl) h
    · have h := if_n q2 h
      refine lv_iconst (v := 1) hx hb dX10_tips_133 (by decide) ?_
      refine lv_iload hx hb dX10_tips_134 (lv_at hl 4 rfl) ?_
      refine lv_ishl hx hb dX10_tips_136 ?_
      refine lv_goto (tgt := 141) hx hb dX10_tips_137 (by decide) ?_
      exact k_f_X10_tips_j141 X hrc36 hk_a0 hd hS (lv_sub hl [0, 1, 2, 4] rfl) h
  · have h := if_n q1 h
    refine lv_iload hx hb dX10_tips_94 (lv_at hl 6 rfl) ?_
    refine lv_if_ne (tgt := 114) hx hb dX10_tips_96 (by decide) (fun q3 => ?_) (fun q3 => ?_)
    · have h := if_n q3 h
      exact k_f_X10_tips_j114 X hrc36 hrc88 hk_a0 hd hS (lv_sub hl [0, 1, 2, 3, 4, 5, 7] rfl) h
    · have h := if_y q3 h
      refine lv_iload hx hb dX10_tips_99 (lv_at hl 5 rfl) ?_
      refine lv_iload hx hb dX10_tips_101 (lv_at hl 7 rfl) ?_
      refine lv_iadd hx hb dX10_tips_103 ?_
      obtain ⟨r5, μ4, hc6, h⟩ := bC_e h
      refine rc_Si (rest := []) [.int (x6 + x8)] ⟨hx, hb, hml, hown, hts⟩ hK hd hS (c_X10_standsBy  hc6) (va_cwS 1 hts gX10_tips_X10_standsBy rfl rfl rfl hn_X10_standsBy ⟨Nat.le_of_ble_eq_true rfl, Nat.le_of_ble_eq_true rfl⟩) rfl hl.1 rfl (Nat.le_of_ble_eq_true rfl) dX10_tips_104 ⟨Nat.zero_le _, Nat.zero_le _⟩ (fun H locs hd hS => ?_)
      refine lv_iload_n hx hb dX10_tips_107 rfl (lv_at hl 2 rfl) ?_
      obtain ⟨r8, μ7, hc9, h⟩ := bC_e h
      refine rc_Si (rest := [.int r5]) [.int x2] ⟨hx, hb, hml, hown, hts⟩ hK hd hS (c_X10_standsBy  hc9) (va_cwS 1 hts gX10_tips_X10_standsBy rfl rfl rfl hn_X10_standsBy ⟨Nat.le_of_ble_eq_true rfl, Nat.le_of_ble_eq_true rfl⟩) rfl hl.1 rfl (Nat.le_of_ble_eq_true rfl) dX10_tips_108 ⟨Nat.zero_le _, Nat.zero_le _⟩ (fun H locs hd hS => ?_)
      refine lv_icmp_eq (tgt := 118) hx hb dX10_tips_111 (by decide) (fun q10 => ?_) (fun q10 => ?_)
      · have h := if_y q10 h
        refine lv_iconst (v := 0) hx hb dX10_tips_118 (by decide) ?_
        exact k_f_X10_tips_j119 X hrc36 hrc88 hk_a0 hd hS (lv_sub hl [0, 1, 2, 3, 4, 5, 7] rfl) h
      · have h := if_n q10 h
        exact k_f_X10_tips_j114 X hrc36 hrc88 hk_a0 hd hS (lv_sub hl [0, 1, 2, 3, 4, 5, 7] rfl) h
def f_X10_tips_L88 (rc36 : Mm → Nat → Int32 → Int32 → Int32 → Int32 → Option (Int32 × Mm)) : Nat → Mm → Nat → Int32 → Int32 → Int32 → Int32 → Int32 → Int32 → Int32 → Option (Int32 × Mm)
  | 0 => fun _ _ _ _ _ _ _ _ _ => none
  | n + 1 => fun μ a0 x1 x2 x3 x4 x6 x7 x8 => f_X10_tips_L88b rc36 (f_X10_tips_L88 rc36 n) μ a0 x1 x2 x3 x4 x6 x7 x8
theorem k_f_X10_tips_L88 {l : Launch} {D : va_G} {cA : Nat → ClassId} {z : Nat} {av : List Value} {p : Program} {e : Env} {s : State} {m : MethodId} {below : List Frame} {meth : Method} {c : Code} {r : Int32} {μ' : Mm} (X : Fx D cA RX10 wsX10_tips cX10_tips 9 (some .int) p s m av.toArray meth c) {rc36 : Mm → Nat → Int32 → Int32 → Int32 → Int32 → Option (Int32 × Mm)} (hrc36 : HL_X10_tips_36 l D cA z av r μ' p e s m below meth c rc36) (n : Nat) : HL_X10_tips_88 l D cA z av r μ' p e s m below meth c (f_X10_tips_L88 rc36 n) := by
  induction n with
  | zero => intro _ _ _ _ _ _ _ _ _ _ _ _ _ _ _ _ h; have h2 : (none : Option _) = some _ := h; cases h2
  | succ n ih => intro μ H locs ls a0 x1 x2 x3 x4 x6 x7 x8 hk_a0 hd hS hl h; exact k_f_X10_tips_L88b X hrc36 ih hk_a0 hd hS hl h
def f_X10_tips_j79 (rc36 : Mm → Nat → Int32 → Int32 → Int32 → Int32 → Option (Int32 × Mm)) (μ : Mm) (a0 : Nat) (x1 : Int32) (x2 : Int32) (x3 : Int32) (x4 : Int32) (ys0 : Int32) (ys1 : Int32) : Option (Int32 × Mm) := bI (ys1 - ys0) (fun v1 => f_X10_tips_L88 rc36 FU μ a0 x1 x2 x3 x4 v1 (0 : Int32) (-1 : Int32))
set_option maxRecDepth 100000 in
theorem k_f_X10_tips_j79 {l : Launch} {D : va_G} {cA : Nat → ClassId} {z : Nat} {av : List Value} {p : Program} {e : Env} {s : State} {m : MethodId} {below : List Frame} {meth : Method} {c : Code} {r : Int32} {μ' : Mm} (X : Fx D cA RX10 wsX10_tips cX10_tips 9 (some .int) p s m av.toArray meth c) {rc36 : Mm → Nat → Int32 → Int32 → Int32 → Int32 → Option (Int32 × Mm)} (hrc36 : HL_X10_tips_36 l D cA z av r μ' p e s m below meth c rc36) {μ : Mm} {a0 : Nat} {x1 : Int32} {x2 : Int32} {x3 : Int32} {x4 : Int32} {ys0 : Int32} {ys1 : Int32} (hk_a0 : kd a0 = 10) {H : Heap} {locs : List Loc} {ls : Array Slot} (hd : Wd D cA z μ H) (hS : va_S (Az z) s.heap H locs) (hl : lv_has ls 9 [(0, .ref (z + a0)), (1, .int x1), (2, .int x2), (3, .int x3), (4, .int x4)]) (h : f_X10_tips_j79 rc36 μ a0 x1 x2 x3 x4 ys0 ys1 = some (r, μ')) : WG l D cA z wsX10_tips 2 46 av (some (.int r)) μ' p e s m below meth c H locs (F0 m 79 ls [.int ys0, .int ys1]) := by
  obtain ⟨hx, hb, hr, hlk, hml, hown, hts, hK⟩ := id X
  unfold f_X10_tips_j79 at h
  refine lv_isub hx hb dX10_tips_79 ?_
  refine lv_topi (fun v1 ev1 => ?_)
  have h := bI_e ev1 h
  refine lv_istore (lv' := [(6, .int v1), (0, .ref (z + a0)), (1, .int x1), (2, .int x2), (3, .int x3), (4, .int x4)]) hx hb dX10_tips_80 hl (by decide) rfl (fun ls hl => ?_)
  refine lv_iconst (v := 0) hx hb dX10_tips_82 (by decide) ?_
  refine lv_istore (lv' := [(7, .int (0 : Int32)), (6, .int v1), (0, .ref (z + a0)), (1, .int x1), (2, .int x2), (3, .int x3), (4, .int x4)]) hx hb dX10_tips_83 hl (by decide) rfl (fun ls hl => ?_)
  refine lv_iconst (v := -1) hx hb dX10_tips_85 (by decide) ?_
  refine lv_istore (lv' := [(8, .int (-1 : Int32)), (7, .int (0 : Int32)), (6, .int v1), (0, .ref (z + a0)), (1, .int x1), (2, .int x2), (3, .int x3), (4, .int x4)]) hx hb dX10_tips_86 hl (by decide) rfl (fun ls hl => ?_)
  exact k_f_X10_tips_L88 X hrc36 FU _ _ _ _ _ _ _ _ _ _ _ _ hk_a0 hd hS (lv_sub hl [3, 4, 5, 6, 7, 2, 1, 0] rfl) h
def f_X10_tips_L36b (rc36 : Mm → Nat → Int32 → Int32 → Int32 → Int32 → Option (Int32 × Mm)) (μ : Mm) (a0 : Nat) (x1 : Int32) (x2 : Int32) (x3 : Int32) (x4 : Int32) : Option (Int32 × Mm) := if (μ.1 a0 7) ≤ x4 then (some (x3, μ)) else (bR (μ.2 a0 8) (fun b2 => gd (ckb (((5 : Int32) * x4) + x1) (ln b2)) (bI (μ.1 b2 (((5 : Int32) * x4) + x1).toNatClampNeg) (fun v4 => if v4 = (1 : Int32) then (f_X10_tips_j79 rc36 μ a0 x1 x2 x3 x4 (1 : Int32) x2) else (if v4 = 0 then (f_X10_tips_j79 rc36 μ a0 x1 x2 x3 x4 (-1 : Int32) x2) else (f_X10_tips_j79 rc36 μ a0 x1 x2 x3 x4 (0 : Int32) x2))))))
set_option maxRecDepth 100000 in
theorem k_f_X10_tips_L36b {l : Launch} {D : va_G} {cA : Nat → ClassId} {z : Nat} {av : List Value} {p : Program} {e : Env} {s : State} {m : MethodId} {below : List Frame} {meth : Method} {c : Code} {r : Int32} {μ' : Mm} (X : Fx D cA RX10 wsX10_tips cX10_tips 9 (some .int) p s m av.toArray meth c) {rc36 : Mm → Nat → Int32 → Int32 → Int32 → Int32 → Option (Int32 × Mm)} (hrc36 : HL_X10_tips_36 l D cA z av r μ' p e s m below meth c rc36) {μ : Mm} {a0 : Nat} {x1 : Int32} {x2 : Int32} {x3 : Int32} {x4 : Int32} (hk_a0 : kd a0 = 10) {H : Heap} {locs : List Loc} {ls : Array Slot} (hd : Wd D cA z μ H) (hS : va_S (Az z) s.heap H locs) (hl : lv_has ls 9 [(0, .ref (z + a0)), (1, .int x1), (2, .int x2), (3, .int x3), (4, .int x4)]) (h : f_X10_tips_L36b rc36 μ a0 x1 x2 x3 x4 = some (r, μ')) : WG l D cA z wsX10_tips 2 46 av (some (.int r)) μ' p e s m below meth c H locs (F0 m 36 ls []) := by
  obtain ⟨hx, hb, hr, hlk, hml, hown, hts, hK⟩ := id X
  unfold f_X10_tips_L36b at h
  refine lv_iload hx hb dX10_tips_36 (lv_at hl 4 rfl) ?_
  refine lv_aload_n hx hb dX10_tips_38 rfl (lv_at hl 0 rfl) ?_
  refine r_geti hx hb hts (fun w h => List.mem_cons_of_mem _ (List.mem_append_right _ (h))) hown hK hd hk_a0 rfl 7 fs_10_7 (hts (.fieldLink RX10 101 "LevelVotesModel" "persons" "I") (List.mem_of_getElem? (i := 2) rfl)) dX10_tips_39 ?_
  refine lv_icmp_ge (tgt := 149) hx hb dX10_tips_42 (by decide) (fun q1 => ?_) (fun q1 => ?_)
  · have h := if_y q1 h
    refine lv_iload_n hx hb dX10_tips_149 rfl (lv_at hl 3 rfl) ?_
    obtain ⟨rfl, rfl⟩ := so_e h
    exact rt_i hx hb hr hlk hd hS dX10_tips_150
  · have h := if_n q1 h
    refine lv_aload_n hx hb dX10_tips_45 rfl (lv_at hl 0 rfl) ?_
    obtain ⟨b2, hb2, h⟩ := bR_e h
    refine r_getr hx hb hts (fun w h => List.mem_cons_of_mem _ (List.mem_append_right _ (h))) hown hK hd hk_a0 hb2 rfl fs_10_8 (hts (.fieldLink RX10 22 "LevelVotesModel" "now" "[I") (List.mem_of_getElem? (i := 3) rfl)) dX10_tips_46 (fun hq => ?_)
    have hk_b2 : kd b2 = 11 := hq
    refine lv_iconst (v := 5) hx hb dX10_tips_49 (by decide) ?_
    refine lv_iload hx hb dX10_tips_50 (lv_at hl 4 rfl) ?_
    refine lv_imul hx hb dX10_tips_52 ?_
    refine lv_iload_n hx hb dX10_tips_53 rfl (lv_at hl 1 rfl) ?_
    refine lv_iadd hx hb dX10_tips_54 ?_
    obtain ⟨g3, h⟩ := gd_e h
    refine r_iald hx hb hK hd hk_b2 (ckb_in g3) dX10_tips_55 ?_
    refine lv_topi (fun v4 ev4 => ?_)
    have h := bI_e ev4 h
    refine lv_istore (lv' := [(5, .int v4), (0, .ref (z + a0)), (1, .int x1), (2, .int x2), (3, .int x3), (4, .int x4)]) hx hb dX10_tips_56 hl (by decide) rfl (fun ls hl => ?_)
    refine lv_iload_n hx hb dX10_tips_58 rfl (lv_at hl 3 rfl) ?_
    refine lv_iload hx hb dX10_tips_59 (lv_at hl 0 rfl) ?_
    refine lv_iconst (v := 1) hx hb dX10_tips_61 (by decide) ?_
    refine lv_icmp_ne (tgt := 69) hx hb dX10_tips_62 (by decide) (fun q5 => ?_) (fun q5 => ?_)
    · have h := if_n q5 h
      refine lv_iload hx hb dX10_tips_69 (lv_at hl 0 rfl) ?_
      refine lv_if_ne (tgt := 78) hx hb dX10_tips_71 (by decide) (fun q6 => ?_) (fun q6 => ?_)
      · have h := if_n q6 h
        refine lv_iconst (v := 0) hx hb dX10_tips_78 (by decide) ?_
        exact k_f_X10_tips_j79 X hrc36 hk_a0 hd hS (lv_sub hl [1, 2, 3, 4, 5] rfl) h
      · have h := if_y q6 h
        refine lv_iconst (v := -1) hx hb dX10_tips_74 (by decide) ?_
        refine lv_goto (tgt := 79) hx hb dX10_tips_75 (by decide) ?_
        exact k_f_X10_tips_j79 X hrc36 hk_a0 hd hS (lv_sub hl [1, 2, 3, 4, 5] rfl) h
    · have h := if_y q5 h
      refine lv_iconst (v := 1) hx hb dX10_tips_65 (by decide) ?_
      refine lv_goto (tgt := 79) hx hb dX10_tips_66 (by decide) ?_
      exact k_f_X10_tips_j79 X hrc36 hk_a0 hd hS (lv_sub hl [1, 2, 3, 4, 5] rfl) h
def f_X10_tips_L36 : Nat → Mm → Nat → Int32 → Int32 → Int32 → Int32 → Option (Int32 × Mm)
  | 0 => fun _ _ _ _ _ _ => none
  | n + 1 => fun μ a0 x1 x2 x3 x4 => f_X10_tips_L36b (f_X10_tips_L36 n) μ a0 x1 x2 x3 x4
theorem k_f_X10_tips_L36 {l : Launch} {D : va_G} {cA : Nat → ClassId} {z : Nat} {av : List Value} {p : Program} {e : Env} {s : State} {m : MethodId} {below : List Frame} {meth : Method} {c : Code} {r : Int32} {μ' : Mm} (X : Fx D cA RX10 wsX10_tips cX10_tips 9 (some .int) p s m av.toArray meth c) (n : Nat) : HL_X10_tips_36 l D cA z av r μ' p e s m below meth c (f_X10_tips_L36 n) := by
  induction n with
  | zero => intro _ _ _ _ _ _ _ _ _ _ _ _ _ h; have h2 : (none : Option _) = some _ := h; cases h2
  | succ n ih => intro μ H locs ls a0 x1 x2 x3 x4 hk_a0 hd hS hl h; exact k_f_X10_tips_L36b X ih hk_a0 hd hS hl h
def f_X10_tips (μ : Mm) (a0 : Nat) (x1 : Int32) : Option (Int32 × Mm) := bC (f_X10_isItem μ a0 x1) (fun r2 μ1 => if r2 = 0 then (some ((-1000000001 : Int32), μ1)) else (bC (f_X10_voters μ1 a0 x1 (1 : Int32)) (fun r6 μ5 => bC (f_X10_bits μ5 r6) (fun r9 μ8 => bC (f_X10_voters μ8 a0 x1 (0 : Int32)) (fun r12 μ11 => bC (f_X10_bits μ11 r12) (fun r15 μ14 => bI (r9 - r15) (fun v17 => f_X10_tips_L36 FU μ14 a0 x1 v17 (0 : Int32) (0 : Int32))))))))
set_option maxRecDepth 100000 in
theorem c_X10_tips {l : Launch} {D : va_G} {cA : Nat → ClassId} {z : Nat} {μ : Mm} {a0 : Nat} {x1 : Int32} {r : Int32} {μ' : Mm} (hk_a0 : kd a0 = 10) (h : f_X10_tips μ a0 x1 = some (r, μ')) : Ct l D cA z yX10_tips wsX10_tips 2 46 [.ref (z + a0), .int x1] μ (some (.int r)) μ' := by
  refine m_in (cc := cX10_tips) (maxL := 9) (ret := (some .int)) (own := RX10) (by decide) rfl rfl (Nat.le_of_ble_eq_true rfl) ?_
  intro p e s m below meth c ls X hd hS hl
  obtain ⟨hx, hb, hr, hlk, hml, hown, hts, hK⟩ := id X
  have hl : lv_has ls 9 [(0, .ref (z + a0)), (1, .int x1)] := hl
  unfold f_X10_tips at h
  refine lv_aload_n hx hb dX10_tips_0 rfl (lv_at hl 0 rfl) ?_
  refine lv_iload_n hx hb dX10_tips_1 rfl (lv_at hl 1 rfl) ?_
  obtain ⟨r2, μ1, hc3, h⟩ := bC_e h
  refine rc_Vi (rest := []) [.int x1] ⟨hx, hb, hml, hown, hts⟩ hK hd hS (c_X10_isItem hk_a0 hc3) (cwV 1 hts gX10_tips_X10_isItem rfl rfl rfl hv_X10_isItem ⟨Nat.le_of_ble_eq_true rfl, Nat.le_of_ble_eq_true rfl⟩) hk_a0 rfl rfl rfl rfl hl.1 rfl (Nat.le_of_ble_eq_true rfl) dX10_tips_2 ⟨Nat.zero_le _, Nat.zero_le _⟩ (fun H locs hd hS => ?_)
  refine lv_if_ne (tgt := 11) hx hb dX10_tips_5 (by decide) (fun q4 => ?_) (fun q4 => ?_)
  · have h := if_n q4 h
    refine lv_aload_n hx hb dX10_tips_11 rfl (lv_at hl 0 rfl) ?_
    refine lv_iload_n hx hb dX10_tips_12 rfl (lv_at hl 1 rfl) ?_
    refine lv_iconst (v := 1) hx hb dX10_tips_13 (by decide) ?_
    obtain ⟨r6, μ5, hc7, h⟩ := bC_e h
    refine rc_Vi (rest := []) [.int x1, .int (1 : Int32)] ⟨hx, hb, hml, hown, hts⟩ hK hd hS (c_X10_voters hk_a0 hc7) (cwV 2 hts gX10_tips_X10_voters rfl rfl rfl hv_X10_voters ⟨Nat.le_of_ble_eq_true rfl, Nat.le_of_ble_eq_true rfl⟩) hk_a0 rfl rfl rfl rfl hl.1 rfl (Nat.le_of_ble_eq_true rfl) dX10_tips_14 ⟨Nat.zero_le _, Nat.zero_le _⟩ (fun H locs hd hS => ?_)
    obtain ⟨r9, μ8, hc10, h⟩ := bC_e h
    refine rc_Si (rest := []) [.int r6] ⟨hx, hb, hml, hown, hts⟩ hK hd hS (c_X10_bits  hc10) (va_cwS 1 hts gX10_tips_X10_bits rfl rfl rfl hn_X10_bits ⟨Nat.le_of_ble_eq_true rfl, Nat.le_of_ble_eq_true rfl⟩) rfl hl.1 rfl (Nat.le_of_ble_eq_true rfl) dX10_tips_17 ⟨Nat.zero_le _, Nat.zero_le _⟩ (fun H locs hd hS => ?_)
    refine lv_aload_n hx hb dX10_tips_20 rfl (lv_at hl 0 rfl) ?_
    refine lv_iload_n hx hb dX10_tips_21 rfl (lv_at hl 1 rfl) ?_
    refine lv_iconst (v := 0) hx hb dX10_tips_22 (by decide) ?_
    obtain ⟨r12, μ11, hc13, h⟩ := bC_e h
    refine rc_Vi (rest := [.int r9]) [.int x1, .int (0 : Int32)] ⟨hx, hb, hml, hown, hts⟩ hK hd hS (c_X10_voters hk_a0 hc13) (cwV 2 hts gX10_tips_X10_voters rfl rfl rfl hv_X10_voters ⟨Nat.le_of_ble_eq_true rfl, Nat.le_of_ble_eq_true rfl⟩) hk_a0 rfl rfl rfl rfl hl.1 rfl (Nat.le_of_ble_eq_true rfl) dX10_tips_23 ⟨Nat.zero_le _, Nat.zero_le _⟩ (fun H locs hd hS => ?_)
    obtain ⟨r15, μ14, hc16, h⟩ := bC_e h
    refine rc_Si (rest := [.int r9]) [.int r12] ⟨hx, hb, hml, hown, hts⟩ hK hd hS (c_X10_bits  hc16) (va_cwS 1 hts gX10_tips_X10_bits rfl rfl rfl hn_X10_bits ⟨Nat.le_of_ble_eq_true rfl, Nat.le_of_ble_eq_true rfl⟩) rfl hl.1 rfl (Nat.le_of_ble_eq_true rfl) dX10_tips_26 ⟨Nat.zero_le _, Nat.zero_le _⟩ (fun H locs hd hS => ?_)
    refine lv_isub hx hb dX10_tips_29 ?_
    refine lv_topi (fun v17 ev17 => ?_)
    have h := bI_e ev17 h
    refine lv_istore_n (lv' := [(2, .int v17), (0, .ref (z + a0)), (1, .int x1)]) hx hb dX10_tips_30 rfl hl (by decide) rfl (fun ls hl => ?_)
    refine lv_iconst (v := 0) hx hb dX10_tips_31 (by decide) ?_
    refine lv_istore_n (lv' := [(3, .int (0 : Int32)), (2, .int v17), (0, .ref (z + a0)), (1, .int x1)]) hx hb dX10_tips_32 rfl hl (by decide) rfl (fun ls hl => ?_)
    refine lv_iconst (v := 0) hx hb dX10_tips_33 (by decide) ?_
    refine lv_istore (lv' := [(4, .int (0 : Int32)), (3, .int (0 : Int32)), (2, .int v17), (0, .ref (z + a0)), (1, .int x1)]) hx hb dX10_tips_34 hl (by decide) rfl (fun ls hl => ?_)
    exact k_f_X10_tips_L36 X FU _ _ _ _ _ _ _ _ _ hk_a0 hd hS (lv_sub hl [3, 4, 2, 1, 0] rfl) h
  · have h := if_y q4 h
    refine lv_ldc (v := -1000000001) hx hb hown (hts (.constant RX10 226 (-1000000001)) (List.mem_of_getElem? (i := 1) rfl)) dX10_tips_8 ?_
    obtain ⟨rfl, rfl⟩ := so_e h
    exact rt_i hx hb hr hlk hd hS dX10_tips_10
theorem hn_X10_both : yX10_both.cls ≠ "java/lang/invoke/MethodHandle" ∧ yX10_both.cls ≠ "java/lang/invoke/VarHandle" ∧ (parseMethodDescriptor yX10_both.desc).map (fun d => d.parameters.length) = some 2 := by decide +kernel
def f_X10_both (μ : Mm) (x0 : Int32) (x1 : Int32) : Option (Int32 × Mm) := if x1 ≤ x0 then (some (x1, μ)) else (some (x0, μ))
set_option maxRecDepth 100000 in
theorem c_X10_both {l : Launch} {D : va_G} {cA : Nat → ClassId} {z : Nat} {μ : Mm} {x0 : Int32} {x1 : Int32} {r : Int32} {μ' : Mm} (h : f_X10_both μ x0 x1 = some (r, μ')) : Ct l D cA z yX10_both wsX10_both 0 0 [.int x0, .int x1] μ (some (.int r)) μ' := by
  refine m_in (cc := cX10_both) (maxL := 2) (ret := (some .int)) (own := RX10) (by decide) rfl rfl (Nat.le_of_ble_eq_true rfl) ?_
  intro p e s m below meth c ls X hd hS hl
  obtain ⟨hx, hb, hr, hlk, hml, hown, hts, hK⟩ := id X
  have hl : lv_has ls 2 [(0, .int x0), (1, .int x1)] := hl
  unfold f_X10_both at h
  refine lv_iload_n hx hb dX10_both_0 rfl (lv_at hl 0 rfl) ?_
  refine lv_iload_n hx hb dX10_both_1 rfl (lv_at hl 1 rfl) ?_
  refine lv_icmp_ge (tgt := 9) hx hb dX10_both_2 (by decide) (fun q1 => ?_) (fun q1 => ?_)
  · have h := if_y q1 h
    refine lv_iload_n hx hb dX10_both_9 rfl (lv_at hl 1 rfl) ?_
    obtain ⟨rfl, rfl⟩ := so_e h
    exact rt_i hx hb hr hlk hd hS dX10_both_10
  · have h := if_n q1 h
    refine lv_iload_n hx hb dX10_both_5 rfl (lv_at hl 0 rfl) ?_
    refine lv_goto (tgt := 10) hx hb dX10_both_6 (by decide) ?_
    obtain ⟨rfl, rfl⟩ := so_e h
    exact rt_i hx hb hr hlk hd hS dX10_both_10
theorem hv_X10_findCosts : yX10_findCosts.cls = RX10 ∧ yX10_findCosts.cls ≠ "java/lang/invoke/MethodHandle" ∧ yX10_findCosts.cls ≠ "java/lang/invoke/VarHandle" ∧ (parseMethodDescriptor yX10_findCosts.desc).map (fun d => d.parameters.length) = some 0 := by decide +kernel
abbrev HL_X10_findCosts_2 (l : Launch) (D : va_G) (cA : Nat → ClassId) (z : Nat) (av : List Value) (μ' : Mm) (p : Program) (e : Env) (s : State) (m : MethodId) (below : List Frame) (meth : Method) (c : Code) (rc : Mm → Nat → Int32 → Option Mm) : Prop := ∀ (μ : Mm) (H : Heap) (locs : List Loc) (ls : Array Slot) (a0 : Nat) (x1 : Int32), kd a0 = 10 → Wd D cA z μ H → va_S (Az z) s.heap H locs → lv_has ls 10 [(0, .ref (z + a0)), (1, .int x1)] → rc μ a0 x1 = some μ' → WG l D cA z wsX10_findCosts 1 24 av none μ' p e s m below meth c H locs (F0 m 2 ls [])
abbrev HL_X10_findCosts_25 (l : Launch) (D : va_G) (cA : Nat → ClassId) (z : Nat) (av : List Value) (μ' : Mm) (p : Program) (e : Env) (s : State) (m : MethodId) (below : List Frame) (meth : Method) (c : Code) (rc : Mm → Nat → Int32 → Option Mm) : Prop := ∀ (μ : Mm) (H : Heap) (locs : List Loc) (ls : Array Slot) (a0 : Nat) (x1 : Int32), kd a0 = 10 → Wd D cA z μ H → va_S (Az z) s.heap H locs → lv_has ls 10 [(0, .ref (z + a0)), (1, .int x1)] → rc μ a0 x1 = some μ' → WG l D cA z wsX10_findCosts 1 24 av none μ' p e s m below meth c H locs (F0 m 25 ls [])
abbrev HL_X10_findCosts_66 (l : Launch) (D : va_G) (cA : Nat → ClassId) (z : Nat) (av : List Value) (μ' : Mm) (p : Program) (e : Env) (s : State) (m : MethodId) (below : List Frame) (meth : Method) (c : Code) (rc : Mm → Nat → Int32 → Int32 → Int32 → Int32 → Int32 → Option Mm) : Prop := ∀ (μ : Mm) (H : Heap) (locs : List Loc) (ls : Array Slot) (a0 : Nat) (x1 : Int32) (x2 : Int32) (x3 : Int32) (x4 : Int32) (x5 : Int32), kd a0 = 10 → Wd D cA z μ H → va_S (Az z) s.heap H locs → lv_has ls 10 [(0, .ref (z + a0)), (1, .int x1), (2, .int x2), (3, .int x3), (4, .int x4), (5, .int x5)] → rc μ a0 x1 x2 x3 x4 x5 = some μ' → WG l D cA z wsX10_findCosts 1 24 av none μ' p e s m below meth c H locs (F0 m 66 ls [])
def f_X10_findCosts_j168 (rc25 : Mm → Nat → Int32 → Option Mm) (rc66 : Mm → Nat → Int32 → Int32 → Int32 → Int32 → Int32 → Option Mm) (μ : Mm) (a0 : Nat) (x1 : Int32) (x2 : Int32) (x3 : Int32) (x4 : Int32) (x5 : Int32) : Option Mm := rc66 μ a0 x1 x2 x3 x4 (x5 + (1 : Int32))
set_option maxRecDepth 100000 in
theorem k_f_X10_findCosts_j168 {l : Launch} {D : va_G} {cA : Nat → ClassId} {z : Nat} {av : List Value} {p : Program} {e : Env} {s : State} {m : MethodId} {below : List Frame} {meth : Method} {c : Code} {μ' : Mm} (X : Fx D cA RX10 wsX10_findCosts cX10_findCosts 10 none p s m av.toArray meth c) {rc25 : Mm → Nat → Int32 → Option Mm} {rc66 : Mm → Nat → Int32 → Int32 → Int32 → Int32 → Int32 → Option Mm} (hrc25 : HL_X10_findCosts_25 l D cA z av μ' p e s m below meth c rc25) (hrc66 : HL_X10_findCosts_66 l D cA z av μ' p e s m below meth c rc66) {μ : Mm} {a0 : Nat} {x1 : Int32} {x2 : Int32} {x3 : Int32} {x4 : Int32} {x5 : Int32} (hk_a0 : kd a0 = 10) {H : Heap} {locs : List Loc} {ls : Array Slot} (hd : Wd D cA z μ H) (hS : va_S (Az z) s.heap H locs) (hl : lv_has ls 10 [(0, .ref (z + a0)), (1, .int x1), (2, .int x2), (3, .int x3), (4, .int x4), (5, .int x5)]) (h : f_X10_findCosts_j168 rc25 rc66 μ a0 x1 x2 x3 x4 x5 = some μ') : WG l D cA z wsX10_findCosts 1 24 av none μ' p e s m below meth c H locs (F0 m 168 ls []) := by
  obtain ⟨hx, hb, hr, hlk, hml, hown, hts, hK⟩ := id X
  unfold f_X10_findCosts_j168 at h
  refine lv_iinc (v := x5 + (1 : Int32)) (lv' := [(5, .int (x5 + (1 : Int32))), (0, .ref (z + a0)), (1, .int x1), (2, .int x2), (3, .int x3), (4, .int x4)]) hx hb dX10_findCosts_168 hl (k := 5) rfl rfl (by decide) rfl (fun ls hl => ?_)
  refine lv_goto (tgt := 66) hx hb dX10_findCosts_171 (by decide) ?_
  exact hrc66 _ _ _ _ _ _ _ _ _ _ hk_a0 hd hS (lv_sub hl [1, 2, 3, 4, 5, 0] rfl) h
def f_X10_findCosts_L66b (rc25 : Mm → Nat → Int32 → Option Mm) (rc66 : Mm → Nat → Int32 → Int32 → Int32 → Int32 → Int32 → Option Mm) (μ : Mm) (a0 : Nat) (x1 : Int32) (x2 : Int32) (x3 : Int32) (x4 : Int32) (x5 : Int32) : Option Mm := if (64 : Int32) ≤ x5 then (rc25 μ a0 (x1 + (1 : Int32))) else (bI (x5 / (8 : Int32)) (fun v2 => bI (x5 - x5 / (8 : Int32) * (8 : Int32)) (fun v3 => if (μ.1 a0 7) < (v2 + v3) then (f_X10_findCosts_j168 rc25 rc66 μ a0 x1 x2 x3 x4 x5) else (bC (f_X10_both μ v2 x2) (fun r6 μ5 => bC (f_X10_both μ5 v3 x3) (fun r9 μ8 => bC (f_X10_both μ8 (((μ8.1 a0 7) - v2) - v3) x4) (fun r12 μ11 => bI ((r6 + r9) + r12) (fun v14 => bC (f_X10_standsBy μ11 (v2 - v3)) (fun r16 μ15 => bI (((3 : Int32) * x1) + r16) (fun v18 => bR (μ15.2 a0 29) (fun b19 => bR (μ15.2 a0 29) (fun b20 => gd (ckb v18 (ln b20)) (bC (f_X10_both μ15 (μ15.1 b20 (v18).toNatClampNeg) ((μ15.1 a0 7) - v14)) (fun r23 μ22 => gd (ckb v18 (ln b19)) (bM (up2 μ22.1 b19 (v18).toNatClampNeg r23, μ22.2) (fun μ26 => f_X10_findCosts_j168 rc25 rc66 μ26 a0 x1 x2 x3 x4 x5))))))))))))))))
set_option maxRecDepth 100000 in
theorem k_f_X10_findCosts_L66b {l : Launch} {D : va_G} {cA : Nat → ClassId} {z : Nat} {av : List Value} {p : Program} {e : Env} {s : State} {m : MethodId} {below : List Frame} {meth : Method} {c : Code} {μ' : Mm} (X : Fx D cA RX10 wsX10_findCosts cX10_findCosts 10 none p s m av.toArray meth c) {rc25 : Mm → Nat → Int32 → Option Mm} {rc66 : Mm → Nat → Int32 → Int32 → Int32 → Int32 → Int32 → Option Mm} (hrc25 : HL_X10_findCosts_25 l D cA z av μ' p e s m below meth c rc25) (hrc66 : HL_X10_findCosts_66 l D cA z av μ' p e s m below meth c rc66) {μ : Mm} {a0 : Nat} {x1 : Int32} {x2 : Int32} {x3 : Int32} {x4 : Int32} {x5 : Int32} (hk_a0 : kd a0 = 10) {H : Heap} {locs : List Loc} {ls : Array Slot} (hd : Wd D cA z μ H) (hS : va_S (Az z) s.heap H locs) (hl : lv_has ls 10 [(0, .ref (z + a0)), (1, .int x1), (2, .int x2), (3, .int x3), (4, .int x4), (5, .int x5)]) (h : f_X10_findCosts_L66b rc25 rc66 μ a0 x1 x2 x3 x4 x5 = some μ') : WG l D cA z wsX10_findCosts 1 24 av none μ' p e s m below meth c H locs (F0 m 66 ls []) := by
  obtain ⟨hx, hb, hr, hlk, hml, hown, hts, hK⟩ := id X
  unfold f_X10_findCosts_L66b at h
  refine lv_iload hx hb dX10_findCosts_66 (lv_at hl 5 rfl) ?_
  refine lv_bipush (v := 64) hx hb dX10_findCosts_68 (by decide) ?_
  refine lv_icmp_ge (tgt := 174) hx hb dX10_findCosts_70 (by decide) (fun q1 => ?_) (fun q1 => ?_)
  · have h := if_y q1 h
    refine lv_iinc (v := x1 + (1 : Int32)) (lv' := [(1, .int (x1 + (1 : Int32))), (0, .ref (z + a0)), (2, .int x2), (3, .int x3), (4, .int x4), (5, .int x5)]) hx hb dX10_findCosts_174 hl (k := 1) rfl rfl (by decide) rfl (fun ls hl => ?_)
    refine lv_goto (tgt := 25) hx hb dX10_findCosts_177 (by decide) ?_
    exact hrc25 _ _ _ _ _ _ hk_a0 hd hS (lv_sub hl [1, 0] rfl) h
  · have h := if_n q1 h
    refine lv_iload hx hb dX10_findCosts_73 (lv_at hl 5 rfl) ?_
    refine lv_bipush (v := 8) hx hb dX10_findCosts_75 (by decide) ?_
    refine lv_idiv hx hb dX10_findCosts_77 (by decide) ?_
    refine lv_topi (fun v2 ev2 => ?_)
    have h := bI_e ev2 h
    refine lv_istore (lv' := [(6, .int v2), (0, .ref (z + a0)), (1, .int x1), (2, .int x2), (3, .int x3), (4, .int x4), (5, .int x5)]) hx hb dX10_findCosts_78 hl (by decide) rfl (fun ls hl => ?_)
    refine lv_iload hx hb dX10_findCosts_80 (lv_at hl 6 rfl) ?_
    refine lv_bipush (v := 8) hx hb dX10_findCosts_82 (by decide) ?_
    refine lv_irem hx hb dX10_findCosts_84 (by decide) ?_
    refine lv_topi (fun v3 ev3 => ?_)
    have h := bI_e ev3 h
    refine lv_istore (lv' := [(7, .int v3), (6, .int v2), (0, .ref (z + a0)), (1, .int x1), (2, .int x2), (3, .int x3), (4, .int x4), (5, .int x5)]) hx hb dX10_findCosts_85 hl (by decide) rfl (fun ls hl => ?_)
    refine lv_iload hx hb dX10_findCosts_87 (lv_at hl 1 rfl) ?_
    refine lv_iload hx hb dX10_findCosts_89 (lv_at hl 0 rfl) ?_
    refine lv_iadd hx hb dX10_findCosts_91 ?_
    refine lv_aload_n hx hb dX10_findCosts_92 rfl (lv_at hl 2 rfl) ?_
    refine r_geti hx hb hts (fun w h => List.mem_cons_of_mem _ (List.mem_append_right _ (h))) hown hK hd hk_a0 rfl 7 fs_10_7 (hts (.fieldLink RX10 101 "LevelVotesModel" "persons" "I") (List.mem_of_getElem? (i := 3) rfl)) dX10_findCosts_93 ?_
    refine lv_icmp_gt (tgt := 168) hx hb dX10_findCosts_96 (by decide) (fun q4 => ?_) (fun q4 => ?_)
    · have h := if_y q4 h
      exact k_f_X10_findCosts_j168 X hrc25 hrc66 hk_a0 hd hS (lv_sub hl [2, 3, 4, 5, 6, 7] rfl) h
    · have h := if_n q4 h
      refine lv_iload hx hb dX10_findCosts_99 (lv_at hl 1 rfl) ?_
      refine lv_iload_n hx hb dX10_findCosts_101 rfl (lv_at hl 4 rfl) ?_
      obtain ⟨r6, μ5, hc7, h⟩ := bC_e h
      refine rc_Si (rest := []) [.int v2, .int x2] ⟨hx, hb, hml, hown, hts⟩ hK hd hS (c_X10_both  hc7) (va_cwS 2 hts gX10_findCosts_X10_both rfl rfl rfl hn_X10_both ⟨Nat.le_of_ble_eq_true rfl, Nat.le_of_ble_eq_true rfl⟩) rfl hl.1 rfl (Nat.le_of_ble_eq_true rfl) dX10_findCosts_102 ⟨Nat.zero_le _, Nat.zero_le _⟩ (fun H locs hd hS => ?_)
      refine lv_iload hx hb dX10_findCosts_105 (lv_at hl 0 rfl) ?_
      refine lv_iload_n hx hb dX10_findCosts_107 rfl (lv_at hl 5 rfl) ?_
      obtain ⟨r9, μ8, hc10, h⟩ := bC_e h
      refine rc_Si (rest := [.int r6]) [.int v3, .int x3] ⟨hx, hb, hml, hown, hts⟩ hK hd hS (c_X10_both  hc10) (va_cwS 2 hts gX10_findCosts_X10_both rfl rfl rfl hn_X10_both ⟨Nat.le_of_ble_eq_true rfl, Nat.le_of_ble_eq_true rfl⟩) rfl hl.1 rfl (Nat.le_of_ble_eq_true rfl) dX10_findCosts_108 ⟨Nat.zero_le _, Nat.zero_le _⟩ (fun H locs hd hS => ?_)
      refine lv_iadd hx hb dX10_findCosts_111 ?_
      refine lv_aload_n hx hb dX10_findCosts_112 rfl (lv_at hl 2 rfl) ?_
      refine r_geti hx hb hts (fun w h => List.mem_cons_of_mem _ (List.mem_append_right _ (h))) hown hK hd hk_a0 rfl 7 fs_10_7 (hts (.fieldLink RX10 101 "LevelVotesModel" "persons" "I") (List.mem_of_getElem? (i := 3) rfl)) dX10_findCosts_113 ?_
      refine lv_iload hx hb dX10_findCosts_116 (lv_at hl 1 rfl) ?_
      refine lv_isub hx hb dX10_findCosts_118 ?_
      refine lv_iload hx hb dX10_findCosts_119 (lv_at hl 0 rfl) ?_
      refine lv_isub hx hb dX10_findCosts_121 ?_
      refine lv_iload hx hb dX10_findCosts_122 (lv_at hl 6 rfl) ?_
      obtain ⟨r12, μ11, hc13, h⟩ := bC_e h
      refine rc_Si (rest := [.int (r6 + r9)]) [.int (((μ8.1 a0 7) - v2) - v3), .int x4] ⟨hx, hb, hml, hown, hts⟩ hK hd hS (c_X10_both  hc13) (va_cwS 2 hts gX10_findCosts_X10_both rfl rfl rfl hn_X10_both ⟨Nat.le_of_ble_eq_true rfl, Nat.le_of_ble_eq_true rfl⟩) rfl hl.1 rfl (Nat.le_of_ble_eq_true rfl) dX10_findCosts_124 ⟨Nat.zero_le _, Nat.zero_le _⟩ (fun H locs hd hS => ?_)
      refine lv_iadd hx hb dX10_findCosts_127 ?_
      refine lv_topi (fun v14 ev14 => ?_)
      have h := bI_e ev14 h
      refine lv_istore (lv' := [(8, .int v14), (7, .int v3), (6, .int v2), (0, .ref (z + a0)), (1, .int x1), (2, .int x2), (3, .int x3), (4, .int x4), (5, .int x5)]) hx hb dX10_findCosts_128 hl (by decide) rfl (fun ls hl => ?_)
      refine lv_iconst (v := 3) hx hb dX10_findCosts_130 (by decide) ?_
      refine lv_iload_n hx hb dX10_findCosts_131 rfl (lv_at hl 4 rfl) ?_
      refine lv_imul hx hb dX10_findCosts_132 ?_
      refine lv_iload hx hb dX10_findCosts_133 (lv_at hl 2 rfl) ?_
      refine lv_iload hx hb dX10_findCosts_135 (lv_at hl 1 rfl) ?_
      refine lv_isub hx hb dX10_findCosts_137 ?_
      obtain ⟨r16, μ15, hc17, h⟩ := bC_e h
      refine rc_Si (rest := [.int ((3 : Int32) * x1)]) [.int (v2 - v3)] ⟨hx, hb, hml, hown, hts⟩ hK hd hS (c_X10_standsBy  hc17) (va_cwS 1 hts gX10_findCosts_X10_standsBy rfl rfl rfl hn_X10_standsBy ⟨Nat.le_of_ble_eq_true rfl, Nat.le_of_ble_eq_true rfl⟩) rfl hl.1 rfl (Nat.le_of_ble_eq_true rfl) dX10_findCosts_138 ⟨Nat.zero_le _, Nat.zero_le _⟩ (fun H locs hd hS => ?_)
      refine lv_iadd hx hb dX10_findCosts_141 ?_
      refine lv_topi (fun v18 ev18 => ?_)
      have h := bI_e ev18 h
      refine lv_istore (lv' := [(9, .int v18), (8, .int v14), (7, .int v3), (6, .int v2), (0, .ref (z + a0)), (1, .int x1), (2, .int x2), (3, .int x3), (4, .int x4), (5, .int x5)]) hx hb dX10_findCosts_142 hl (by decide) rfl (fun ls hl => ?_)
      refine lv_aload_n hx hb dX10_findCosts_144 rfl (lv_at hl 4 rfl) ?_
      obtain ⟨b19, hb19, h⟩ := bR_e h
      refine r_getr hx hb hts (fun w h => List.mem_cons_of_mem _ (List.mem_append_right _ (h))) hown hK hd hk_a0 hb19 rfl fs_10_29 (hts (.fieldLink RX10 59 "LevelVotesModel" "costs" "[I") (List.mem_of_getElem? (i := 1) rfl)) dX10_findCosts_145 (fun hq => ?_)
      have hk_b19 : kd b19 = 11 := hq
      refine lv_iload hx hb dX10_findCosts_148 (lv_at hl 0 rfl) ?_
      refine lv_aload_n hx hb dX10_findCosts_150 rfl (lv_at hl 4 rfl) ?_
      obtain ⟨b20, hb20, h⟩ := bR_e h
      refine r_getr hx hb hts (fun w h => List.mem_cons_of_mem _ (List.mem_append_right _ (h))) hown hK hd hk_a0 hb20 rfl fs_10_29 (hts (.fieldLink RX10 59 "LevelVotesModel" "costs" "[I") (List.mem_of_getElem? (i := 1) rfl)) dX10_findCosts_151 (fun hq => ?_)
      have hk_b20 : kd b20 = 11 := hq
      refine lv_iload hx hb dX10_findCosts_154 (lv_at hl 0 rfl) ?_
      obtain ⟨g21, h⟩ := gd_e h
      refine r_iald hx hb hK hd hk_b20 (ckb_in g21) dX10_findCosts_156 ?_
      refine lv_aload_n hx hb dX10_findCosts_157 rfl (lv_at hl 4 rfl) ?_
      refine r_geti hx hb hts (fun w h => List.mem_cons_of_mem _ (List.mem_append_right _ (h))) hown hK hd hk_a0 rfl 7 fs_10_7 (hts (.fieldLink RX10 101 "LevelVotesModel" "persons" "I") (List.mem_of_getElem? (i := 3) rfl)) dX10_findCosts_158 ?_
      refine lv_iload hx hb dX10_findCosts_161 (lv_at hl 1 rfl) ?_
      refine lv_isub hx hb dX10_findCosts_163 ?_
      obtain ⟨r23, μ22, hc24, h⟩ := bC_e h
      refine rc_Si (rest := [.int v18, .ref (z + b19)]) [.int (μ15.1 b20 (v18).toNatClampNeg), .int ((μ15.1 a0 7) - v14)] ⟨hx, hb, hml, hown, hts⟩ hK hd hS (c_X10_both  hc24) (va_cwS 2 hts gX10_findCosts_X10_both rfl rfl rfl hn_X10_both ⟨Nat.le_of_ble_eq_true rfl, Nat.le_of_ble_eq_true rfl⟩) rfl hl.1 rfl (Nat.le_of_ble_eq_true rfl) dX10_findCosts_164 ⟨Nat.zero_le _, Nat.zero_le _⟩ (fun H locs hd hS => ?_)
      obtain ⟨g25, h⟩ := gd_e h
      refine r_iast hx hb hK hd hS hk_b19 (ckb_in g25) dX10_findCosts_167 (fun μ26 eμ26 H locs hd hS => ?_)
      have h := bM_e eμ26 h
      exact k_f_X10_findCosts_j168 X hrc25 hrc66 hk_a0 hd hS (lv_sub hl [4, 5, 6, 7, 8, 9] rfl) h
def f_X10_findCosts_L66 (rc25 : Mm → Nat → Int32 → Option Mm) : Nat → Mm → Nat → Int32 → Int32 → Int32 → Int32 → Int32 → Option Mm
  | 0 => fun _ _ _ _ _ _ _ => none
  | n + 1 => fun μ a0 x1 x2 x3 x4 x5 => f_X10_findCosts_L66b rc25 (f_X10_findCosts_L66 rc25 n) μ a0 x1 x2 x3 x4 x5
theorem k_f_X10_findCosts_L66 {l : Launch} {D : va_G} {cA : Nat → ClassId} {z : Nat} {av : List Value} {p : Program} {e : Env} {s : State} {m : MethodId} {below : List Frame} {meth : Method} {c : Code} {μ' : Mm} (X : Fx D cA RX10 wsX10_findCosts cX10_findCosts 10 none p s m av.toArray meth c) {rc25 : Mm → Nat → Int32 → Option Mm} (hrc25 : HL_X10_findCosts_25 l D cA z av μ' p e s m below meth c rc25) (n : Nat) : HL_X10_findCosts_66 l D cA z av μ' p e s m below meth c (f_X10_findCosts_L66 rc25 n) := by
  induction n with
  | zero => intro _ _ _ _ _ _ _ _ _ _ _ _ _ _ h; have h2 : (none : Option _) = some _ := h; cases h2
  | succ n ih => intro μ H locs ls a0 x1 x2 x3 x4 x5 hk_a0 hd hS hl h; exact k_f_X10_findCosts_L66b X hrc25 ih hk_a0 hd hS hl h
def f_X10_findCosts_L25b (rc25 : Mm → Nat → Int32 → Option Mm) (μ : Mm) (a0 : Nat) (x1 : Int32) : Option Mm := if (μ.1 a0 3) ≤ x1 then (some μ) else (bC (f_X10_voters μ a0 x1 (1 : Int32)) (fun r3 μ2 => bC (f_X10_bits μ2 r3) (fun r6 μ5 => bC (f_X10_voters μ5 a0 x1 (0 : Int32)) (fun r9 μ8 => bC (f_X10_bits μ8 r9) (fun r12 μ11 => bI (((μ11.1 a0 7) - r6) - r12) (fun v14 => f_X10_findCosts_L66 rc25 FU μ11 a0 x1 r6 r12 v14 (0 : Int32)))))))
set_option maxRecDepth 100000 in
theorem k_f_X10_findCosts_L25b {l : Launch} {D : va_G} {cA : Nat → ClassId} {z : Nat} {av : List Value} {p : Program} {e : Env} {s : State} {m : MethodId} {below : List Frame} {meth : Method} {c : Code} {μ' : Mm} (X : Fx D cA RX10 wsX10_findCosts cX10_findCosts 10 none p s m av.toArray meth c) {rc25 : Mm → Nat → Int32 → Option Mm} (hrc25 : HL_X10_findCosts_25 l D cA z av μ' p e s m below meth c rc25) {μ : Mm} {a0 : Nat} {x1 : Int32} (hk_a0 : kd a0 = 10) {H : Heap} {locs : List Loc} {ls : Array Slot} (hd : Wd D cA z μ H) (hS : va_S (Az z) s.heap H locs) (hl : lv_has ls 10 [(0, .ref (z + a0)), (1, .int x1)]) (h : f_X10_findCosts_L25b rc25 μ a0 x1 = some μ') : WG l D cA z wsX10_findCosts 1 24 av none μ' p e s m below meth c H locs (F0 m 25 ls []) := by
  obtain ⟨hx, hb, hr, hlk, hml, hown, hts, hK⟩ := id X
  unfold f_X10_findCosts_L25b at h
  refine lv_iload_n hx hb dX10_findCosts_25 rfl (lv_at hl 1 rfl) ?_
  refine lv_aload_n hx hb dX10_findCosts_26 rfl (lv_at hl 0 rfl) ?_
  refine r_geti hx hb hts (fun w h => List.mem_cons_of_mem _ (List.mem_append_right _ (h))) hown hK hd hk_a0 rfl 3 fs_10_3 (hts (.fieldLink RX10 98 "LevelVotesModel" "items" "I") (List.mem_of_getElem? (i := 2) rfl)) dX10_findCosts_27 ?_
  refine lv_icmp_ge (tgt := 180) hx hb dX10_findCosts_30 (by decide) (fun q1 => ?_) (fun q1 => ?_)
  · have h := if_y q1 h
    obtain rfl := sv_e h
    exact rt_v hx hb hr hlk hd hS dX10_findCosts_180
  · have h := if_n q1 h
    refine lv_aload_n hx hb dX10_findCosts_33 rfl (lv_at hl 0 rfl) ?_
    refine lv_iload_n hx hb dX10_findCosts_34 rfl (lv_at hl 1 rfl) ?_
    refine lv_iconst (v := 1) hx hb dX10_findCosts_35 (by decide) ?_
    obtain ⟨r3, μ2, hc4, h⟩ := bC_e h
    refine rc_Vi (rest := []) [.int x1, .int (1 : Int32)] ⟨hx, hb, hml, hown, hts⟩ hK hd hS (c_X10_voters hk_a0 hc4) (cwV 2 hts gX10_findCosts_X10_voters rfl rfl rfl hv_X10_voters ⟨Nat.le_of_ble_eq_true rfl, Nat.le_of_ble_eq_true rfl⟩) hk_a0 rfl rfl rfl rfl hl.1 rfl (Nat.le_of_ble_eq_true rfl) dX10_findCosts_36 ⟨Nat.zero_le _, Nat.zero_le _⟩ (fun H locs hd hS => ?_)
    obtain ⟨r6, μ5, hc7, h⟩ := bC_e h
    refine rc_Si (rest := []) [.int r3] ⟨hx, hb, hml, hown, hts⟩ hK hd hS (c_X10_bits  hc7) (va_cwS 1 hts gX10_findCosts_X10_bits rfl rfl rfl hn_X10_bits ⟨Nat.le_of_ble_eq_true rfl, Nat.le_of_ble_eq_true rfl⟩) rfl hl.1 rfl (Nat.le_of_ble_eq_true rfl) dX10_findCosts_39 ⟨Nat.zero_le _, Nat.zero_le _⟩ (fun H locs hd hS => ?_)
    refine lv_istore_n (lv' := [(2, .int r6), (0, .ref (z + a0)), (1, .int x1)]) hx hb dX10_findCosts_42 rfl hl (by decide) rfl (fun ls hl => ?_)
    refine lv_aload_n hx hb dX10_findCosts_43 rfl (lv_at hl 1 rfl) ?_
    refine lv_iload_n hx hb dX10_findCosts_44 rfl (lv_at hl 2 rfl) ?_
    refine lv_iconst (v := 0) hx hb dX10_findCosts_45 (by decide) ?_
    obtain ⟨r9, μ8, hc10, h⟩ := bC_e h
    refine rc_Vi (rest := []) [.int x1, .int (0 : Int32)] ⟨hx, hb, hml, hown, hts⟩ hK hd hS (c_X10_voters hk_a0 hc10) (cwV 2 hts gX10_findCosts_X10_voters rfl rfl rfl hv_X10_voters ⟨Nat.le_of_ble_eq_true rfl, Nat.le_of_ble_eq_true rfl⟩) hk_a0 rfl rfl rfl rfl hl.1 rfl (Nat.le_of_ble_eq_true rfl) dX10_findCosts_46 ⟨Nat.zero_le _, Nat.zero_le _⟩ (fun H locs hd hS => ?_)
    obtain ⟨r12, μ11, hc13, h⟩ := bC_e h
    refine rc_Si (rest := []) [.int r9] ⟨hx, hb, hml, hown, hts⟩ hK hd hS (c_X10_bits  hc13) (va_cwS 1 hts gX10_findCosts_X10_bits rfl rfl rfl hn_X10_bits ⟨Nat.le_of_ble_eq_true rfl, Nat.le_of_ble_eq_true rfl⟩) rfl hl.1 rfl (Nat.le_of_ble_eq_true rfl) dX10_findCosts_49 ⟨Nat.zero_le _, Nat.zero_le _⟩ (fun H locs hd hS => ?_)
    refine lv_istore_n (lv' := [(3, .int r12), (2, .int r6), (0, .ref (z + a0)), (1, .int x1)]) hx hb dX10_findCosts_52 rfl hl (by decide) rfl (fun ls hl => ?_)
    refine lv_aload_n hx hb dX10_findCosts_53 rfl (lv_at hl 2 rfl) ?_
    refine r_geti hx hb hts (fun w h => List.mem_cons_of_mem _ (List.mem_append_right _ (h))) hown hK hd hk_a0 rfl 7 fs_10_7 (hts (.fieldLink RX10 101 "LevelVotesModel" "persons" "I") (List.mem_of_getElem? (i := 3) rfl)) dX10_findCosts_54 ?_
    refine lv_iload_n hx hb dX10_findCosts_57 rfl (lv_at hl 1 rfl) ?_
    refine lv_isub hx hb dX10_findCosts_58 ?_
    refine lv_iload_n hx hb dX10_findCosts_59 rfl (lv_at hl 0 rfl) ?_
    refine lv_isub hx hb dX10_findCosts_60 ?_
    refine lv_topi (fun v14 ev14 => ?_)
    have h := bI_e ev14 h
    refine lv_istore (lv' := [(4, .int v14), (3, .int r12), (2, .int r6), (0, .ref (z + a0)), (1, .int x1)]) hx hb dX10_findCosts_61 hl (by decide) rfl (fun ls hl => ?_)
    refine lv_iconst (v := 0) hx hb dX10_findCosts_63 (by decide) ?_
    refine lv_istore (lv' := [(5, .int (0 : Int32)), (4, .int v14), (3, .int r12), (2, .int r6), (0, .ref (z + a0)), (1, .int x1)]) hx hb dX10_findCosts_64 hl (by decide) rfl (fun ls hl => ?_)
    exact k_f_X10_findCosts_L66 X hrc25 FU _ _ _ _ _ _ _ _ _ _ hk_a0 hd hS (lv_sub hl [4, 5, 3, 2, 1, 0] rfl) h
def f_X10_findCosts_L25 : Nat → Mm → Nat → Int32 → Option Mm
  | 0 => fun _ _ _ => none
  | n + 1 => fun μ a0 x1 => f_X10_findCosts_L25b (f_X10_findCosts_L25 n) μ a0 x1
theorem k_f_X10_findCosts_L25 {l : Launch} {D : va_G} {cA : Nat → ClassId} {z : Nat} {av : List Value} {p : Program} {e : Env} {s : State} {m : MethodId} {below : List Frame} {meth : Method} {c : Code} {μ' : Mm} (X : Fx D cA RX10 wsX10_findCosts cX10_findCosts 10 none p s m av.toArray meth c) (n : Nat) : HL_X10_findCosts_25 l D cA z av μ' p e s m below meth c (f_X10_findCosts_L25 n) := by
  induction n with
  | zero => intro _ _ _ _ _ _ _ _ _ _ h; have h2 : (none : Option _) = some _ := h; cases h2
  | succ n ih => intro μ H locs ls a0 x1 hk_a0 hd hS hl h; exact k_f_X10_findCosts_L25b X ih hk_a0 hd hS hl h
def f_X10_findCosts_L2b (rc2 : Mm → Nat → Int32 → Option Mm) (μ : Mm) (a0 : Nat) (x1 : Int32) : Option Mm := if (15 : Int32) ≤ x1 then (f_X10_findCosts_L25 FU μ a0 (0 : Int32)) else (bR (μ.2 a0 29) (fun b2 => gd (ckb x1 (ln b2)) (bM (up2 μ.1 b2 (x1).toNatClampNeg (1000 : Int32), μ.2) (fun μ4 => rc2 μ4 a0 (x1 + (1 : Int32))))))
set_option maxRecDepth 100000 in
theorem k_f_X10_findCosts_L2b {l : Launch} {D : va_G} {cA : Nat → ClassId} {z : Nat} {av : List Value} {p : Program} {e : Env} {s : State} {m : MethodId} {below : List Frame} {meth : Method} {c : Code} {μ' : Mm} (X : Fx D cA RX10 wsX10_findCosts cX10_findCosts 10 none p s m av.toArray meth c) {rc2 : Mm → Nat → Int32 → Option Mm} (hrc2 : HL_X10_findCosts_2 l D cA z av μ' p e s m below meth c rc2) {μ : Mm} {a0 : Nat} {x1 : Int32} (hk_a0 : kd a0 = 10) {H : Heap} {locs : List Loc} {ls : Array Slot} (hd : Wd D cA z μ H) (hS : va_S (Az z) s.heap H locs) (hl : lv_has ls 10 [(0, .ref (z + a0)), (1, .int x1)]) (h : f_X10_findCosts_L2b rc2 μ a0 x1 = some μ') : WG l D cA z wsX10_findCosts 1 24 av none μ' p e s m below meth c H locs (F0 m 2 ls []) := by
  obtain ⟨hx, hb, hr, hlk, hml, hown, hts, hK⟩ := id X
  unfold f_X10_findCosts_L2b at h
  refine lv_iload_n hx hb dX10_findCosts_2 rfl (lv_at hl 1 rfl) ?_
  refine lv_bipush (v := 15) hx hb dX10_findCosts_3 (by decide) ?_
  refine lv_icmp_ge (tgt := 23) hx hb dX10_findCosts_5 (by decide) (fun q1 => ?_) (fun q1 => ?_)
  · have h := if_y q1 h
    refine lv_iconst (v := 0) hx hb dX10_findCosts_23 (by decide) ?_
    refine lv_istore_n (lv' := [(1, .int (0 : Int32)), (0, .ref (z + a0))]) hx hb dX10_findCosts_24 rfl hl (by decide) rfl (fun ls hl => ?_)
    exact k_f_X10_findCosts_L25 X FU _ _ _ _ _ _ hk_a0 hd hS (lv_sub hl [1, 0] rfl) h
  · have h := if_n q1 h
    refine lv_aload_n hx hb dX10_findCosts_8 rfl (lv_at hl 0 rfl) ?_
    obtain ⟨b2, hb2, h⟩ := bR_e h
    refine r_getr hx hb hts (fun w h => List.mem_cons_of_mem _ (List.mem_append_right _ (h))) hown hK hd hk_a0 hb2 rfl fs_10_29 (hts (.fieldLink RX10 59 "LevelVotesModel" "costs" "[I") (List.mem_of_getElem? (i := 1) rfl)) dX10_findCosts_9 (fun hq => ?_)
    have hk_b2 : kd b2 = 11 := hq
    refine lv_iload_n hx hb dX10_findCosts_12 rfl (lv_at hl 1 rfl) ?_
    refine lv_sipush (v := 1000) hx hb dX10_findCosts_13 (by decide) ?_
    obtain ⟨g3, h⟩ := gd_e h
    refine r_iast hx hb hK hd hS hk_b2 (ckb_in g3) dX10_findCosts_16 (fun μ4 eμ4 H locs hd hS => ?_)
    have h := bM_e eμ4 h
    refine lv_iinc (v := x1 + (1 : Int32)) (lv' := [(1, .int (x1 + (1 : Int32))), (0, .ref (z + a0))]) hx hb dX10_findCosts_17 hl (k := 1) rfl rfl (by decide) rfl (fun ls hl => ?_)
    refine lv_goto (tgt := 2) hx hb dX10_findCosts_20 (by decide) ?_
    exact hrc2 _ _ _ _ _ _ hk_a0 hd hS (lv_sub hl [1, 0] rfl) h
def f_X10_findCosts_L2 : Nat → Mm → Nat → Int32 → Option Mm
  | 0 => fun _ _ _ => none
  | n + 1 => fun μ a0 x1 => f_X10_findCosts_L2b (f_X10_findCosts_L2 n) μ a0 x1
theorem k_f_X10_findCosts_L2 {l : Launch} {D : va_G} {cA : Nat → ClassId} {z : Nat} {av : List Value} {p : Program} {e : Env} {s : State} {m : MethodId} {below : List Frame} {meth : Method} {c : Code} {μ' : Mm} (X : Fx D cA RX10 wsX10_findCosts cX10_findCosts 10 none p s m av.toArray meth c) (n : Nat) : HL_X10_findCosts_2 l D cA z av μ' p e s m below meth c (f_X10_findCosts_L2 n) := by
  induction n with
  | zero => intro _ _ _ _ _ _ _ _ _ _ h; have h2 : (none : Option _) = some _ := h; cases h2
  | succ n ih => intro μ H locs ls a0 x1 hk_a0 hd hS hl h; exact k_f_X10_findCosts_L2b X ih hk_a0 hd hS hl h
def f_X10_findCosts (μ : Mm) (a0 : Nat) : Option Mm := f_X10_findCosts_L2 FU μ a0 (0 : Int32)
set_option maxRecDepth 100000 in
theorem c_X10_findCosts {l : Launch} {D : va_G} {cA : Nat → ClassId} {z : Nat} {μ : Mm} {a0 : Nat} {μ' : Mm} (hk_a0 : kd a0 = 10) (h : f_X10_findCosts μ a0 = some μ') : Ct l D cA z yX10_findCosts wsX10_findCosts 1 24 [.ref (z + a0)] μ none μ' := by
  refine m_in (cc := cX10_findCosts) (maxL := 10) (ret := none) (own := RX10) (by decide) rfl rfl (Nat.le_of_ble_eq_true rfl) ?_
  intro p e s m below meth c ls X hd hS hl
  obtain ⟨hx, hb, hr, hlk, hml, hown, hts, hK⟩ := id X
  have hl : lv_has ls 10 [(0, .ref (z + a0))] := hl
  unfold f_X10_findCosts at h
  refine lv_iconst (v := 0) hx hb dX10_findCosts_0 (by decide) ?_
  refine lv_istore_n (lv' := [(1, .int (0 : Int32)), (0, .ref (z + a0))]) hx hb dX10_findCosts_1 rfl hl (by decide) rfl (fun ls hl => ?_)
  exact k_f_X10_findCosts_L2 X FU _ _ _ _ _ _ hk_a0 hd hS (lv_sub hl [1, 0] rfl) h
