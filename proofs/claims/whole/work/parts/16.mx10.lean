theorem hn_X10_in : yX10_in.cls ≠ "java/lang/invoke/MethodHandle" ∧ yX10_in.cls ≠ "java/lang/invoke/VarHandle" ∧ (parseMethodDescriptor yX10_in.desc).map (fun d => d.parameters.length) = some 3 := by decide +kernel
def f_X10_in (μ : Mm) (x0 : Int64) (x2 : Int64) (x4 : Int64) : Option (Int32 × Mm) := if (lg_cmp x0 x2) < 0 then (some ((0 : Int32), μ)) else (if 0 < (lg_cmp x0 x4) then (some ((0 : Int32), μ)) else (some ((1 : Int32), μ)))
set_option maxRecDepth 100000 in
theorem c_X10_in {l : Launch} {D : va_G} {cA : Nat → ClassId} {z : Nat} {μ : Mm} {x0 : Int64} {x2 : Int64} {x4 : Int64} {r : Int32} {μ' : Mm} (h : f_X10_in μ x0 x2 x4 = some (r, μ')) : Ct l D cA z yX10_in wsX10_in 0 0 [.long x0, .long x2, .long x4] μ (some (.int r)) μ' := by
  refine m_in (cc := cX10_in) (maxL := 6) (ret := (some .boolean)) (own := RX10) (by decide) rfl rfl (Nat.le_of_ble_eq_true rfl) ?_
  intro p e s m below meth c ls X hd hS hl
  obtain ⟨hx, hb, hr, hlk, hml, hown, hts, hK⟩ := id X
  have hl : lv_has ls 6 [(0, .long x0), (2, .long x2), (4, .long x4)] := hl
  unfold f_X10_in at h
  refine lv_lload_n hx hb dX10_in_0 rfl (lv_at hl 0 rfl) ?_
  refine lv_lload_n hx hb dX10_in_1 rfl (lv_at hl 1 rfl) ?_
  refine W.lcmp hx hb dX10_in_2 ?_
  refine lv_if_lt (tgt := 17) hx hb dX10_in_3 (by decide) (fun q1 => ?_) (fun q1 => ?_)
  · have h := if_y q1 h
    refine lv_iconst (v := 0) hx hb dX10_in_17 (by decide) ?_
    obtain ⟨rfl, rfl⟩ := so_e h
    exact rt_z hx hb hr rfl hlk hd hS dX10_in_18
  · have h := if_n q1 h
    refine lv_lload_n hx hb dX10_in_6 rfl (lv_at hl 0 rfl) ?_
    refine lv_lload hx hb dX10_in_7 (lv_at hl 2 rfl) ?_
    refine W.lcmp hx hb dX10_in_9 ?_
    refine lv_if_gt (tgt := 17) hx hb dX10_in_10 (by decide) (fun q2 => ?_) (fun q2 => ?_)
    · have h := if_y q2 h
      refine lv_iconst (v := 0) hx hb dX10_in_17 (by decide) ?_
      obtain ⟨rfl, rfl⟩ := so_e h
      exact rt_z hx hb hr rfl hlk hd hS dX10_in_18
    · have h := if_n q2 h
      refine lv_iconst (v := 1) hx hb dX10_in_13 (by decide) ?_
      refine lv_goto (tgt := 18) hx hb dX10_in_14 (by decide) ?_
      obtain ⟨rfl, rfl⟩ := so_e h
      exact rt_z hx hb hr rfl hlk hd hS dX10_in_18
theorem hn_X10_has : yX10_has.cls ≠ "java/lang/invoke/MethodHandle" ∧ yX10_has.cls ≠ "java/lang/invoke/VarHandle" ∧ (parseMethodDescriptor yX10_has.desc).map (fun d => d.parameters.length) = some 2 := by decide +kernel
def f_X10_has (μ : Mm) (x0 : Int32) (x1 : Int32) : Option (Int32 × Mm) := if ((x0 >>> (x1 &&& 31)) &&& (1 : Int32)) = (1 : Int32) then (some ((1 : Int32), μ)) else (some ((0 : Int32), μ))
set_option maxRecDepth 100000 in
theorem c_X10_has {l : Launch} {D : va_G} {cA : Nat → ClassId} {z : Nat} {μ : Mm} {x0 : Int32} {x1 : Int32} {r : Int32} {μ' : Mm} (h : f_X10_has μ x0 x1 = some (r, μ')) : Ct l D cA z yX10_has wsX10_has 0 0 [.int x0, .int x1] μ (some (.int r)) μ' := by
  refine m_in (cc := cX10_has) (maxL := 2) (ret := (some .boolean)) (own := RX10) (by decide) rfl rfl (Nat.le_of_ble_eq_true rfl) ?_
  intro p e s m below meth c ls X hd hS hl
  obtain ⟨hx, hb, hr, hlk, hml, hown, hts, hK⟩ := id X
  have hl : lv_has ls 2 [(0, .int x0), (1, .int x1)] := hl
  unfold f_X10_has at h
  refine lv_iload_n hx hb dX10_has_0 rfl (lv_at hl 0 rfl) ?_
  refine lv_iload_n hx hb dX10_has_1 rfl (lv_at hl 1 rfl) ?_
  refine lv_ishr hx hb dX10_has_2 ?_
  refine lv_iconst (v := 1) hx hb dX10_has_3 (by decide) ?_
  refine lv_iand hx hb dX10_has_4 ?_
  refine lv_iconst (v := 1) hx hb dX10_has_5 (by decide) ?_
  refine lv_icmp_ne (tgt := 13) hx hb dX10_has_6 (by decide) (fun q1 => ?_) (fun q1 => ?_)
  · have h := if_n q1 h
    refine lv_iconst (v := 0) hx hb dX10_has_13 (by decide) ?_
    obtain ⟨rfl, rfl⟩ := so_e h
    exact rt_z hx hb hr rfl hlk hd hS dX10_has_14
  · have h := if_y q1 h
    refine lv_iconst (v := 1) hx hb dX10_has_9 (by decide) ?_
    refine lv_goto (tgt := 14) hx hb dX10_has_10 (by decide) ?_
    obtain ⟨rfl, rfl⟩ := so_e h
    exact rt_z hx hb hr rfl hlk hd hS dX10_has_14
theorem hn_X10_bits : yX10_bits.cls ≠ "java/lang/invoke/MethodHandle" ∧ yX10_bits.cls ≠ "java/lang/invoke/VarHandle" ∧ (parseMethodDescriptor yX10_bits.desc).map (fun d => d.parameters.length) = some 1 := by decide +kernel
abbrev HL_X10_bits_4 (l : Launch) (D : va_G) (cA : Nat → ClassId) (z : Nat) (av : List Value) (r : Int32) (μ' : Mm) (p : Program) (e : Env) (s : State) (m : MethodId) (below : List Frame) (meth : Method) (c : Code) (rc : Mm → Int32 → Int32 → Int32 → Option (Int32 × Mm)) : Prop := ∀ (μ : Mm) (H : Heap) (locs : List Loc) (ls : Array Slot) (x0 : Int32) (x1 : Int32) (x2 : Int32), Wd D cA z μ H → va_S (Az z) s.heap H locs → lv_has ls 3 [(0, .int x0), (1, .int x1), (2, .int x2)] → rc μ x0 x1 x2 = some (r, μ') → WG l D cA z wsX10_bits 0 0 av (some (.int r)) μ' p e s m below meth c H locs (F0 m 4 ls [])
def f_X10_bits_L4b (rc4 : Mm → Int32 → Int32 → Int32 → Option (Int32 × Mm)) (μ : Mm) (x0 : Int32) (x1 : Int32) (x2 : Int32) : Option (Int32 × Mm) := if (7 : Int32) ≤ x2 then (some (x1, μ)) else (bI (x1 + ((x0 >>> (x2 &&& 31)) &&& (1 : Int32))) (fun v2 => rc4 μ x0 v2 (x2 + (1 : Int32))))
set_option maxRecDepth 100000 in
theorem k_f_X10_bits_L4b {l : Launch} {D : va_G} {cA : Nat → ClassId} {z : Nat} {av : List Value} {p : Program} {e : Env} {s : State} {m : MethodId} {below : List Frame} {meth : Method} {c : Code} {r : Int32} {μ' : Mm} (X : Fx D cA RX10 wsX10_bits cX10_bits 3 (some .int) p s m av.toArray meth c) {rc4 : Mm → Int32 → Int32 → Int32 → Option (Int32 × Mm)} (hrc4 : HL_X10_bits_4 l D cA z av r μ' p e s m below meth c rc4) {μ : Mm} {x0 : Int32} {x1 : Int32} {x2 : Int32} {H : Heap} {locs : List Loc} {ls : Array Slot} (hd : Wd D cA z μ H) (hS : va_S (Az z) s.heap H locs) (hl : lv_has ls 3 [(0, .int x0), (1, .int x1), (2, .int x2)]) (h : f_X10_bits_L4b rc4 μ x0 x1 x2 = some (r, μ')) : WG l D cA z wsX10_bits 0 0 av (some (.int r)) μ' p e s m below meth c H locs (F0 m 4 ls []) := by
  obtain ⟨hx, hb, hr, hlk, hml, hown, hts, hK⟩ := id X
  unfold f_X10_bits_L4b at h
  refine lv_iload_n hx hb dX10_bits_4 rfl (lv_at hl 2 rfl) ?_
  refine lv_bipush (v := 7) hx hb dX10_bits_5 (by decide) ?_
  refine lv_icmp_ge (tgt := 24) hx hb dX10_bits_7 (by decide) (fun q1 => ?_) (fun q1 => ?_)
  · have h := if_y q1 h
    refine lv_iload_n hx hb dX10_bits_24 rfl (lv_at hl 1 rfl) ?_
    obtain ⟨rfl, rfl⟩ := so_e h
    exact rt_i hx hb hr hlk hd hS dX10_bits_25
  · have h := if_n q1 h
    refine lv_iload_n hx hb dX10_bits_10 rfl (lv_at hl 1 rfl) ?_
    refine lv_iload_n hx hb dX10_bits_11 rfl (lv_at hl 0 rfl) ?_
    refine lv_iload_n hx hb dX10_bits_12 rfl (lv_at hl 2 rfl) ?_
    refine lv_ishr hx hb dX10_bits_13 ?_
    refine lv_iconst (v := 1) hx hb dX10_bits_14 (by decide) ?_
    refine lv_iand hx hb dX10_bits_15 ?_
    refine lv_iadd hx hb dX10_bits_16 ?_
    refine lv_topi (fun v2 ev2 => ?_)
    have h := bI_e ev2 h
    refine lv_istore_n (lv' := [(1, .int v2), (0, .int x0), (2, .int x2)]) hx hb dX10_bits_17 rfl hl (by decide) rfl (fun ls hl => ?_)
    refine lv_iinc (v := x2 + (1 : Int32)) (lv' := [(2, .int (x2 + (1 : Int32))), (1, .int v2), (0, .int x0)]) hx hb dX10_bits_18 hl (k := 2) rfl rfl (by decide) rfl (fun ls hl => ?_)
    refine lv_goto (tgt := 4) hx hb dX10_bits_21 (by decide) ?_
    exact hrc4 _ _ _ _ _ _ _  hd hS (lv_sub hl [2, 1, 0] rfl) h
def f_X10_bits_L4 : Nat → Mm → Int32 → Int32 → Int32 → Option (Int32 × Mm)
  | 0 => fun _ _ _ _ => none
  | n + 1 => fun μ x0 x1 x2 => f_X10_bits_L4b (f_X10_bits_L4 n) μ x0 x1 x2
theorem k_f_X10_bits_L4 {l : Launch} {D : va_G} {cA : Nat → ClassId} {z : Nat} {av : List Value} {p : Program} {e : Env} {s : State} {m : MethodId} {below : List Frame} {meth : Method} {c : Code} {r : Int32} {μ' : Mm} (X : Fx D cA RX10 wsX10_bits cX10_bits 3 (some .int) p s m av.toArray meth c) (n : Nat) : HL_X10_bits_4 l D cA z av r μ' p e s m below meth c (f_X10_bits_L4 n) := by
  induction n with
  | zero => intro _ _ _ _ _ _ _ _ _ _ h; have h2 : (none : Option _) = some _ := h; cases h2
  | succ n ih => intro μ H locs ls x0 x1 x2  hd hS hl h; exact k_f_X10_bits_L4b X ih  hd hS hl h
def f_X10_bits (μ : Mm) (x0 : Int32) : Option (Int32 × Mm) := f_X10_bits_L4 FU μ x0 (0 : Int32) (0 : Int32)
set_option maxRecDepth 100000 in
theorem c_X10_bits {l : Launch} {D : va_G} {cA : Nat → ClassId} {z : Nat} {μ : Mm} {x0 : Int32} {r : Int32} {μ' : Mm} (h : f_X10_bits μ x0 = some (r, μ')) : Ct l D cA z yX10_bits wsX10_bits 0 0 [.int x0] μ (some (.int r)) μ' := by
  refine m_in (cc := cX10_bits) (maxL := 3) (ret := (some .int)) (own := RX10) (by decide) rfl rfl (Nat.le_of_ble_eq_true rfl) ?_
  intro p e s m below meth c ls X hd hS hl
  obtain ⟨hx, hb, hr, hlk, hml, hown, hts, hK⟩ := id X
  have hl : lv_has ls 3 [(0, .int x0)] := hl
  unfold f_X10_bits at h
  refine lv_iconst (v := 0) hx hb dX10_bits_0 (by decide) ?_
  refine lv_istore_n (lv' := [(1, .int (0 : Int32)), (0, .int x0)]) hx hb dX10_bits_1 rfl hl (by decide) rfl (fun ls hl => ?_)
  refine lv_iconst (v := 0) hx hb dX10_bits_2 (by decide) ?_
  refine lv_istore_n (lv' := [(2, .int (0 : Int32)), (1, .int (0 : Int32)), (0, .int x0)]) hx hb dX10_bits_3 rfl hl (by decide) rfl (fun ls hl => ?_)
  exact k_f_X10_bits_L4 X FU _ _ _ _ _ _ _  hd hS (lv_sub hl [2, 1, 0] rfl) h
theorem hv_X10_cells : yX10_cells.cls = RX10 ∧ yX10_cells.cls ≠ "java/lang/invoke/MethodHandle" ∧ yX10_cells.cls ≠ "java/lang/invoke/VarHandle" ∧ (parseMethodDescriptor yX10_cells.desc).map (fun d => d.parameters.length) = some 0 := by decide +kernel
def f_X10_cells (μ : Mm) (a0 : Nat) : Option (Int32 × Mm) := some ((μ.1 a0 0) * (μ.1 a0 1), μ)
set_option maxRecDepth 100000 in
theorem c_X10_cells {l : Launch} {D : va_G} {cA : Nat → ClassId} {z : Nat} {μ : Mm} {a0 : Nat} {r : Int32} {μ' : Mm} (hk_a0 : kd a0 = 10) (h : f_X10_cells μ a0 = some (r, μ')) : Ct l D cA z yX10_cells wsX10_cells 0 0 [.ref (z + a0)] μ (some (.int r)) μ' := by
  refine m_in (cc := cX10_cells) (maxL := 1) (ret := (some .int)) (own := RX10) (by decide) rfl rfl (Nat.le_of_ble_eq_true rfl) ?_
  intro p e s m below meth c ls X hd hS hl
  obtain ⟨hx, hb, hr, hlk, hml, hown, hts, hK⟩ := id X
  have hl : lv_has ls 1 [(0, .ref (z + a0))] := hl
  unfold f_X10_cells at h
  refine lv_aload_n hx hb dX10_cells_0 rfl (lv_at hl 0 rfl) ?_
  refine r_geti hx hb hts (fun w h => List.mem_cons_of_mem _ (List.mem_append_right _ (h))) hown hK hd hk_a0 rfl 0 fs_10_0 (hts (.fieldLink RX10 84 "LevelVotesModel" "columns" "I") (List.mem_of_getElem? (i := 1) rfl)) dX10_cells_1 ?_
  refine lv_aload_n hx hb dX10_cells_4 rfl (lv_at hl 0 rfl) ?_
  refine r_geti hx hb hts (fun w h => List.mem_cons_of_mem _ (List.mem_append_right _ (h))) hown hK hd hk_a0 rfl 1 fs_10_1 (hts (.fieldLink RX10 87 "LevelVotesModel" "rows" "I") (List.mem_of_getElem? (i := 2) rfl)) dX10_cells_5 ?_
  refine lv_imul hx hb dX10_cells_8 ?_
  obtain ⟨rfl, rfl⟩ := so_e h
  exact rt_i hx hb hr hlk hd hS dX10_cells_9
theorem hv_X10_isCell : yX10_isCell.cls = RX10 ∧ yX10_isCell.cls ≠ "java/lang/invoke/MethodHandle" ∧ yX10_isCell.cls ≠ "java/lang/invoke/VarHandle" ∧ (parseMethodDescriptor yX10_isCell.desc).map (fun d => d.parameters.length) = some 1 := by decide +kernel
def f_X10_isCell (μ : Mm) (a0 : Nat) (x1 : Int32) : Option (Int32 × Mm) := bC (f_X10_cells μ a0) (fun r2 μ1 => bC (f_X10_in μ1 (x1.toInt64) (0 : Int64) ((r2 - (1 : Int32)).toInt64)) (fun r5 μ4 => gd (ckz r5) (some (r5, μ4))))
set_option maxRecDepth 100000 in
theorem c_X10_isCell {l : Launch} {D : va_G} {cA : Nat → ClassId} {z : Nat} {μ : Mm} {a0 : Nat} {x1 : Int32} {r : Int32} {μ' : Mm} (hk_a0 : kd a0 = 10) (h : f_X10_isCell μ a0 x1 = some (r, μ')) : Ct l D cA z yX10_isCell wsX10_isCell 1 25 [.ref (z + a0), .int x1] μ (some (.int r)) μ' := by
  refine m_in (cc := cX10_isCell) (maxL := 2) (ret := (some .boolean)) (own := RX10) (by decide) rfl rfl (Nat.le_of_ble_eq_true rfl) ?_
  intro p e s m below meth c ls X hd hS hl
  obtain ⟨hx, hb, hr, hlk, hml, hown, hts, hK⟩ := id X
  have hl : lv_has ls 2 [(0, .ref (z + a0)), (1, .int x1)] := hl
  unfold f_X10_isCell at h
  refine lv_iload_n hx hb dX10_isCell_0 rfl (lv_at hl 1 rfl) ?_
  refine lv_i2l hx hb dX10_isCell_1 rfl ?_
  refine lv_lconst (v := 0) hx hb dX10_isCell_2 (by decide) ?_
  refine lv_aload_n hx hb dX10_isCell_3 rfl (lv_at hl 0 rfl) ?_
  obtain ⟨r2, μ1, hc3, h⟩ := bC_e h
  refine rc_Vi (rest := [.long (0 : Int64), .long (x1.toInt64)]) [] ⟨hx, hb, hml, hown, hts⟩ hK hd hS (c_X10_cells hk_a0 hc3) (cwV 0 hts gX10_isCell_X10_cells rfl rfl rfl hv_X10_cells ⟨Nat.le_of_ble_eq_true rfl, Nat.le_of_ble_eq_true rfl⟩) hk_a0 rfl rfl rfl rfl hl.1 rfl (Nat.le_of_ble_eq_true rfl) dX10_isCell_4 ⟨Nat.zero_le _, Nat.zero_le _⟩ (fun H locs hd hS => ?_)
  refine lv_iconst (v := 1) hx hb dX10_isCell_7 (by decide) ?_
  refine lv_isub hx hb dX10_isCell_8 ?_
  refine lv_i2l hx hb dX10_isCell_9 rfl ?_
  obtain ⟨r5, μ4, hc6, h⟩ := bC_e h
  refine rc_Si (rest := []) [.long (x1.toInt64), .long (0 : Int64), .long ((r2 - (1 : Int32)).toInt64)] ⟨hx, hb, hml, hown, hts⟩ hK hd hS (c_X10_in  hc6) (va_cwS 3 hts gX10_isCell_X10_in rfl rfl rfl hn_X10_in ⟨Nat.le_of_ble_eq_true rfl, Nat.le_of_ble_eq_true rfl⟩) rfl hl.1 rfl (Nat.le_of_ble_eq_true rfl) dX10_isCell_10 ⟨Nat.zero_le _, Nat.zero_le _⟩ (fun H locs hd hS => ?_)
  obtain ⟨g7, h⟩ := gd_e h
  obtain ⟨rfl, rfl⟩ := so_e h
  exact rt_z hx hb hr (ckz_nar g7) hlk hd hS dX10_isCell_13
theorem hv_X10_isItem : yX10_isItem.cls = RX10 ∧ yX10_isItem.cls ≠ "java/lang/invoke/MethodHandle" ∧ yX10_isItem.cls ≠ "java/lang/invoke/VarHandle" ∧ (parseMethodDescriptor yX10_isItem.desc).map (fun d => d.parameters.length) = some 1 := by decide +kernel
def f_X10_isItem (μ : Mm) (a0 : Nat) (x1 : Int32) : Option (Int32 × Mm) := bC (f_X10_in μ (x1.toInt64) (0 : Int64) (((μ.1 a0 3) - (1 : Int32)).toInt64)) (fun r2 μ1 => gd (ckz r2) (some (r2, μ1)))
set_option maxRecDepth 100000 in
theorem c_X10_isItem {l : Launch} {D : va_G} {cA : Nat → ClassId} {z : Nat} {μ : Mm} {a0 : Nat} {x1 : Int32} {r : Int32} {μ' : Mm} (hk_a0 : kd a0 = 10) (h : f_X10_isItem μ a0 x1 = some (r, μ')) : Ct l D cA z yX10_isItem wsX10_isItem 1 25 [.ref (z + a0), .int x1] μ (some (.int r)) μ' := by
  refine m_in (cc := cX10_isItem) (maxL := 2) (ret := (some .boolean)) (own := RX10) (by decide) rfl rfl (Nat.le_of_ble_eq_true rfl) ?_
  intro p e s m below meth c ls X hd hS hl
  obtain ⟨hx, hb, hr, hlk, hml, hown, hts, hK⟩ := id X
  have hl : lv_has ls 2 [(0, .ref (z + a0)), (1, .int x1)] := hl
  unfold f_X10_isItem at h
  refine lv_iload_n hx hb dX10_isItem_0 rfl (lv_at hl 1 rfl) ?_
  refine lv_i2l hx hb dX10_isItem_1 rfl ?_
  refine lv_lconst (v := 0) hx hb dX10_isItem_2 (by decide) ?_
  refine lv_aload_n hx hb dX10_isItem_3 rfl (lv_at hl 0 rfl) ?_
  refine r_geti hx hb hts (fun w h => List.mem_cons_of_mem _ (List.mem_append_right _ (h))) hown hK hd hk_a0 rfl 3 fs_10_3 (hts (.fieldLink RX10 98 "LevelVotesModel" "items" "I") (List.mem_of_getElem? (i := 1) rfl)) dX10_isItem_4 ?_
  refine lv_iconst (v := 1) hx hb dX10_isItem_7 (by decide) ?_
  refine lv_isub hx hb dX10_isItem_8 ?_
  refine lv_i2l hx hb dX10_isItem_9 rfl ?_
  obtain ⟨r2, μ1, hc3, h⟩ := bC_e h
  refine rc_Si (rest := []) [.long (x1.toInt64), .long (0 : Int64), .long (((μ.1 a0 3) - (1 : Int32)).toInt64)] ⟨hx, hb, hml, hown, hts⟩ hK hd hS (c_X10_in  hc3) (va_cwS 3 hts gX10_isItem_X10_in rfl rfl rfl hn_X10_in ⟨Nat.le_of_ble_eq_true rfl, Nat.le_of_ble_eq_true rfl⟩) rfl hl.1 rfl (Nat.le_of_ble_eq_true rfl) dX10_isItem_10 ⟨Nat.zero_le _, Nat.zero_le _⟩ (fun H locs hd hS => ?_)
  obtain ⟨g4, h⟩ := gd_e h
  obtain ⟨rfl, rfl⟩ := so_e h
  exact rt_z hx hb hr (ckz_nar g4) hlk hd hS dX10_isItem_13
theorem hv_X10_isPerson : yX10_isPerson.cls = RX10 ∧ yX10_isPerson.cls ≠ "java/lang/invoke/MethodHandle" ∧ yX10_isPerson.cls ≠ "java/lang/invoke/VarHandle" ∧ (parseMethodDescriptor yX10_isPerson.desc).map (fun d => d.parameters.length) = some 1 := by decide +kernel
def f_X10_isPerson (μ : Mm) (a0 : Nat) (x1 : Int32) : Option (Int32 × Mm) := bC (f_X10_in μ (x1.toInt64) (0 : Int64) (((μ.1 a0 7) - (1 : Int32)).toInt64)) (fun r2 μ1 => gd (ckz r2) (some (r2, μ1)))
set_option maxRecDepth 100000 in
theorem c_X10_isPerson {l : Launch} {D : va_G} {cA : Nat → ClassId} {z : Nat} {μ : Mm} {a0 : Nat} {x1 : Int32} {r : Int32} {μ' : Mm} (hk_a0 : kd a0 = 10) (h : f_X10_isPerson μ a0 x1 = some (r, μ')) : Ct l D cA z yX10_isPerson wsX10_isPerson 1 25 [.ref (z + a0), .int x1] μ (some (.int r)) μ' := by
  refine m_in (cc := cX10_isPerson) (maxL := 2) (ret := (some .boolean)) (own := RX10) (by decide) rfl rfl (Nat.le_of_ble_eq_true rfl) ?_
  intro p e s m below meth c ls X hd hS hl
  obtain ⟨hx, hb, hr, hlk, hml, hown, hts, hK⟩ := id X
  have hl : lv_has ls 2 [(0, .ref (z + a0)), (1, .int x1)] := hl
  unfold f_X10_isPerson at h
  refine lv_iload_n hx hb dX10_isPerson_0 rfl (lv_at hl 1 rfl) ?_
  refine lv_i2l hx hb dX10_isPerson_1 rfl ?_
  refine lv_lconst (v := 0) hx hb dX10_isPerson_2 (by decide) ?_
  refine lv_aload_n hx hb dX10_isPerson_3 rfl (lv_at hl 0 rfl) ?_
  refine r_geti hx hb hts (fun w h => List.mem_cons_of_mem _ (List.mem_append_right _ (h))) hown hK hd hk_a0 rfl 7 fs_10_7 (hts (.fieldLink RX10 101 "LevelVotesModel" "persons" "I") (List.mem_of_getElem? (i := 1) rfl)) dX10_isPerson_4 ?_
  refine lv_iconst (v := 1) hx hb dX10_isPerson_7 (by decide) ?_
  refine lv_isub hx hb dX10_isPerson_8 ?_
  refine lv_i2l hx hb dX10_isPerson_9 rfl ?_
  obtain ⟨r2, μ1, hc3, h⟩ := bC_e h
  refine rc_Si (rest := []) [.long (x1.toInt64), .long (0 : Int64), .long (((μ.1 a0 7) - (1 : Int32)).toInt64)] ⟨hx, hb, hml, hown, hts⟩ hK hd hS (c_X10_in  hc3) (va_cwS 3 hts gX10_isPerson_X10_in rfl rfl rfl hn_X10_in ⟨Nat.le_of_ble_eq_true rfl, Nat.le_of_ble_eq_true rfl⟩) rfl hl.1 rfl (Nat.le_of_ble_eq_true rfl) dX10_isPerson_10 ⟨Nat.zero_le _, Nat.zero_le _⟩ (fun H locs hd hS => ?_)
  obtain ⟨g4, h⟩ := gd_e h
  obtain ⟨rfl, rfl⟩ := so_e h
  exact rt_z hx hb hr (ckz_nar g4) hlk hd hS dX10_isPerson_13
theorem hv_X10_feed : yX10_feed.cls = RX10 ∧ yX10_feed.cls ≠ "java/lang/invoke/MethodHandle" ∧ yX10_feed.cls ≠ "java/lang/invoke/VarHandle" ∧ (parseMethodDescriptor yX10_feed.desc).map (fun d => d.parameters.length) = some 1 := by decide +kernel
def f_X10_feed (μ : Mm) (a0 : Nat) (x1 : Int32) : Option (Int32 × Mm) := bC (f_X10_in μ (x1.toInt64) (0 : Int64) (255 : Int64)) (fun r2 μ1 => if r2 = 0 then (some ((-1000000002 : Int32), μ1)) else (if (μ1.1 a0 11) = (240 : Int32) then (some ((-1000000004 : Int32), μ1)) else (bR (μ1.2 a0 10) (fun b6 => gd (ckb (μ1.1 a0 11) (ln b6)) (bM (up2 μ1.1 b6 (μ1.1 a0 11).toNatClampNeg x1, μ1.2) (fun μ8 => bM (up2 μ8.1 a0 11 ((μ8.1 a0 11) + (1 : Int32)), μ8.2) (fun μ9 => some (μ9.1 a0 11, μ9))))))))
set_option maxRecDepth 100000 in
theorem c_X10_feed {l : Launch} {D : va_G} {cA : Nat → ClassId} {z : Nat} {μ : Mm} {a0 : Nat} {x1 : Int32} {r : Int32} {μ' : Mm} (hk_a0 : kd a0 = 10) (h : f_X10_feed μ a0 x1 = some (r, μ')) : Ct l D cA z yX10_feed wsX10_feed 1 25 [.ref (z + a0), .int x1] μ (some (.int r)) μ' := by
  refine m_in (cc := cX10_feed) (maxL := 2) (ret := (some .int)) (own := RX10) (by decide) rfl rfl (Nat.le_of_ble_eq_true rfl) ?_
  intro p e s m below meth c ls X hd hS hl
  obtain ⟨hx, hb, hr, hlk, hml, hown, hts, hK⟩ := id X
  have hl : lv_has ls 2 [(0, .ref (z + a0)), (1, .int x1)] := hl
  unfold f_X10_feed at h
  refine lv_iload_n hx hb dX10_feed_0 rfl (lv_at hl 1 rfl) ?_
  refine lv_i2l hx hb dX10_feed_1 rfl ?_
  refine lv_lconst (v := 0) hx hb dX10_feed_2 (by decide) ?_
  refine lv_ldc2 (v := 255) hx hb hown (hts (.constantLong RX10 104 (255)) (List.mem_of_getElem? (i := 1) rfl)) dX10_feed_3 ?_
  obtain ⟨r2, μ1, hc3, h⟩ := bC_e h
  refine rc_Si (rest := []) [.long (x1.toInt64), .long (0 : Int64), .long (255 : Int64)] ⟨hx, hb, hml, hown, hts⟩ hK hd hS (c_X10_in  hc3) (va_cwS 3 hts gX10_feed_X10_in rfl rfl rfl hn_X10_in ⟨Nat.le_of_ble_eq_true rfl, Nat.le_of_ble_eq_true rfl⟩) rfl hl.1 rfl (Nat.le_of_ble_eq_true rfl) dX10_feed_6 ⟨Nat.zero_le _, Nat.zero_le _⟩ (fun H locs hd hS => ?_)
  refine lv_if_ne (tgt := 15) hx hb dX10_feed_9 (by decide) (fun q4 => ?_) (fun q4 => ?_)
  · have h := if_n q4 h
    refine lv_aload_n hx hb dX10_feed_15 rfl (lv_at hl 0 rfl) ?_
    refine r_geti hx hb hts (fun w h => List.mem_cons_of_mem _ (List.mem_append_right _ (h))) hown hK hd hk_a0 rfl 11 fs_10_11 (hts (.fieldLink RX10 107 "LevelVotesModel" "texted" "I") (List.mem_of_getElem? (i := 3) rfl)) dX10_feed_16 ?_
    refine lv_sipush (v := 240) hx hb dX10_feed_19 (by decide) ?_
    refine lv_icmp_ne (tgt := 28) hx hb dX10_feed_22 (by decide) (fun q5 => ?_) (fun q5 => ?_)
    · have h := if_n q5 h
      refine lv_aload_n hx hb dX10_feed_28 rfl (lv_at hl 0 rfl) ?_
      obtain ⟨b6, hb6, h⟩ := bR_e h
      refine r_getr hx hb hts (fun w h => List.mem_cons_of_mem _ (List.mem_append_right _ (h))) hown hK hd hk_a0 hb6 rfl fs_10_10 (hts (.fieldLink RX10 25 "LevelVotesModel" "text" "[I") (List.mem_of_getElem? (i := 5) rfl)) dX10_feed_29 (fun hq => ?_)
      have hk_b6 : kd b6 = 11 := hq
      refine lv_aload_n hx hb dX10_feed_32 rfl (lv_at hl 0 rfl) ?_
      refine r_geti hx hb hts (fun w h => List.mem_cons_of_mem _ (List.mem_append_right _ (h))) hown hK hd hk_a0 rfl 11 fs_10_11 (hts (.fieldLink RX10 107 "LevelVotesModel" "texted" "I") (List.mem_of_getElem? (i := 3) rfl)) dX10_feed_33 ?_
      refine lv_iload_n hx hb dX10_feed_36 rfl (lv_at hl 1 rfl) ?_
      obtain ⟨g7, h⟩ := gd_e h
      refine r_iast hx hb hK hd hS hk_b6 (ckb_in g7) dX10_feed_37 (fun μ8 eμ8 H locs hd hS => ?_)
      have h := bM_e eμ8 h
      refine lv_aload_n hx hb dX10_feed_38 rfl (lv_at hl 0 rfl) ?_
      refine lv_dup hx hb dX10_feed_39 rfl ?_
      refine r_geti hx hb hts (fun w h => List.mem_cons_of_mem _ (List.mem_append_right _ (h))) hown hK hd hk_a0 rfl 11 fs_10_11 (hts (.fieldLink RX10 107 "LevelVotesModel" "texted" "I") (List.mem_of_getElem? (i := 3) rfl)) dX10_feed_40 ?_
      refine lv_iconst (v := 1) hx hb dX10_feed_43 (by decide) ?_
      refine lv_iadd hx hb dX10_feed_44 ?_
      refine r_puti hx hb hts (fun w h => List.mem_cons_of_mem _ (List.mem_append_right _ (h))) tyX10 tyX10_ok nmX10 hown hK hd hS hk_a0 rfl 11 fs_10_11 rfl (hts (.fieldLink RX10 107 "LevelVotesModel" "texted" "I") (List.mem_of_getElem? (i := 3) rfl)) (vp_nar_int _) rfl dX10_feed_45 (fun μ9 eμ9 H locs hd hS => ?_)
      have h := bM_e eμ9 h
      refine lv_aload_n hx hb dX10_feed_48 rfl (lv_at hl 0 rfl) ?_
      refine r_geti hx hb hts (fun w h => List.mem_cons_of_mem _ (List.mem_append_right _ (h))) hown hK hd hk_a0 rfl 11 fs_10_11 (hts (.fieldLink RX10 107 "LevelVotesModel" "texted" "I") (List.mem_of_getElem? (i := 3) rfl)) dX10_feed_49 ?_
      obtain ⟨rfl, rfl⟩ := so_e h
      exact rt_i hx hb hr hlk hd hS dX10_feed_52
    · have h := if_y q5 h
      refine lv_ldc (v := -1000000004) hx hb hown (hts (.constant RX10 110 (-1000000004)) (List.mem_of_getElem? (i := 4) rfl)) dX10_feed_25 ?_
      obtain ⟨rfl, rfl⟩ := so_e h
      exact rt_i hx hb hr hlk hd hS dX10_feed_27
  · have h := if_y q4 h
    refine lv_ldc (v := -1000000002) hx hb hown (hts (.constant RX10 106 (-1000000002)) (List.mem_of_getElem? (i := 2) rfl)) dX10_feed_12 ?_
    obtain ⟨rfl, rfl⟩ := so_e h
    exact rt_i hx hb hr hlk hd hS dX10_feed_14
theorem hv_X10_here : yX10_here.cls = RX10 ∧ yX10_here.cls ≠ "java/lang/invoke/MethodHandle" ∧ yX10_here.cls ≠ "java/lang/invoke/VarHandle" ∧ (parseMethodDescriptor yX10_here.desc).map (fun d => d.parameters.length) = some 0 := by decide +kernel
abbrev HL_X10_here_0 (l : Launch) (D : va_G) (cA : Nat → ClassId) (z : Nat) (av : List Value) (r : Int32) (μ' : Mm) (p : Program) (e : Env) (s : State) (m : MethodId) (below : List Frame) (meth : Method) (c : Code) (rc : Mm → Nat → Option (Int32 × Mm)) : Prop := ∀ (μ : Mm) (H : Heap) (locs : List Loc) (ls : Array Slot) (a0 : Nat), kd a0 = 10 → Wd D cA z μ H → va_S (Az z) s.heap H locs → lv_has ls 1 [(0, .ref (z + a0))] → rc μ a0 = some (r, μ') → WG l D cA z wsX10_here 0 0 av (some (.int r)) μ' p e s m below meth c H locs (F0 m 0 ls [])
def f_X10_here_j38 (μ : Mm) (a0 : Nat) : Option (Int32 × Mm) := if (μ.1 a0 11) ≤ (μ.1 a0 13) then (some ((-1 : Int32), μ)) else (bR (μ.2 a0 10) (fun b2 => gd (ckb (μ.1 a0 13) (ln b2)) (some (μ.1 b2 (μ.1 a0 13).toNatClampNeg, μ))))
set_option maxRecDepth 100000 in
theorem k_f_X10_here_j38 {l : Launch} {D : va_G} {cA : Nat → ClassId} {z : Nat} {av : List Value} {p : Program} {e : Env} {s : State} {m : MethodId} {below : List Frame} {meth : Method} {c : Code} {r : Int32} {μ' : Mm} (X : Fx D cA RX10 wsX10_here cX10_here 1 (some .int) p s m av.toArray meth c) {μ : Mm} {a0 : Nat} (hk_a0 : kd a0 = 10) {H : Heap} {locs : List Loc} {ls : Array Slot} (hd : Wd D cA z μ H) (hS : va_S (Az z) s.heap H locs) (hl : lv_has ls 1 [(0, .ref (z + a0))]) (h : f_X10_here_j38 μ a0 = some (r, μ')) : WG l D cA z wsX10_here 0 0 av (some (.int r)) μ' p e s m below meth c H locs (F0 m 38 ls []) := by
  obtain ⟨hx, hb, hr, hlk, hml, hown, hts, hK⟩ := id X
  unfold f_X10_here_j38 at h
  refine lv_aload_n hx hb dX10_here_38 rfl (lv_at hl 0 rfl) ?_
  refine r_geti hx hb hts (fun w h => List.mem_cons_of_mem _ (List.mem_append_right _ (h))) hown hK hd hk_a0 rfl 13 fs_10_13 (hts (.fieldLink RX10 111 "LevelVotesModel" "at0" "I") (List.mem_of_getElem? (i := 1) rfl)) dX10_here_39 ?_
  refine lv_aload_n hx hb dX10_here_42 rfl (lv_at hl 0 rfl) ?_
  refine r_geti hx hb hts (fun w h => List.mem_cons_of_mem _ (List.mem_append_right _ (h))) hown hK hd hk_a0 rfl 11 fs_10_11 (hts (.fieldLink RX10 107 "LevelVotesModel" "texted" "I") (List.mem_of_getElem? (i := 2) rfl)) dX10_here_43 ?_
  refine lv_icmp_ge (tgt := 61) hx hb dX10_here_46 (by decide) (fun q1 => ?_) (fun q1 => ?_)
  · have h := if_y q1 h
    refine lv_iconst (v := -1) hx hb dX10_here_61 (by decide) ?_
    obtain ⟨rfl, rfl⟩ := so_e h
    exact rt_i hx hb hr hlk hd hS dX10_here_62
  · have h := if_n q1 h
    refine lv_aload_n hx hb dX10_here_49 rfl (lv_at hl 0 rfl) ?_
    obtain ⟨b2, hb2, h⟩ := bR_e h
    refine r_getr hx hb hts (fun w h => List.mem_cons_of_mem _ (List.mem_append_right _ (h))) hown hK hd hk_a0 hb2 rfl fs_10_10 (hts (.fieldLink RX10 25 "LevelVotesModel" "text" "[I") (List.mem_of_getElem? (i := 3) rfl)) dX10_here_50 (fun hq => ?_)
    have hk_b2 : kd b2 = 11 := hq
    refine lv_aload_n hx hb dX10_here_53 rfl (lv_at hl 0 rfl) ?_
    refine r_geti hx hb hts (fun w h => List.mem_cons_of_mem _ (List.mem_append_right _ (h))) hown hK hd hk_a0 rfl 13 fs_10_13 (hts (.fieldLink RX10 111 "LevelVotesModel" "at0" "I") (List.mem_of_getElem? (i := 1) rfl)) dX10_here_54 ?_
    obtain ⟨g3, h⟩ := gd_e h
    refine r_iald hx hb hK hd hk_b2 (ckb_in g3) dX10_here_57 ?_
    refine lv_goto (tgt := 62) hx hb dX10_here_58 (by decide) ?_
    obtain ⟨rfl, rfl⟩ := so_e h
    exact rt_i hx hb hr hlk hd hS dX10_here_62
def f_X10_here_L0b (rc0 : Mm → Nat → Option (Int32 × Mm)) (μ : Mm) (a0 : Nat) : Option (Int32 × Mm) := if (μ.1 a0 11) ≤ (μ.1 a0 13) then (f_X10_here_j38 μ a0) else (bR (μ.2 a0 10) (fun b2 => gd (ckb (μ.1 a0 13) (ln b2)) (if (μ.1 b2 (μ.1 a0 13).toNatClampNeg) = (32 : Int32) then (bM (up2 μ.1 a0 13 ((μ.1 a0 13) + (1 : Int32)), μ.2) (fun μ5 => rc0 μ5 a0)) else (f_X10_here_j38 μ a0))))
set_option maxRecDepth 100000 in
theorem k_f_X10_here_L0b {l : Launch} {D : va_G} {cA : Nat → ClassId} {z : Nat} {av : List Value} {p : Program} {e : Env} {s : State} {m : MethodId} {below : List Frame} {meth : Method} {c : Code} {r : Int32} {μ' : Mm} (X : Fx D cA RX10 wsX10_here cX10_here 1 (some .int) p s m av.toArray meth c) {rc0 : Mm → Nat → Option (Int32 × Mm)} (hrc0 : HL_X10_here_0 l D cA z av r μ' p e s m below meth c rc0) {μ : Mm} {a0 : Nat} (hk_a0 : kd a0 = 10) {H : Heap} {locs : List Loc} {ls : Array Slot} (hd : Wd D cA z μ H) (hS : va_S (Az z) s.heap H locs) (hl : lv_has ls 1 [(0, .ref (z + a0))]) (h : f_X10_here_L0b rc0 μ a0 = some (r, μ')) : WG l D cA z wsX10_here 0 0 av (some (.int r)) μ' p e s m below meth c H locs (F0 m 0 ls []) := by
  obtain ⟨hx, hb, hr, hlk, hml, hown, hts, hK⟩ := id X
  unfold f_X10_here_L0b at h
  refine lv_aload_n hx hb dX10_here_0 rfl (lv_at hl 0 rfl) ?_
  refine r_geti hx hb hts (fun w h => List.mem_cons_of_mem _ (List.mem_append_right _ (h))) hown hK hd hk_a0 rfl 13 fs_10_13 (hts (.fieldLink RX10 111 "LevelVotesModel" "at0" "I") (List.mem_of_getElem? (i := 1) rfl)) dX10_here_1 ?_
  refine lv_aload_n hx hb dX10_here_4 rfl (lv_at hl 0 rfl) ?_
  refine r_geti hx hb hts (fun w h => List.mem_cons_of_mem _ (List.mem_append_right _ (h))) hown hK hd hk_a0 rfl 11 fs_10_11 (hts (.fieldLink RX10 107 "LevelVotesModel" "texted" "I") (List.mem_of_getElem? (i := 2) rfl)) dX10_here_5 ?_
  refine lv_icmp_ge (tgt := 38) hx hb dX10_here_8 (by decide) (fun q1 => ?_) (fun q1 => ?_)
  · have h := if_y q1 h
    exact k_f_X10_here_j38 X hk_a0 hd hS (lv_sub hl [0] rfl) h
  · have h := if_n q1 h
    refine lv_aload_n hx hb dX10_here_11 rfl (lv_at hl 0 rfl) ?_
    obtain ⟨b2, hb2, h⟩ := bR_e h
    refine r_getr hx hb hts (fun w h => List.mem_cons_of_mem _ (List.mem_append_right _ (h))) hown hK hd hk_a0 hb2 rfl fs_10_10 (hts (.fieldLink RX10 25 "LevelVotesModel" "text" "[I") (List.mem_of_getElem? (i := 3) rfl)) dX10_here_12 (fun hq => ?_)
    have hk_b2 : kd b2 = 11 := hq
    refine lv_aload_n hx hb dX10_here_15 rfl (lv_at hl 0 rfl) ?_
    refine r_geti hx hb hts (fun w h => List.mem_cons_of_mem _ (List.mem_append_right _ (h))) hown hK hd hk_a0 rfl 13 fs_10_13 (hts (.fieldLink RX10 111 "LevelVotesModel" "at0" "I") (List.mem_of_getElem? (i := 1) rfl)) dX10_here_16 ?_
    obtain ⟨g3, h⟩ := gd_e h
    refine r_iald hx hb hK hd hk_b2 (ckb_in g3) dX10_here_19 ?_
    refine lv_bipush (v := 32) hx hb dX10_here_20 (by decide) ?_
    refine lv_icmp_ne (tgt := 38) hx hb dX10_here_22 (by decide) (fun q4 => ?_) (fun q4 => ?_)
    · have h := if_n q4 h
      exact k_f_X10_here_j38 X hk_a0 hd hS (lv_sub hl [0] rfl) h
    · have h := if_y q4 h
      refine lv_aload_n hx hb dX10_here_25 rfl (lv_at hl 0 rfl) ?_
      refine lv_dup hx hb dX10_here_26 rfl ?_
      refine r_geti hx hb hts (fun w h => List.mem_cons_of_mem _ (List.mem_append_right _ (h))) hown hK hd hk_a0 rfl 13 fs_10_13 (hts (.fieldLink RX10 111 "LevelVotesModel" "at0" "I") (List.mem_of_getElem? (i := 1) rfl)) dX10_here_27 ?_
      refine lv_iconst (v := 1) hx hb dX10_here_30 (by decide) ?_
      refine lv_iadd hx hb dX10_here_31 ?_
      refine r_puti hx hb hts (fun w h => List.mem_cons_of_mem _ (List.mem_append_right _ (h))) tyX10 tyX10_ok nmX10 hown hK hd hS hk_a0 rfl 13 fs_10_13 rfl (hts (.fieldLink RX10 111 "LevelVotesModel" "at0" "I") (List.mem_of_getElem? (i := 1) rfl)) (vp_nar_int _) rfl dX10_here_32 (fun μ5 eμ5 H locs hd hS => ?_)
      have h := bM_e eμ5 h
      refine lv_goto (tgt := 0) hx hb dX10_here_35 (by decide) ?_
      exact hrc0 _ _ _ _ _ hk_a0 hd hS (lv_sub hl [0] rfl) h
def f_X10_here_L0 : Nat → Mm → Nat → Option (Int32 × Mm)
  | 0 => fun _ _ => none
  | n + 1 => fun μ a0 => f_X10_here_L0b (f_X10_here_L0 n) μ a0
theorem k_f_X10_here_L0 {l : Launch} {D : va_G} {cA : Nat → ClassId} {z : Nat} {av : List Value} {p : Program} {e : Env} {s : State} {m : MethodId} {below : List Frame} {meth : Method} {c : Code} {r : Int32} {μ' : Mm} (X : Fx D cA RX10 wsX10_here cX10_here 1 (some .int) p s m av.toArray meth c) (n : Nat) : HL_X10_here_0 l D cA z av r μ' p e s m below meth c (f_X10_here_L0 n) := by
  induction n with
  | zero => intro _ _ _ _ _ _ _ _ _ h; have h2 : (none : Option _) = some _ := h; cases h2
  | succ n ih => intro μ H locs ls a0 hk_a0 hd hS hl h; exact k_f_X10_here_L0b X ih hk_a0 hd hS hl h
def f_X10_here (μ : Mm) (a0 : Nat) : Option (Int32 × Mm) := f_X10_here_L0 FU μ a0
set_option maxRecDepth 100000 in
theorem c_X10_here {l : Launch} {D : va_G} {cA : Nat → ClassId} {z : Nat} {μ : Mm} {a0 : Nat} {r : Int32} {μ' : Mm} (hk_a0 : kd a0 = 10) (h : f_X10_here μ a0 = some (r, μ')) : Ct l D cA z yX10_here wsX10_here 0 0 [.ref (z + a0)] μ (some (.int r)) μ' := by
  refine m_in (cc := cX10_here) (maxL := 1) (ret := (some .int)) (own := RX10) (by decide) rfl rfl (Nat.le_of_ble_eq_true rfl) ?_
  intro p e s m below meth c ls X hd hS hl
  obtain ⟨hx, hb, hr, hlk, hml, hown, hts, hK⟩ := id X
  have hl : lv_has ls 1 [(0, .ref (z + a0))] := hl
  unfold f_X10_here at h
  exact k_f_X10_here_L0 X FU _ _ _ _ _ hk_a0 hd hS (lv_sub hl [0] rfl) h
theorem hv_X10_fails : yX10_fails.cls = RX10 ∧ yX10_fails.cls ≠ "java/lang/invoke/MethodHandle" ∧ yX10_fails.cls ≠ "java/lang/invoke/VarHandle" ∧ (parseMethodDescriptor yX10_fails.desc).map (fun d => d.parameters.length) = some 2 := by decide +kernel
def f_X10_fails (μ : Mm) (a0 : Nat) (x1 : Int32) (x2 : Int32) : Option (Int32 × Mm) := bM (up2 μ.1 a0 12 x2, μ.2) (fun μ1 => some (x1, μ1))
set_option maxRecDepth 100000 in
theorem c_X10_fails {l : Launch} {D : va_G} {cA : Nat → ClassId} {z : Nat} {μ : Mm} {a0 : Nat} {x1 : Int32} {x2 : Int32} {r : Int32} {μ' : Mm} (hk_a0 : kd a0 = 10) (h : f_X10_fails μ a0 x1 x2 = some (r, μ')) : Ct l D cA z yX10_fails wsX10_fails 0 0 [.ref (z + a0), .int x1, .int x2] μ (some (.int r)) μ' := by
  refine m_in (cc := cX10_fails) (maxL := 3) (ret := (some .int)) (own := RX10) (by decide) rfl rfl (Nat.le_of_ble_eq_true rfl) ?_
  intro p e s m below meth c ls X hd hS hl
  obtain ⟨hx, hb, hr, hlk, hml, hown, hts, hK⟩ := id X
  have hl : lv_has ls 3 [(0, .ref (z + a0)), (1, .int x1), (2, .int x2)] := hl
  unfold f_X10_fails at h
  refine lv_aload_n hx hb dX10_fails_0 rfl (lv_at hl 0 rfl) ?_
  refine lv_iload_n hx hb dX10_fails_1 rfl (lv_at hl 2 rfl) ?_
  refine r_puti hx hb hts (fun w h => List.mem_cons_of_mem _ (List.mem_append_right _ (h))) tyX10 tyX10_ok nmX10 hown hK hd hS hk_a0 rfl 12 fs_10_12 rfl (hts (.fieldLink RX10 28 "LevelVotesModel" "faultPlace" "I") (List.mem_of_getElem? (i := 1) rfl)) (vp_nar_int _) rfl dX10_fails_2 (fun μ1 eμ1 H locs hd hS => ?_)
  have h := bM_e eμ1 h
  refine lv_iload_n hx hb dX10_fails_5 rfl (lv_at hl 1 rfl) ?_
  obtain ⟨rfl, rfl⟩ := so_e h
  exact rt_i hx hb hr hlk hd hS dX10_fails_6
theorem hv_X10_takeNumber : yX10_takeNumber.cls = RX10 ∧ yX10_takeNumber.cls ≠ "java/lang/invoke/MethodHandle" ∧ yX10_takeNumber.cls ≠ "java/lang/invoke/VarHandle" ∧ (parseMethodDescriptor yX10_takeNumber.desc).map (fun d => d.parameters.length) = some 2 := by decide +kernel
abbrev HL_X10_takeNumber_42 (l : Launch) (D : va_G) (cA : Nat → ClassId) (z : Nat) (av : List Value) (r : Int32) (μ' : Mm) (p : Program) (e : Env) (s : State) (m : MethodId) (below : List Frame) (meth : Method) (c : Code) (rc : Mm → Nat → Int32 → Int32 → Option (Int32 × Mm)) : Prop := ∀ (μ : Mm) (H : Heap) (locs : List Loc) (ls : Array Slot) (a0 : Nat) (x1 : Int32) (x2 : Int32), kd a0 = 10 → Wd D cA z μ H → va_S (Az z) s.heap H locs → lv_has ls 4 [(0, .ref (z + a0)), (1, .int x1), (2, .int x2)] → rc μ a0 x1 x2 = some (r, μ') → WG l D cA z wsX10_takeNumber 1 25 av (some (.int r)) μ' p e s m below meth c H locs (F0 m 42 ls [])
def f_X10_takeNumber_j156 (μ : Mm) (a0 : Nat) : Option (Int32 × Mm) := bC (f_X10_fails μ a0 (2 : Int32) (μ.1 a0 15)) (fun r2 μ1 => some (r2, μ1))
set_option maxRecDepth 100000 in
theorem k_f_X10_takeNumber_j156 {l : Launch} {D : va_G} {cA : Nat → ClassId} {z : Nat} {av : List Value} {p : Program} {e : Env} {s : State} {m : MethodId} {below : List Frame} {meth : Method} {c : Code} {r : Int32} {μ' : Mm} (X : Fx D cA RX10 wsX10_takeNumber cX10_takeNumber 4 (some .int) p s m av.toArray meth c) {μ : Mm} {a0 : Nat} (hk_a0 : kd a0 = 10) {H : Heap} {locs : List Loc} {ls : Array Slot} (hd : Wd D cA z μ H) (hS : va_S (Az z) s.heap H locs) (hl : lv_has ls 4 [(0, .ref (z + a0))]) (h : f_X10_takeNumber_j156 μ a0 = some (r, μ')) : WG l D cA z wsX10_takeNumber 1 25 av (some (.int r)) μ' p e s m below meth c H locs (F0 m 156 ls []) := by
  obtain ⟨hx, hb, hr, hlk, hml, hown, hts, hK⟩ := id X
  unfold f_X10_takeNumber_j156 at h
  refine lv_aload_n hx hb dX10_takeNumber_156 rfl (lv_at hl 0 rfl) ?_
  refine lv_iconst (v := 2) hx hb dX10_takeNumber_157 (by decide) ?_
  refine lv_aload_n hx hb dX10_takeNumber_158 rfl (lv_at hl 0 rfl) ?_
  refine r_geti hx hb hts (fun w h => List.mem_cons_of_mem _ (List.mem_append_right _ (h))) hown hK hd hk_a0 rfl 15 fs_10_15 (hts (.fieldLink RX10 125 "LevelVotesModel" "numberAt" "I") (List.mem_of_getElem? (i := 4) rfl)) dX10_takeNumber_159 ?_
  obtain ⟨r2, μ1, hc3, h⟩ := bC_e h
  refine rc_Vi (rest := []) [.int (2 : Int32), .int (μ.1 a0 15)] ⟨hx, hb, hml, hown, hts⟩ hK hd hS (c_X10_fails hk_a0 hc3) (cwV 2 hts gX10_takeNumber_X10_fails rfl rfl rfl hv_X10_fails ⟨Nat.le_of_ble_eq_true rfl, Nat.le_of_ble_eq_true rfl⟩) hk_a0 rfl rfl rfl rfl hl.1 rfl (Nat.le_of_ble_eq_true rfl) dX10_takeNumber_162 ⟨Nat.zero_le _, Nat.zero_le _⟩ (fun H locs hd hS => ?_)
  refine lv_goto (tgt := 169) hx hb dX10_takeNumber_165 (by decide) ?_
  obtain ⟨rfl, rfl⟩ := so_e h
  exact rt_i hx hb hr hlk hd hS dX10_takeNumber_169
def f_X10_takeNumber_j128 (μ : Mm) (a0 : Nat) (x1 : Int32) (x2 : Int32) : Option (Int32 × Mm) := if (5 : Int32) < ((μ.1 a0 13) - (μ.1 a0 15)) then (f_X10_takeNumber_j156 μ a0) else (bC (f_X10_in μ ((μ.1 a0 14).toInt64) (x1.toInt64) (x2.toInt64)) (fun r3 μ2 => if r3 = 0 then (f_X10_takeNumber_j156 μ2 a0) else (some ((0 : Int32), μ2))))
set_option maxRecDepth 100000 in
theorem k_f_X10_takeNumber_j128 {l : Launch} {D : va_G} {cA : Nat → ClassId} {z : Nat} {av : List Value} {p : Program} {e : Env} {s : State} {m : MethodId} {below : List Frame} {meth : Method} {c : Code} {r : Int32} {μ' : Mm} (X : Fx D cA RX10 wsX10_takeNumber cX10_takeNumber 4 (some .int) p s m av.toArray meth c) {μ : Mm} {a0 : Nat} {x1 : Int32} {x2 : Int32} (hk_a0 : kd a0 = 10) {H : Heap} {locs : List Loc} {ls : Array Slot} (hd : Wd D cA z μ H) (hS : va_S (Az z) s.heap H locs) (hl : lv_has ls 4 [(0, .ref (z + a0)), (1, .int x1), (2, .int x2)]) (h : f_X10_takeNumber_j128 μ a0 x1 x2 = some (r, μ')) : WG l D cA z wsX10_takeNumber 1 25 av (some (.int r)) μ' p e s m below meth c H locs (F0 m 128 ls []) := by
  obtain ⟨hx, hb, hr, hlk, hml, hown, hts, hK⟩ := id X
  unfold f_X10_takeNumber_j128 at h
  refine lv_aload_n hx hb dX10_takeNumber_128 rfl (lv_at hl 0 rfl) ?_
  refine r_geti hx hb hts (fun w h => List.mem_cons_of_mem _ (List.mem_append_right _ (h))) hown hK hd hk_a0 rfl 13 fs_10_13 (hts (.fieldLink RX10 111 "LevelVotesModel" "at0" "I") (List.mem_of_getElem? (i := 3) rfl)) dX10_takeNumber_129 ?_
  refine lv_aload_n hx hb dX10_takeNumber_132 rfl (lv_at hl 0 rfl) ?_
  refine r_geti hx hb hts (fun w h => List.mem_cons_of_mem _ (List.mem_append_right _ (h))) hown hK hd hk_a0 rfl 15 fs_10_15 (hts (.fieldLink RX10 125 "LevelVotesModel" "numberAt" "I") (List.mem_of_getElem? (i := 4) rfl)) dX10_takeNumber_133 ?_
  refine lv_isub hx hb dX10_takeNumber_136 ?_
  refine lv_iconst (v := 5) hx hb dX10_takeNumber_137 (by decide) ?_
  refine lv_icmp_gt (tgt := 156) hx hb dX10_takeNumber_138 (by decide) (fun q1 => ?_) (fun q1 => ?_)
  · have h := if_y q1 h
    exact k_f_X10_takeNumber_j156 X hk_a0 hd hS (lv_sub hl [0] rfl) h
  · have h := if_n q1 h
    refine lv_aload_n hx hb dX10_takeNumber_141 rfl (lv_at hl 0 rfl) ?_
    refine r_geti hx hb hts (fun w h => List.mem_cons_of_mem _ (List.mem_append_right _ (h))) hown hK hd hk_a0 rfl 14 fs_10_14 (hts (.fieldLink RX10 128 "LevelVotesModel" "number" "I") (List.mem_of_getElem? (i := 5) rfl)) dX10_takeNumber_142 ?_
    refine lv_i2l hx hb dX10_takeNumber_145 rfl ?_
    refine lv_iload_n hx hb dX10_takeNumber_146 rfl (lv_at hl 1 rfl) ?_
    refine lv_i2l hx hb dX10_takeNumber_147 rfl ?_
    refine lv_iload_n hx hb dX10_takeNumber_148 rfl (lv_at hl 2 rfl) ?_
    refine lv_i2l hx hb dX10_takeNumber_149 rfl ?_
    obtain ⟨r3, μ2, hc4, h⟩ := bC_e h
    refine rc_Si (rest := []) [.long ((μ.1 a0 14).toInt64), .long (x1.toInt64), .long (x2.toInt64)] ⟨hx, hb, hml, hown, hts⟩ hK hd hS (c_X10_in  hc4) (va_cwS 3 hts gX10_takeNumber_X10_in rfl rfl rfl hn_X10_in ⟨Nat.le_of_ble_eq_true rfl, Nat.le_of_ble_eq_true rfl⟩) rfl hl.1 rfl (Nat.le_of_ble_eq_true rfl) dX10_takeNumber_150 ⟨Nat.zero_le _, Nat.zero_le _⟩ (fun H locs hd hS => ?_)
    refine lv_if_ne (tgt := 168) hx hb dX10_takeNumber_153 (by decide) (fun q5 => ?_) (fun q5 => ?_)
    · have h := if_n q5 h
      refine lv_iconst (v := 0) hx hb dX10_takeNumber_168 (by decide) ?_
      obtain ⟨rfl, rfl⟩ := so_e h
      exact rt_i hx hb hr hlk hd hS dX10_takeNumber_169
    · have h := if_y q5 h
      exact k_f_X10_takeNumber_j156 X hk_a0 hd hS (lv_sub hl [0] rfl) h
def f_X10_takeNumber_j112 (rc42 : Mm → Nat → Int32 → Int32 → Option (Int32 × Mm)) (μ : Mm) (a0 : Nat) (x1 : Int32) (x2 : Int32) (ys0 : Int32) (bs1 : Nat) : Option (Int32 × Mm) := bM (up2 μ.1 bs1 14 ys0, μ.2) (fun μ1 => bM (up2 μ1.1 a0 13 ((μ1.1 a0 13) + (1 : Int32)), μ1.2) (fun μ2 => rc42 μ2 a0 x1 x2))
set_option maxRecDepth 100000 in
theorem k_f_X10_takeNumber_j112 {l : Launch} {D : va_G} {cA : Nat → ClassId} {z : Nat} {av : List Value} {p : Program} {e : Env} {s : State} {m : MethodId} {below : List Frame} {meth : Method} {c : Code} {r : Int32} {μ' : Mm} (X : Fx D cA RX10 wsX10_takeNumber cX10_takeNumber 4 (some .int) p s m av.toArray meth c) {rc42 : Mm → Nat → Int32 → Int32 → Option (Int32 × Mm)} (hrc42 : HL_X10_takeNumber_42 l D cA z av r μ' p e s m below meth c rc42) {μ : Mm} {a0 : Nat} {x1 : Int32} {x2 : Int32} {ys0 : Int32} {bs1 : Nat} (hk_a0 : kd a0 = 10) (hk_bs1 : kd bs1 = 10) {H : Heap} {locs : List Loc} {ls : Array Slot} (hd : Wd D cA z μ H) (hS : va_S (Az z) s.heap H locs) (hl : lv_has ls 4 [(0, .ref (z + a0)), (1, .int x1), (2, .int x2)]) (h : f_X10_takeNumber_j112 rc42 μ a0 x1 x2 ys0 bs1 = some (r, μ')) : WG l D cA z wsX10_takeNumber 1 25 av (some (.int r)) μ' p e s m below meth c H locs (F0 m 112 ls [.int ys0, .ref (z + bs1)]) := by
  obtain ⟨hx, hb, hr, hlk, hml, hown, hts, hK⟩ := id X
  unfold f_X10_takeNumber_j112 at h
  refine r_puti hx hb hts (fun w h => List.mem_cons_of_mem _ (List.mem_append_right _ (h))) tyX10 tyX10_ok nmX10 hown hK hd hS hk_bs1 rfl 14 fs_10_14 rfl (hts (.fieldLink RX10 128 "LevelVotesModel" "number" "I") (List.mem_of_getElem? (i := 5) rfl)) (vp_nar_int _) rfl dX10_takeNumber_112 (fun μ1 eμ1 H locs hd hS => ?_)
  have h := bM_e eμ1 h
  refine lv_aload_n hx hb dX10_takeNumber_115 rfl (lv_at hl 0 rfl) ?_
  refine lv_dup hx hb dX10_takeNumber_116 rfl ?_
  refine r_geti hx hb hts (fun w h => List.mem_cons_of_mem _ (List.mem_append_right _ (h))) hown hK hd hk_a0 rfl 13 fs_10_13 (hts (.fieldLink RX10 111 "LevelVotesModel" "at0" "I") (List.mem_of_getElem? (i := 3) rfl)) dX10_takeNumber_117 ?_
  refine lv_iconst (v := 1) hx hb dX10_takeNumber_120 (by decide) ?_
  refine lv_iadd hx hb dX10_takeNumber_121 ?_
  refine r_puti hx hb hts (fun w h => List.mem_cons_of_mem _ (List.mem_append_right _ (h))) tyX10 tyX10_ok nmX10 hown hK hd hS hk_a0 rfl 13 fs_10_13 rfl (hts (.fieldLink RX10 111 "LevelVotesModel" "at0" "I") (List.mem_of_getElem? (i := 3) rfl)) (vp_nar_int _) rfl dX10_takeNumber_122 (fun μ2 eμ2 H locs hd hS => ?_)
  have h := bM_e eμ2 h
  refine lv_goto (tgt := 42) hx hb dX10_takeNumber_125 (by decide) ?_
  exact hrc42 _ _ _ _ _ _ _ hk_a0 hd hS (lv_sub hl [0, 1, 2] rfl) h
def f_X10_takeNumber_L42b (rc42 : Mm → Nat → Int32 → Int32 → Option (Int32 × Mm)) (μ : Mm) (a0 : Nat) (x1 : Int32) (x2 : Int32) : Option (Int32 × Mm) := if (μ.1 a0 11) ≤ (μ.1 a0 13) then (f_X10_takeNumber_j128 μ a0 x1 x2) else (bR (μ.2 a0 10) (fun b2 => gd (ckb (μ.1 a0 13) (ln b2)) (bC (f_X10_in μ ((μ.1 b2 (μ.1 a0 13).toNatClampNeg).toInt64) (48 : Int64) (57 : Int64)) (fun r5 μ4 => if r5 = 0 then (f_X10_takeNumber_j128 μ4 a0 x1 x2) else (if (μ4.1 a0 14) ≤ (1000000 : Int32) then (bR (μ4.2 a0 10) (fun b9 => gd (ckb (μ4.1 a0 13) (ln b9)) (f_X10_takeNumber_j112 rc42 μ4 a0 x1 x2 ((((10 : Int32) * (μ4.1 a0 14)) + (μ4.1 b9 (μ4.1 a0 13).toNatClampNeg)) - (48 : Int32)) a0))) else (f_X10_takeNumber_j112 rc42 μ4 a0 x1 x2 (μ4.1 a0 14) a0))))))
set_option maxRecDepth 100000 in
theorem k_f_X10_takeNumber_L42b {l : Launch} {D : va_G} {cA : Nat → ClassId} {z : Nat} {av : List Value} {p : Program} {e : Env} {s : State} {m : MethodId} {below : List Frame} {meth : Method} {c : Code} {r : Int32} {μ' : Mm} (X : Fx D cA RX10 wsX10_takeNumber cX10_takeNumber 4 (some .int) p s m av.toArray meth c) {rc42 : Mm → Nat → Int32 → Int32 → Option (Int32 × Mm)} (hrc42 : HL_X10_takeNumber_42 l D cA z av r μ' p e s m below meth c rc42) {μ : Mm} {a0 : Nat} {x1 : Int32} {x2 : Int32} (hk_a0 : kd a0 = 10) {H : Heap} {locs : List Loc} {ls : Array Slot} (hd : Wd D cA z μ H) (hS : va_S (Az z) s.heap H locs) (hl : lv_has ls 4 [(0, .ref (z + a0)), (1, .int x1), (2, .int x2)]) (h : f_X10_takeNumber_L42b rc42 μ a0 x1 x2 = some (r, μ')) : WG l D cA z wsX10_takeNumber 1 25 av (some (.int r)) μ' p e s m below meth c H locs (F0 m 42 ls []) := by
  obtain ⟨hx, hb, hr, hlk, hml, hown, hts, hK⟩ := id X
  unfold f_X10_takeNumber_L42b at h
  refine lv_aload_n hx hb dX10_takeNumber_42 rfl (lv_at hl 0 rfl) ?_
  refine r_geti hx hb hts (fun w h => List.mem_cons_of_mem _ (List.mem_append_right _ (h))) hown hK hd hk_a0 rfl 13 fs_10_13 (hts (.fieldLink RX10 111 "LevelVotesModel" "at0" "I") (List.mem_of_getElem? (i := 3) rfl)) dX10_takeNumber_43 ?_
  refine lv_aload_n hx hb dX10_takeNumber_46 rfl (lv_at hl 0 rfl) ?_
  refine r_geti hx hb hts (fun w h => List.mem_cons_of_mem _ (List.mem_append_right _ (h))) hown hK hd hk_a0 rfl 11 fs_10_11 (hts (.fieldLink RX10 107 "LevelVotesModel" "texted" "I") (List.mem_of_getElem? (i := 6) rfl)) dX10_takeNumber_47 ?_
  refine lv_icmp_ge (tgt := 128) hx hb dX10_takeNumber_50 (by decide) (fun q1 => ?_) (fun q1 => ?_)
  · have h := if_y q1 h
    exact k_f_X10_takeNumber_j128 X hk_a0 hd hS (lv_sub hl [0, 1, 2] rfl) h
  · have h := if_n q1 h
    refine lv_aload_n hx hb dX10_takeNumber_53 rfl (lv_at hl 0 rfl) ?_
    obtain ⟨b2, hb2, h⟩ := bR_e h
    refine r_getr hx hb hts (fun w h => List.mem_cons_of_mem _ (List.mem_append_right _ (h))) hown hK hd hk_a0 hb2 rfl fs_10_10 (hts (.fieldLink RX10 25 "LevelVotesModel" "text" "[I") (List.mem_of_getElem? (i := 7) rfl)) dX10_takeNumber_54 (fun hq => ?_)
    have hk_b2 : kd b2 = 11 := hq
    refine lv_aload_n hx hb dX10_takeNumber_57 rfl (lv_at hl 0 rfl) ?_
    refine r_geti hx hb hts (fun w h => List.mem_cons_of_mem _ (List.mem_append_right _ (h))) hown hK hd hk_a0 rfl 13 fs_10_13 (hts (.fieldLink RX10 111 "LevelVotesModel" "at0" "I") (List.mem_of_getElem? (i := 3) rfl)) dX10_takeNumber_58 ?_
    obtain ⟨g3, h⟩ := gd_e h
    refine r_iald hx hb hK hd hk_b2 (ckb_in g3) dX10_takeNumber_61 ?_
    refine lv_i2l hx hb dX10_takeNumber_62 rfl ?_
    refine lv_ldc2 (v := 48) hx hb hown (hts (.constantLong RX10 117 (48)) (List.mem_of_getElem? (i := 1) rfl)) dX10_takeNumber_63 ?_
    refine lv_ldc2 (v := 57) hx hb hown (hts (.constantLong RX10 119 (57)) (List.mem_of_getElem? (i := 2) rfl)) dX10_takeNumber_66 ?_
    obtain ⟨r5, μ4, hc6, h⟩ := bC_e h
    refine rc_Si (rest := []) [.long ((μ.1 b2 (μ.1 a0 13).toNatClampNeg).toInt64), .long (48 : Int64), .long (57 : Int64)] ⟨hx, hb, hml, hown, hts⟩ hK hd hS (c_X10_in  hc6) (va_cwS 3 hts gX10_takeNumber_X10_in rfl rfl rfl hn_X10_in ⟨Nat.le_of_ble_eq_true rfl, Nat.le_of_ble_eq_true rfl⟩) rfl hl.1 rfl (Nat.le_of_ble_eq_true rfl) dX10_takeNumber_69 ⟨Nat.zero_le _, Nat.zero_le _⟩ (fun H locs hd hS => ?_)
    refine lv_if_eq (tgt := 128) hx hb dX10_takeNumber_72 (by decide) (fun q7 => ?_) (fun q7 => ?_)
    · have h := if_y q7 h
      exact k_f_X10_takeNumber_j128 X hk_a0 hd hS (lv_sub hl [0, 1, 2] rfl) h
    · have h := if_n q7 h
      refine lv_aload_n hx hb dX10_takeNumber_75 rfl (lv_at hl 0 rfl) ?_
      refine lv_aload_n hx hb dX10_takeNumber_76 rfl (lv_at hl 0 rfl) ?_
      refine r_geti hx hb hts (fun w h => List.mem_cons_of_mem _ (List.mem_append_right _ (h))) hown hK hd hk_a0 rfl 14 fs_10_14 (hts (.fieldLink RX10 128 "LevelVotesModel" "number" "I") (List.mem_of_getElem? (i := 5) rfl)) dX10_takeNumber_77 ?_
      refine lv_ldc (v := 1000000) hx hb hown (hts (.constant RX10 131 (1000000)) (List.mem_of_getElem? (i := 8) rfl)) dX10_takeNumber_80 ?_
      refine lv_icmp_le (tgt := 92) hx hb dX10_takeNumber_82 (by decide) (fun q8 => ?_) (fun q8 => ?_)
      · have h := if_y q8 h
        refine lv_bipush (v := 10) hx hb dX10_takeNumber_92 (by decide) ?_
        refine lv_aload_n hx hb dX10_takeNumber_94 rfl (lv_at hl 0 rfl) ?_
        refine r_geti hx hb hts (fun w h => List.mem_cons_of_mem _ (List.mem_append_right _ (h))) hown hK hd hk_a0 rfl 14 fs_10_14 (hts (.fieldLink RX10 128 "LevelVotesModel" "number" "I") (List.mem_of_getElem? (i := 5) rfl)) dX10_takeNumber_95 ?_
        refine lv_imul hx hb dX10_takeNumber_98 ?_
        refine lv_aload_n hx hb dX10_takeNumber_99 rfl (lv_at hl 0 rfl) ?_
        obtain ⟨b9, hb9, h⟩ := bR_e h
        refine r_getr hx hb hts (fun w h => List.mem_cons_of_mem _ (List.mem_append_right _ (h))) hown hK hd hk_a0 hb9 rfl fs_10_10 (hts (.fieldLink RX10 25 "LevelVotesModel" "text" "[I") (List.mem_of_getElem? (i := 7) rfl)) dX10_takeNumber_100 (fun hq => ?_)
        have hk_b9 : kd b9 = 11 := hq
        refine lv_aload_n hx hb dX10_takeNumber_103 rfl (lv_at hl 0 rfl) ?_
        refine r_geti hx hb hts (fun w h => List.mem_cons_of_mem _ (List.mem_append_right _ (h))) hown hK hd hk_a0 rfl 13 fs_10_13 (hts (.fieldLink RX10 111 "LevelVotesModel" "at0" "I") (List.mem_of_getElem? (i := 3) rfl)) dX10_takeNumber_104 ?_
        obtain ⟨g10, h⟩ := gd_e h
        refine r_iald hx hb hK hd hk_b9 (ckb_in g10) dX10_takeNumber_107 ?_
        refine lv_iadd hx hb dX10_takeNumber_108 ?_
        refine lv_bipush (v := 48) hx hb dX10_takeNumber_109 (by decide) ?_
        refine lv_isub hx hb dX10_takeNumber_111 ?_
        exact k_f_X10_takeNumber_j112 X hrc42 hk_a0 hk_a0 hd hS (lv_sub hl [0, 1, 2] rfl) h
      · have h := if_n q8 h
        refine lv_aload_n hx hb dX10_takeNumber_85 rfl (lv_at hl 0 rfl) ?_
        refine r_geti hx hb hts (fun w h => List.mem_cons_of_mem _ (List.mem_append_right _ (h))) hown hK hd hk_a0 rfl 14 fs_10_14 (hts (.fieldLink RX10 128 "LevelVotesModel" "number" "I") (List.mem_of_getElem? (i := 5) rfl)) dX10_takeNumber_86 ?_
        refine lv_goto (tgt := 112) hx hb dX10_takeNumber_89 (by decide) ?_
        exact k_f_X10_takeNumber_j112 X hrc42 hk_a0 hk_a0 hd hS (lv_sub hl [0, 1, 2] rfl) h
def f_X10_takeNumber_L42 : Nat → Mm → Nat → Int32 → Int32 → Option (Int32 × Mm)
  | 0 => fun _ _ _ _ => none
  | n + 1 => fun μ a0 x1 x2 => f_X10_takeNumber_L42b (f_X10_takeNumber_L42 n) μ a0 x1 x2
theorem k_f_X10_takeNumber_L42 {l : Launch} {D : va_G} {cA : Nat → ClassId} {z : Nat} {av : List Value} {p : Program} {e : Env} {s : State} {m : MethodId} {below : List Frame} {meth : Method} {c : Code} {r : Int32} {μ' : Mm} (X : Fx D cA RX10 wsX10_takeNumber cX10_takeNumber 4 (some .int) p s m av.toArray meth c) (n : Nat) : HL_X10_takeNumber_42 l D cA z av r μ' p e s m below meth c (f_X10_takeNumber_L42 n) := by
  induction n with
  | zero => intro _ _ _ _ _ _ _ _ _ _ _ h; have h2 : (none : Option _) = some _ := h; cases h2
  | succ n ih => intro μ H locs ls a0 x1 x2 hk_a0 hd hS hl h; exact k_f_X10_takeNumber_L42b X ih hk_a0 hd hS hl h
def f_X10_takeNumber (μ : Mm) (a0 : Nat) (x1 : Int32) (x2 : Int32) : Option (Int32 × Mm) := bC (f_X10_here μ a0) (fun r2 μ1 => bC (f_X10_in μ1 (r2.toInt64) (48 : Int64) (57 : Int64)) (fun r5 μ4 => if r5 = 0 then (bC (f_X10_fails μ4 a0 (1 : Int32) (μ4.1 a0 13)) (fun r11 μ10 => some (r11, μ10))) else (bM (up2 μ4.1 a0 15 (μ4.1 a0 13), μ4.2) (fun μ8 => bM (up2 μ8.1 a0 14 (0 : Int32), μ8.2) (fun μ9 => f_X10_takeNumber_L42 FU μ9 a0 x1 x2)))))
set_option maxRecDepth 100000 in
theorem c_X10_takeNumber {l : Launch} {D : va_G} {cA : Nat → ClassId} {z : Nat} {μ : Mm} {a0 : Nat} {x1 : Int32} {x2 : Int32} {r : Int32} {μ' : Mm} (hk_a0 : kd a0 = 10) (h : f_X10_takeNumber μ a0 x1 x2 = some (r, μ')) : Ct l D cA z yX10_takeNumber wsX10_takeNumber 1 25 [.ref (z + a0), .int x1, .int x2] μ (some (.int r)) μ' := by
  refine m_in (cc := cX10_takeNumber) (maxL := 4) (ret := (some .int)) (own := RX10) (by decide) rfl rfl (Nat.le_of_ble_eq_true rfl) ?_
  intro p e s m below meth c ls X hd hS hl
  obtain ⟨hx, hb, hr, hlk, hml, hown, hts, hK⟩ := id X
  have hl : lv_has ls 4 [(0, .ref (z + a0)), (1, .int x1), (2, .int x2)] := hl
  unfold f_X10_takeNumber at h
  refine lv_aload_n hx hb dX10_takeNumber_0 rfl (lv_at hl 0 rfl) ?_
  obtain ⟨r2, μ1, hc3, h⟩ := bC_e h
  refine rc_Vi (rest := []) [] ⟨hx, hb, hml, hown, hts⟩ hK hd hS (c_X10_here hk_a0 hc3) (cwV 0 hts gX10_takeNumber_X10_here rfl rfl rfl hv_X10_here ⟨Nat.le_of_ble_eq_true rfl, Nat.le_of_ble_eq_true rfl⟩) hk_a0 rfl rfl rfl rfl hl.1 rfl (Nat.le_of_ble_eq_true rfl) dX10_takeNumber_1 ⟨Nat.zero_le _, Nat.zero_le _⟩ (fun H locs hd hS => ?_)
  refine lv_istore_n (lv' := [(3, .int r2), (0, .ref (z + a0)), (1, .int x1), (2, .int x2)]) hx hb dX10_takeNumber_4 rfl hl (by decide) rfl (fun ls hl => ?_)
  refine lv_iload_n hx hb dX10_takeNumber_5 rfl (lv_at hl 0 rfl) ?_
  refine lv_i2l hx hb dX10_takeNumber_6 rfl ?_
  refine lv_ldc2 (v := 48) hx hb hown (hts (.constantLong RX10 117 (48)) (List.mem_of_getElem? (i := 1) rfl)) dX10_takeNumber_7 ?_
  refine lv_ldc2 (v := 57) hx hb hown (hts (.constantLong RX10 119 (57)) (List.mem_of_getElem? (i := 2) rfl)) dX10_takeNumber_10 ?_
  obtain ⟨r5, μ4, hc6, h⟩ := bC_e h
  refine rc_Si (rest := []) [.long (r2.toInt64), .long (48 : Int64), .long (57 : Int64)] ⟨hx, hb, hml, hown, hts⟩ hK hd hS (c_X10_in  hc6) (va_cwS 3 hts gX10_takeNumber_X10_in rfl rfl rfl hn_X10_in ⟨Nat.le_of_ble_eq_true rfl, Nat.le_of_ble_eq_true rfl⟩) rfl hl.1 rfl (Nat.le_of_ble_eq_true rfl) dX10_takeNumber_13 ⟨Nat.zero_le _, Nat.zero_le _⟩ (fun H locs hd hS => ?_)
  refine lv_if_ne (tgt := 29) hx hb dX10_takeNumber_16 (by decide) (fun q7 => ?_) (fun q7 => ?_)
  · have h := if_n q7 h
    refine lv_aload_n hx hb dX10_takeNumber_29 rfl (lv_at hl 1 rfl) ?_
    refine lv_aload_n hx hb dX10_takeNumber_30 rfl (lv_at hl 1 rfl) ?_
    refine r_geti hx hb hts (fun w h => List.mem_cons_of_mem _ (List.mem_append_right _ (h))) hown hK hd hk_a0 rfl 13 fs_10_13 (hts (.fieldLink RX10 111 "LevelVotesModel" "at0" "I") (List.mem_of_getElem? (i := 3) rfl)) dX10_takeNumber_31 ?_
    refine r_puti hx hb hts (fun w h => List.mem_cons_of_mem _ (List.mem_append_right _ (h))) tyX10 tyX10_ok nmX10 hown hK hd hS hk_a0 rfl 15 fs_10_15 rfl (hts (.fieldLink RX10 125 "LevelVotesModel" "numberAt" "I") (List.mem_of_getElem? (i := 4) rfl)) (vp_nar_int _) rfl dX10_takeNumber_34 (fun μ8 eμ8 H locs hd hS => ?_)
    have h := bM_e eμ8 h
    refine lv_aload_n hx hb dX10_takeNumber_37 rfl (lv_at hl 1 rfl) ?_
    refine lv_iconst (v := 0) hx hb dX10_takeNumber_38 (by decide) ?_
    refine r_puti hx hb hts (fun w h => List.mem_cons_of_mem _ (List.mem_append_right _ (h))) tyX10 tyX10_ok nmX10 hown hK hd hS hk_a0 rfl 14 fs_10_14 rfl (hts (.fieldLink RX10 128 "LevelVotesModel" "number" "I") (List.mem_of_getElem? (i := 5) rfl)) (vp_nar_int _) rfl dX10_takeNumber_39 (fun μ9 eμ9 H locs hd hS => ?_)
    have h := bM_e eμ9 h
    exact k_f_X10_takeNumber_L42 X FU _ _ _ _ _ _ _ hk_a0 hd hS (lv_sub hl [1, 2, 3] rfl) h
  · have h := if_y q7 h
    refine lv_aload_n hx hb dX10_takeNumber_19 rfl (lv_at hl 1 rfl) ?_
    refine lv_iconst (v := 1) hx hb dX10_takeNumber_20 (by decide) ?_
    refine lv_aload_n hx hb dX10_takeNumber_21 rfl (lv_at hl 1 rfl) ?_
    refine r_geti hx hb hts (fun w h => List.mem_cons_of_mem _ (List.mem_append_right _ (h))) hown hK hd hk_a0 rfl 13 fs_10_13 (hts (.fieldLink RX10 111 "LevelVotesModel" "at0" "I") (List.mem_of_getElem? (i := 3) rfl)) dX10_takeNumber_22 ?_
    obtain ⟨r11, μ10, hc12, h⟩ := bC_e h
    refine rc_Vi (rest := []) [.int (1 : Int32), .int (μ4.1 a0 13)] ⟨hx, hb, hml, hown, hts⟩ hK hd hS (c_X10_fails hk_a0 hc12) (cwV 2 hts gX10_takeNumber_X10_fails rfl rfl rfl hv_X10_fails ⟨Nat.le_of_ble_eq_true rfl, Nat.le_of_ble_eq_true rfl⟩) hk_a0 rfl rfl rfl rfl hl.1 rfl (Nat.le_of_ble_eq_true rfl) dX10_takeNumber_25 ⟨Nat.zero_le _, Nat.zero_le _⟩ (fun H locs hd hS => ?_)
    obtain ⟨rfl, rfl⟩ := so_e h
    exact rt_i hx hb hr hlk hd hS dX10_takeNumber_28
theorem hv_X10_into : yX10_into.cls = RX10 ∧ yX10_into.cls ≠ "java/lang/invoke/MethodHandle" ∧ yX10_into.cls ≠ "java/lang/invoke/VarHandle" ∧ (parseMethodDescriptor yX10_into.desc).map (fun d => d.parameters.length) = some 4 := by decide +kernel
def f_X10_into (μ : Mm) (a0 : Nat) (a1 : Nat) (x2 : Int32) (x3 : Int32) (x4 : Int32) : Option (Int32 × Mm) := bC (f_X10_takeNumber μ a0 x3 x4) (fun r2 μ1 => gd (ckb x2 (ln a1)) (bM (up2 μ1.1 a1 (x2).toNatClampNeg (μ1.1 a0 14), μ1.2) (fun μ5 => some (r2, μ5))))
set_option maxRecDepth 100000 in
theorem c_X10_into {l : Launch} {D : va_G} {cA : Nat → ClassId} {z : Nat} {μ : Mm} {a0 : Nat} {a1 : Nat} {x2 : Int32} {x3 : Int32} {x4 : Int32} {r : Int32} {μ' : Mm} (hk_a0 : kd a0 = 10) (hk_a1 : kd a1 = 11) (h : f_X10_into μ a0 a1 x2 x3 x4 = some (r, μ')) : Ct l D cA z yX10_into wsX10_into 2 48 [.ref (z + a0), .ref (z + a1), .int x2, .int x3, .int x4] μ (some (.int r)) μ' := by
  refine m_in (cc := cX10_into) (maxL := 6) (ret := (some .int)) (own := RX10) (by decide) rfl rfl (Nat.le_of_ble_eq_true rfl) ?_
  intro p e s m below meth c ls X hd hS hl
  obtain ⟨hx, hb, hr, hlk, hml, hown, hts, hK⟩ := id X
  have hl : lv_has ls 6 [(0, .ref (z + a0)), (1, .ref (z + a1)), (2, .int x2), (3, .int x3), (4, .int x4)] := hl
  unfold f_X10_into at h
  refine lv_aload_n hx hb dX10_into_0 rfl (lv_at hl 0 rfl) ?_
  refine lv_iload_n hx hb dX10_into_1 rfl (lv_at hl 3 rfl) ?_
  refine lv_iload hx hb dX10_into_2 (lv_at hl 4 rfl) ?_
  obtain ⟨r2, μ1, hc3, h⟩ := bC_e h
  refine rc_Vi (rest := []) [.int x3, .int x4] ⟨hx, hb, hml, hown, hts⟩ hK hd hS (c_X10_takeNumber hk_a0 hc3) (cwV 2 hts gX10_into_X10_takeNumber rfl rfl rfl hv_X10_takeNumber ⟨Nat.le_of_ble_eq_true rfl, Nat.le_of_ble_eq_true rfl⟩) hk_a0 rfl rfl rfl rfl hl.1 rfl (Nat.le_of_ble_eq_true rfl) dX10_into_4 ⟨Nat.zero_le _, Nat.zero_le _⟩ (fun H locs hd hS => ?_)
  refine lv_istore (lv' := [(5, .int r2), (0, .ref (z + a0)), (1, .ref (z + a1)), (2, .int x2), (3, .int x3), (4, .int x4)]) hx hb dX10_into_7 hl (by decide) rfl (fun ls hl => ?_)
  refine lv_aload_n hx hb dX10_into_9 rfl (lv_at hl 2 rfl) ?_
  refine lv_iload_n hx hb dX10_into_10 rfl (lv_at hl 3 rfl) ?_
  refine lv_aload_n hx hb dX10_into_11 rfl (lv_at hl 1 rfl) ?_
  refine r_geti hx hb hts (fun w h => List.mem_cons_of_mem _ (List.mem_append_right _ (h))) hown hK hd hk_a0 rfl 14 fs_10_14 (hts (.fieldLink RX10 128 "LevelVotesModel" "number" "I") (List.mem_of_getElem? (i := 1) rfl)) dX10_into_12 ?_
  obtain ⟨g4, h⟩ := gd_e h
  refine r_iast hx hb hK hd hS hk_a1 (ckb_in g4) dX10_into_15 (fun μ5 eμ5 H locs hd hS => ?_)
  have h := bM_e eμ5 h
  refine lv_iload hx hb dX10_into_16 (lv_at hl 0 rfl) ?_
  obtain ⟨rfl, rfl⟩ := so_e h
  exact rt_i hx hb hr hlk hd hS dX10_into_18
theorem hv_X10_takeSize : yX10_takeSize.cls = RX10 ∧ yX10_takeSize.cls ≠ "java/lang/invoke/MethodHandle" ∧ yX10_takeSize.cls ≠ "java/lang/invoke/VarHandle" ∧ (parseMethodDescriptor yX10_takeSize.desc).map (fun d => d.parameters.length) = some 0 := by decide +kernel
def f_X10_takeSize (μ : Mm) (a0 : Nat) : Option (Int32 × Mm) := bR (μ.2 a0 16) (fun b1 => bC (f_X10_into μ a0 b1 (0 : Int32) (1 : Int32) (5 : Int32)) (fun r3 μ2 => if r3 ≤ 0 then (bR (μ2.2 a0 16) (fun b6 => bC (f_X10_into μ2 a0 b6 (1 : Int32) (1 : Int32) (4 : Int32)) (fun r8 μ7 => some (r8, μ7)))) else (some (r3, μ2))))
set_option maxRecDepth 100000 in
theorem c_X10_takeSize {l : Launch} {D : va_G} {cA : Nat → ClassId} {z : Nat} {μ : Mm} {a0 : Nat} {r : Int32} {μ' : Mm} (hk_a0 : kd a0 = 10) (h : f_X10_takeSize μ a0 = some (r, μ')) : Ct l D cA z yX10_takeSize wsX10_takeSize 3 73 [.ref (z + a0)] μ (some (.int r)) μ' := by
  refine m_in (cc := cX10_takeSize) (maxL := 2) (ret := (some .int)) (own := RX10) (by decide) rfl rfl (Nat.le_of_ble_eq_true rfl) ?_
  intro p e s m below meth c ls X hd hS hl
  obtain ⟨hx, hb, hr, hlk, hml, hown, hts, hK⟩ := id X
  have hl : lv_has ls 2 [(0, .ref (z + a0))] := hl
  unfold f_X10_takeSize at h
  refine lv_aload_n hx hb dX10_takeSize_0 rfl (lv_at hl 0 rfl) ?_
  refine lv_aload_n hx hb dX10_takeSize_1 rfl (lv_at hl 0 rfl) ?_
  obtain ⟨b1, hb1, h⟩ := bR_e h
  refine r_getr hx hb hts (fun w h => List.mem_cons_of_mem _ (List.mem_append_right _ (h))) hown hK hd hk_a0 hb1 rfl fs_10_16 (hts (.fieldLink RX10 32 "LevelVotesModel" "readSize" "[I") (List.mem_of_getElem? (i := 1) rfl)) dX10_takeSize_2 (fun hq => ?_)
  have hk_b1 : kd b1 = 11 := hq
  refine lv_iconst (v := 0) hx hb dX10_takeSize_5 (by decide) ?_
  refine lv_iconst (v := 1) hx hb dX10_takeSize_6 (by decide) ?_
  refine lv_iconst (v := 5) hx hb dX10_takeSize_7 (by decide) ?_
  obtain ⟨r3, μ2, hc4, h⟩ := bC_e h
  refine rc_Vi (rest := []) [.ref (z + b1), .int (0 : Int32), .int (1 : Int32), .int (5 : Int32)] ⟨hx, hb, hml, hown, hts⟩ hK hd hS (c_X10_into hk_a0 hk_b1 hc4) (cwV 4 hts gX10_takeSize_X10_into rfl rfl rfl hv_X10_into ⟨Nat.le_of_ble_eq_true rfl, Nat.le_of_ble_eq_true rfl⟩) hk_a0 rfl rfl rfl rfl hl.1 rfl (Nat.le_of_ble_eq_true rfl) dX10_takeSize_8 ⟨Nat.zero_le _, Nat.zero_le _⟩ (fun H locs hd hS => ?_)
  refine lv_istore_n (lv' := [(1, .int r3), (0, .ref (z + a0))]) hx hb dX10_takeSize_11 rfl hl (by decide) rfl (fun ls hl => ?_)
  refine lv_iload_n hx hb dX10_takeSize_12 rfl (lv_at hl 0 rfl) ?_
  refine lv_if_le (tgt := 20) hx hb dX10_takeSize_13 (by decide) (fun q5 => ?_) (fun q5 => ?_)
  · have h := if_y q5 h
    refine lv_aload_n hx hb dX10_takeSize_20 rfl (lv_at hl 1 rfl) ?_
    refine lv_aload_n hx hb dX10_takeSize_21 rfl (lv_at hl 1 rfl) ?_
    obtain ⟨b6, hb6, h⟩ := bR_e h
    refine r_getr hx hb hts (fun w h => List.mem_cons_of_mem _ (List.mem_append_right _ (h))) hown hK hd hk_a0 hb6 rfl fs_10_16 (hts (.fieldLink RX10 32 "LevelVotesModel" "readSize" "[I") (List.mem_of_getElem? (i := 1) rfl)) dX10_takeSize_22 (fun hq => ?_)
    have hk_b6 : kd b6 = 11 := hq
    refine lv_iconst (v := 1) hx hb dX10_takeSize_25 (by decide) ?_
    refine lv_iconst (v := 1) hx hb dX10_takeSize_26 (by decide) ?_
    refine lv_iconst (v := 4) hx hb dX10_takeSize_27 (by decide) ?_
    obtain ⟨r8, μ7, hc9, h⟩ := bC_e h
    refine rc_Vi (rest := []) [.ref (z + b6), .int (1 : Int32), .int (1 : Int32), .int (4 : Int32)] ⟨hx, hb, hml, hown, hts⟩ hK hd hS (c_X10_into hk_a0 hk_b6 hc9) (cwV 4 hts gX10_takeSize_X10_into rfl rfl rfl hv_X10_into ⟨Nat.le_of_ble_eq_true rfl, Nat.le_of_ble_eq_true rfl⟩) hk_a0 rfl rfl rfl rfl hl.1 rfl (Nat.le_of_ble_eq_true rfl) dX10_takeSize_28 ⟨Nat.zero_le _, Nat.zero_le _⟩ (fun H locs hd hS => ?_)
    obtain ⟨rfl, rfl⟩ := so_e h
    exact rt_i hx hb hr hlk hd hS dX10_takeSize_31
  · have h := if_n q5 h
    refine lv_iload_n hx hb dX10_takeSize_16 rfl (lv_at hl 0 rfl) ?_
    refine lv_goto (tgt := 31) hx hb dX10_takeSize_17 (by decide) ?_
    obtain ⟨rfl, rfl⟩ := so_e h
    exact rt_i hx hb hr hlk hd hS dX10_takeSize_31
theorem hv_X10_takeGround : yX10_takeGround.cls = RX10 ∧ yX10_takeGround.cls ≠ "java/lang/invoke/MethodHandle" ∧ yX10_takeGround.cls ≠ "java/lang/invoke/VarHandle" ∧ (parseMethodDescriptor yX10_takeGround.desc).map (fun d => d.parameters.length) = some 0 := by decide +kernel
abbrev HL_X10_takeGround_18 (l : Launch) (D : va_G) (cA : Nat → ClassId) (z : Nat) (av : List Value) (r : Int32) (μ' : Mm) (p : Program) (e : Env) (s : State) (m : MethodId) (below : List Frame) (meth : Method) (c : Code) (rc : Mm → Nat → Int32 → Option (Int32 × Mm)) : Prop := ∀ (μ : Mm) (H : Heap) (locs : List Loc) (ls : Array Slot) (a0 : Nat) (x1 : Int32), kd a0 = 10 → Wd D cA z μ H → va_S (Az z) s.heap H locs → lv_has ls 2 [(0, .ref (z + a0)), (1, .int x1)] → rc μ a0 x1 = some (r, μ') → WG l D cA z wsX10_takeGround 3 73 av (some (.int r)) μ' p e s m below meth c H locs (F0 m 18 ls [])
def f_X10_takeGround_L18b (rc18 : Mm → Nat → Int32 → Option (Int32 × Mm)) (μ : Mm) (a0 : Nat) (x1 : Int32) : Option (Int32 × Mm) := if x1 = 0 then (bC (f_X10_here μ a0) (fun r3 μ2 => if r3 = (44 : Int32) then (if (μ2.1 a0 18) = (20 : Int32) then (bC (f_X10_fails μ2 a0 (1 : Int32) (μ2.1 a0 13)) (fun r14 μ13 => some (r14, μ13))) else (bM (up2 μ2.1 a0 13 ((μ2.1 a0 13) + (1 : Int32)), μ2.2) (fun μ7 => bR (μ7.2 a0 17) (fun b8 => bC (f_X10_into μ7 a0 b8 (μ7.1 a0 18) (0 : Int32) (9 : Int32)) (fun r10 μ9 => bM (up2 μ9.1 a0 18 ((μ9.1 a0 18) + (1 : Int32)), μ9.2) (fun μ12 => rc18 μ12 a0 r10)))))) else (some (x1, μ2)))) else (some (x1, μ))
set_option maxRecDepth 100000 in
theorem k_f_X10_takeGround_L18b {l : Launch} {D : va_G} {cA : Nat → ClassId} {z : Nat} {av : List Value} {p : Program} {e : Env} {s : State} {m : MethodId} {below : List Frame} {meth : Method} {c : Code} {r : Int32} {μ' : Mm} (X : Fx D cA RX10 wsX10_takeGround cX10_takeGround 2 (some .int) p s m av.toArray meth c) {rc18 : Mm → Nat → Int32 → Option (Int32 × Mm)} (hrc18 : HL_X10_takeGround_18 l D cA z av r μ' p e s m below meth c rc18) {μ : Mm} {a0 : Nat} {x1 : Int32} (hk_a0 : kd a0 = 10) {H : Heap} {locs : List Loc} {ls : Array Slot} (hd : Wd D cA z μ H) (hS : va_S (Az z) s.heap H locs) (hl : lv_has ls 2 [(0, .ref (z + a0)), (1, .int x1)]) (h : f_X10_takeGround_L18b rc18 μ a0 x1 = some (r, μ')) : WG l D cA z wsX10_takeGround 3 73 av (some (.int r)) μ' p e s m below meth c H locs (F0 m 18 ls []) := by
  obtain ⟨hx, hb, hr, hlk, hml, hown, hts, hK⟩ := id X
  unfold f_X10_takeGround_L18b at h
  refine lv_iload_n hx hb dX10_takeGround_18 rfl (lv_at hl 1 rfl) ?_
  refine lv_if_ne (tgt := 89) hx hb dX10_takeGround_19 (by decide) (fun q1 => ?_) (fun q1 => ?_)
  · have h := if_n q1 h
    refine lv_iload_n hx hb dX10_takeGround_89 rfl (lv_at hl 1 rfl) ?_
    obtain ⟨rfl, rfl⟩ := so_e h
    exact rt_i hx hb hr hlk hd hS dX10_takeGround_90
  · have h := if_y q1 h
    refine lv_aload_n hx hb dX10_takeGround_22 rfl (lv_at hl 0 rfl) ?_
    obtain ⟨r3, μ2, hc4, h⟩ := bC_e h
    refine rc_Vi (rest := []) [] ⟨hx, hb, hml, hown, hts⟩ hK hd hS (c_X10_here hk_a0 hc4) (cwV 0 hts gX10_takeGround_X10_here rfl rfl rfl hv_X10_here ⟨Nat.le_of_ble_eq_true rfl, Nat.le_of_ble_eq_true rfl⟩) hk_a0 rfl rfl rfl rfl hl.1 rfl (Nat.le_of_ble_eq_true rfl) dX10_takeGround_23 ⟨Nat.zero_le _, Nat.zero_le _⟩ (fun H locs hd hS => ?_)
    refine lv_bipush (v := 44) hx hb dX10_takeGround_26 (by decide) ?_
    refine lv_icmp_ne (tgt := 89) hx hb dX10_takeGround_28 (by decide) (fun q5 => ?_) (fun q5 => ?_)
    · have h := if_n q5 h
      refine lv_iload_n hx hb dX10_takeGround_89 rfl (lv_at hl 1 rfl) ?_
      obtain ⟨rfl, rfl⟩ := so_e h
      exact rt_i hx hb hr hlk hd hS dX10_takeGround_90
    · have h := if_y q5 h
      refine lv_aload_n hx hb dX10_takeGround_31 rfl (lv_at hl 0 rfl) ?_
      refine r_geti hx hb hts (fun w h => List.mem_cons_of_mem _ (List.mem_append_right _ (h))) hown hK hd hk_a0 rfl 18 fs_10_18 (hts (.fieldLink RX10 139 "LevelVotesModel" "readMany" "I") (List.mem_of_getElem? (i := 2) rfl)) dX10_takeGround_32 ?_
      refine lv_bipush (v := 20) hx hb dX10_takeGround_35 (by decide) ?_
      refine lv_icmp_ne (tgt := 50) hx hb dX10_takeGround_37 (by decide) (fun q6 => ?_) (fun q6 => ?_)
      · have h := if_n q6 h
        refine lv_aload_n hx hb dX10_takeGround_50 rfl (lv_at hl 0 rfl) ?_
        refine lv_dup hx hb dX10_takeGround_51 rfl ?_
        refine r_geti hx hb hts (fun w h => List.mem_cons_of_mem _ (List.mem_append_right _ (h))) hown hK hd hk_a0 rfl 13 fs_10_13 (hts (.fieldLink RX10 111 "LevelVotesModel" "at0" "I") (List.mem_of_getElem? (i := 3) rfl)) dX10_takeGround_52 ?_
        refine lv_iconst (v := 1) hx hb dX10_takeGround_55 (by decide) ?_
        refine lv_iadd hx hb dX10_takeGround_56 ?_
        refine r_puti hx hb hts (fun w h => List.mem_cons_of_mem _ (List.mem_append_right _ (h))) tyX10 tyX10_ok nmX10 hown hK hd hS hk_a0 rfl 13 fs_10_13 rfl (hts (.fieldLink RX10 111 "LevelVotesModel" "at0" "I") (List.mem_of_getElem? (i := 3) rfl)) (vp_nar_int _) rfl dX10_takeGround_57 (fun μ7 eμ7 H locs hd hS => ?_)
        have h := bM_e eμ7 h
        refine lv_aload_n hx hb dX10_takeGround_60 rfl (lv_at hl 0 rfl) ?_
        refine lv_aload_n hx hb dX10_takeGround_61 rfl (lv_at hl 0 rfl) ?_
        obtain ⟨b8, hb8, h⟩ := bR_e h
        refine r_getr hx hb hts (fun w h => List.mem_cons_of_mem _ (List.mem_append_right _ (h))) hown hK hd hk_a0 hb8 rfl fs_10_17 (hts (.fieldLink RX10 35 "LevelVotesModel" "readGround" "[I") (List.mem_of_getElem? (i := 1) rfl)) dX10_takeGround_62 (fun hq => ?_)
        have hk_b8 : kd b8 = 11 := hq
        refine lv_aload_n hx hb dX10_takeGround_65 rfl (lv_at hl 0 rfl) ?_
        refine r_geti hx hb hts (fun w h => List.mem_cons_of_mem _ (List.mem_append_right _ (h))) hown hK hd hk_a0 rfl 18 fs_10_18 (hts (.fieldLink RX10 139 "LevelVotesModel" "readMany" "I") (List.mem_of_getElem? (i := 2) rfl)) dX10_takeGround_66 ?_
        refine lv_iconst (v := 0) hx hb dX10_takeGround_69 (by decide) ?_
        refine lv_bipush (v := 9) hx hb dX10_takeGround_70 (by decide) ?_
        obtain ⟨r10, μ9, hc11, h⟩ := bC_e h
        refine rc_Vi (rest := []) [.ref (z + b8), .int (μ7.1 a0 18), .int (0 : Int32), .int (9 : Int32)] ⟨hx, hb, hml, hown, hts⟩ hK hd hS (c_X10_into hk_a0 hk_b8 hc11) (cwV 4 hts gX10_takeGround_X10_into rfl rfl rfl hv_X10_into ⟨Nat.le_of_ble_eq_true rfl, Nat.le_of_ble_eq_true rfl⟩) hk_a0 rfl rfl rfl rfl hl.1 rfl (Nat.le_of_ble_eq_true rfl) dX10_takeGround_72 ⟨Nat.zero_le _, Nat.zero_le _⟩ (fun H locs hd hS => ?_)
        refine lv_istore_n (lv' := [(1, .int r10), (0, .ref (z + a0))]) hx hb dX10_takeGround_75 rfl hl (by decide) rfl (fun ls hl => ?_)
        refine lv_aload_n hx hb dX10_takeGround_76 rfl (lv_at hl 1 rfl) ?_
        refine lv_dup hx hb dX10_takeGround_77 rfl ?_
        refine r_geti hx hb hts (fun w h => List.mem_cons_of_mem _ (List.mem_append_right _ (h))) hown hK hd hk_a0 rfl 18 fs_10_18 (hts (.fieldLink RX10 139 "LevelVotesModel" "readMany" "I") (List.mem_of_getElem? (i := 2) rfl)) dX10_takeGround_78 ?_
        refine lv_iconst (v := 1) hx hb dX10_takeGround_81 (by decide) ?_
        refine lv_iadd hx hb dX10_takeGround_82 ?_
        refine r_puti hx hb hts (fun w h => List.mem_cons_of_mem _ (List.mem_append_right _ (h))) tyX10 tyX10_ok nmX10 hown hK hd hS hk_a0 rfl 18 fs_10_18 rfl (hts (.fieldLink RX10 139 "LevelVotesModel" "readMany" "I") (List.mem_of_getElem? (i := 2) rfl)) (vp_nar_int _) rfl dX10_takeGround_83 (fun μ12 eμ12 H locs hd hS => ?_)
        have h := bM_e eμ12 h
        refine lv_goto (tgt := 18) hx hb dX10_takeGround_86 (by decide) ?_
        exact hrc18 _ _ _ _ _ _ hk_a0 hd hS (lv_sub hl [1, 0] rfl) h
      · have h := if_y q6 h
        refine lv_aload_n hx hb dX10_takeGround_40 rfl (lv_at hl 0 rfl) ?_
        refine lv_iconst (v := 1) hx hb dX10_takeGround_41 (by decide) ?_
        refine lv_aload_n hx hb dX10_takeGround_42 rfl (lv_at hl 0 rfl) ?_
        refine r_geti hx hb hts (fun w h => List.mem_cons_of_mem _ (List.mem_append_right _ (h))) hown hK hd hk_a0 rfl 13 fs_10_13 (hts (.fieldLink RX10 111 "LevelVotesModel" "at0" "I") (List.mem_of_getElem? (i := 3) rfl)) dX10_takeGround_43 ?_
        obtain ⟨r14, μ13, hc15, h⟩ := bC_e h
        refine rc_Vi (rest := []) [.int (1 : Int32), .int (μ2.1 a0 13)] ⟨hx, hb, hml, hown, hts⟩ hK hd hS (c_X10_fails hk_a0 hc15) (cwV 2 hts gX10_takeGround_X10_fails rfl rfl rfl hv_X10_fails ⟨Nat.le_of_ble_eq_true rfl, Nat.le_of_ble_eq_true rfl⟩) hk_a0 rfl rfl rfl rfl hl.1 rfl (Nat.le_of_ble_eq_true rfl) dX10_takeGround_46 ⟨Nat.zero_le _, Nat.zero_le _⟩ (fun H locs hd hS => ?_)
        obtain ⟨rfl, rfl⟩ := so_e h
        exact rt_i hx hb hr hlk hd hS dX10_takeGround_49
def f_X10_takeGround_L18 : Nat → Mm → Nat → Int32 → Option (Int32 × Mm)
  | 0 => fun _ _ _ => none
  | n + 1 => fun μ a0 x1 => f_X10_takeGround_L18b (f_X10_takeGround_L18 n) μ a0 x1
theorem k_f_X10_takeGround_L18 {l : Launch} {D : va_G} {cA : Nat → ClassId} {z : Nat} {av : List Value} {p : Program} {e : Env} {s : State} {m : MethodId} {below : List Frame} {meth : Method} {c : Code} {r : Int32} {μ' : Mm} (X : Fx D cA RX10 wsX10_takeGround cX10_takeGround 2 (some .int) p s m av.toArray meth c) (n : Nat) : HL_X10_takeGround_18 l D cA z av r μ' p e s m below meth c (f_X10_takeGround_L18 n) := by
  induction n with
  | zero => intro _ _ _ _ _ _ _ _ _ _ h; have h2 : (none : Option _) = some _ := h; cases h2
  | succ n ih => intro μ H locs ls a0 x1 hk_a0 hd hS hl h; exact k_f_X10_takeGround_L18b X ih hk_a0 hd hS hl h
def f_X10_takeGround (μ : Mm) (a0 : Nat) : Option (Int32 × Mm) := bR (μ.2 a0 17) (fun b1 => bC (f_X10_into μ a0 b1 (0 : Int32) (0 : Int32) (9 : Int32)) (fun r3 μ2 => bM (up2 μ2.1 a0 18 (1 : Int32), μ2.2) (fun μ5 => f_X10_takeGround_L18 FU μ5 a0 r3)))
set_option maxRecDepth 100000 in
theorem c_X10_takeGround {l : Launch} {D : va_G} {cA : Nat → ClassId} {z : Nat} {μ : Mm} {a0 : Nat} {r : Int32} {μ' : Mm} (hk_a0 : kd a0 = 10) (h : f_X10_takeGround μ a0 = some (r, μ')) : Ct l D cA z yX10_takeGround wsX10_takeGround 3 73 [.ref (z + a0)] μ (some (.int r)) μ' := by
  refine m_in (cc := cX10_takeGround) (maxL := 2) (ret := (some .int)) (own := RX10) (by decide) rfl rfl (Nat.le_of_ble_eq_true rfl) ?_
  intro p e s m below meth c ls X hd hS hl
  obtain ⟨hx, hb, hr, hlk, hml, hown, hts, hK⟩ := id X
  have hl : lv_has ls 2 [(0, .ref (z + a0))] := hl
  unfold f_X10_takeGround at h
  refine lv_aload_n hx hb dX10_takeGround_0 rfl (lv_at hl 0 rfl) ?_
  refine lv_aload_n hx hb dX10_takeGround_1 rfl (lv_at hl 0 rfl) ?_
  obtain ⟨b1, hb1, h⟩ := bR_e h
  refine r_getr hx hb hts (fun w h => List.mem_cons_of_mem _ (List.mem_append_right _ (h))) hown hK hd hk_a0 hb1 rfl fs_10_17 (hts (.fieldLink RX10 35 "LevelVotesModel" "readGround" "[I") (List.mem_of_getElem? (i := 1) rfl)) dX10_takeGround_2 (fun hq => ?_)
  have hk_b1 : kd b1 = 11 := hq
  refine lv_iconst (v := 0) hx hb dX10_takeGround_5 (by decide) ?_
  refine lv_iconst (v := 0) hx hb dX10_takeGround_6 (by decide) ?_
  refine lv_bipush (v := 9) hx hb dX10_takeGround_7 (by decide) ?_
  obtain ⟨r3, μ2, hc4, h⟩ := bC_e h
  refine rc_Vi (rest := []) [.ref (z + b1), .int (0 : Int32), .int (0 : Int32), .int (9 : Int32)] ⟨hx, hb, hml, hown, hts⟩ hK hd hS (c_X10_into hk_a0 hk_b1 hc4) (cwV 4 hts gX10_takeGround_X10_into rfl rfl rfl hv_X10_into ⟨Nat.le_of_ble_eq_true rfl, Nat.le_of_ble_eq_true rfl⟩) hk_a0 rfl rfl rfl rfl hl.1 rfl (Nat.le_of_ble_eq_true rfl) dX10_takeGround_9 ⟨Nat.zero_le _, Nat.zero_le _⟩ (fun H locs hd hS => ?_)
  refine lv_istore_n (lv' := [(1, .int r3), (0, .ref (z + a0))]) hx hb dX10_takeGround_12 rfl hl (by decide) rfl (fun ls hl => ?_)
  refine lv_aload_n hx hb dX10_takeGround_13 rfl (lv_at hl 1 rfl) ?_
  refine lv_iconst (v := 1) hx hb dX10_takeGround_14 (by decide) ?_
  refine r_puti hx hb hts (fun w h => List.mem_cons_of_mem _ (List.mem_append_right _ (h))) tyX10 tyX10_ok nmX10 hown hK hd hS hk_a0 rfl 18 fs_10_18 rfl (hts (.fieldLink RX10 139 "LevelVotesModel" "readMany" "I") (List.mem_of_getElem? (i := 2) rfl)) (vp_nar_int _) rfl dX10_takeGround_15 (fun μ5 eμ5 H locs hd hS => ?_)
  have h := bM_e eμ5 h
  exact k_f_X10_takeGround_L18 X FU _ _ _ _ _ _ hk_a0 hd hS (lv_sub hl [1, 0] rfl) h
theorem hv_X10_takeItem : yX10_takeItem.cls = RX10 ∧ yX10_takeItem.cls ≠ "java/lang/invoke/MethodHandle" ∧ yX10_takeItem.cls ≠ "java/lang/invoke/VarHandle" ∧ (parseMethodDescriptor yX10_takeItem.desc).map (fun d => d.parameters.length) = some 0 := by decide +kernel
def f_X10_takeItem_j124 (μ : Mm) (a0 : Nat) (x1 : Int32) (x4 : Int32) : Option (Int32 × Mm) := if x4 ≤ 0 then (bR (μ.2 a0 22) (fun b2 => bC (f_X10_into μ a0 b2 x1 (0 : Int32) (9 : Int32)) (fun r4 μ3 => some (r4, μ3)))) else (some (x4, μ))
set_option maxRecDepth 100000 in
theorem k_f_X10_takeItem_j124 {l : Launch} {D : va_G} {cA : Nat → ClassId} {z : Nat} {av : List Value} {p : Program} {e : Env} {s : State} {m : MethodId} {below : List Frame} {meth : Method} {c : Code} {r : Int32} {μ' : Mm} (X : Fx D cA RX10 wsX10_takeItem cX10_takeItem 5 (some .int) p s m av.toArray meth c) {μ : Mm} {a0 : Nat} {x1 : Int32} {x4 : Int32} (hk_a0 : kd a0 = 10) {H : Heap} {locs : List Loc} {ls : Array Slot} (hd : Wd D cA z μ H) (hS : va_S (Az z) s.heap H locs) (hl : lv_has ls 5 [(0, .ref (z + a0)), (1, .int x1), (4, .int x4)]) (h : f_X10_takeItem_j124 μ a0 x1 x4 = some (r, μ')) : WG l D cA z wsX10_takeItem 3 73 av (some (.int r)) μ' p e s m below meth c H locs (F0 m 124 ls []) := by
  obtain ⟨hx, hb, hr, hlk, hml, hown, hts, hK⟩ := id X
  unfold f_X10_takeItem_j124 at h
  refine lv_iload hx hb dX10_takeItem_124 (lv_at hl 2 rfl) ?_
  refine lv_if_le (tgt := 134) hx hb dX10_takeItem_126 (by decide) (fun q1 => ?_) (fun q1 => ?_)
  · have h := if_y q1 h
    refine lv_aload_n hx hb dX10_takeItem_134 rfl (lv_at hl 0 rfl) ?_
    refine lv_aload_n hx hb dX10_takeItem_135 rfl (lv_at hl 0 rfl) ?_
    obtain ⟨b2, hb2, h⟩ := bR_e h
    refine r_getr hx hb hts (fun w h => List.mem_cons_of_mem _ (List.mem_append_right _ (h))) hown hK hd hk_a0 hb2 rfl fs_10_22 (hts (.fieldLink RX10 44 "LevelVotesModel" "readLevel" "[I") (List.mem_of_getElem? (i := 6) rfl)) dX10_takeItem_136 (fun hq => ?_)
    have hk_b2 : kd b2 = 11 := hq
    refine lv_iload_n hx hb dX10_takeItem_139 rfl (lv_at hl 1 rfl) ?_
    refine lv_iconst (v := 0) hx hb dX10_takeItem_140 (by decide) ?_
    refine lv_bipush (v := 9) hx hb dX10_takeItem_141 (by decide) ?_
    obtain ⟨r4, μ3, hc5, h⟩ := bC_e h
    refine rc_Vi (rest := []) [.ref (z + b2), .int x1, .int (0 : Int32), .int (9 : Int32)] ⟨hx, hb, hml, hown, hts⟩ hK hd hS (c_X10_into hk_a0 hk_b2 hc5) (cwV 4 hts gX10_takeItem_X10_into rfl rfl rfl hv_X10_into ⟨Nat.le_of_ble_eq_true rfl, Nat.le_of_ble_eq_true rfl⟩) hk_a0 rfl rfl rfl rfl hl.1 rfl (Nat.le_of_ble_eq_true rfl) dX10_takeItem_143 ⟨Nat.zero_le _, Nat.zero_le _⟩ (fun H locs hd hS => ?_)
    obtain ⟨rfl, rfl⟩ := so_e h
    exact rt_i hx hb hr hlk hd hS dX10_takeItem_146
  · have h := if_n q1 h
    refine lv_iload hx hb dX10_takeItem_129 (lv_at hl 2 rfl) ?_
    refine lv_goto (tgt := 146) hx hb dX10_takeItem_131 (by decide) ?_
    obtain ⟨rfl, rfl⟩ := so_e h
    exact rt_i hx hb hr hlk hd hS dX10_takeItem_146
def f_X10_takeItem_j114 (μ : Mm) (a0 : Nat) : Option (Int32 × Mm) := bC (f_X10_fails μ a0 (4 : Int32) (μ.1 a0 15)) (fun r2 μ1 => some (r2, μ1))
set_option maxRecDepth 100000 in
theorem k_f_X10_takeItem_j114 {l : Launch} {D : va_G} {cA : Nat → ClassId} {z : Nat} {av : List Value} {p : Program} {e : Env} {s : State} {m : MethodId} {below : List Frame} {meth : Method} {c : Code} {r : Int32} {μ' : Mm} (X : Fx D cA RX10 wsX10_takeItem cX10_takeItem 5 (some .int) p s m av.toArray meth c) {μ : Mm} {a0 : Nat} (hk_a0 : kd a0 = 10) {H : Heap} {locs : List Loc} {ls : Array Slot} (hd : Wd D cA z μ H) (hS : va_S (Az z) s.heap H locs) (hl : lv_has ls 5 [(0, .ref (z + a0))]) (h : f_X10_takeItem_j114 μ a0 = some (r, μ')) : WG l D cA z wsX10_takeItem 3 73 av (some (.int r)) μ' p e s m below meth c H locs (F0 m 114 ls []) := by
  obtain ⟨hx, hb, hr, hlk, hml, hown, hts, hK⟩ := id X
  unfold f_X10_takeItem_j114 at h
  refine lv_aload_n hx hb dX10_takeItem_114 rfl (lv_at hl 0 rfl) ?_
  refine lv_iconst (v := 4) hx hb dX10_takeItem_115 (by decide) ?_
  refine lv_aload_n hx hb dX10_takeItem_116 rfl (lv_at hl 0 rfl) ?_
  refine r_geti hx hb hts (fun w h => List.mem_cons_of_mem _ (List.mem_append_right _ (h))) hown hK hd hk_a0 rfl 15 fs_10_15 (hts (.fieldLink RX10 125 "LevelVotesModel" "numberAt" "I") (List.mem_of_getElem? (i := 5) rfl)) dX10_takeItem_117 ?_
  obtain ⟨r2, μ1, hc3, h⟩ := bC_e h
  refine rc_Vi (rest := []) [.int (4 : Int32), .int (μ.1 a0 15)] ⟨hx, hb, hml, hown, hts⟩ hK hd hS (c_X10_fails hk_a0 hc3) (cwV 2 hts gX10_takeItem_X10_fails rfl rfl rfl hv_X10_fails ⟨Nat.le_of_ble_eq_true rfl, Nat.le_of_ble_eq_true rfl⟩) hk_a0 rfl rfl rfl rfl hl.1 rfl (Nat.le_of_ble_eq_true rfl) dX10_takeItem_120 ⟨Nat.zero_le _, Nat.zero_le _⟩ (fun H locs hd hS => ?_)
  obtain ⟨rfl, rfl⟩ := so_e h
  exact rt_i hx hb hr hlk hd hS dX10_takeItem_123
def f_X10_takeItem_j69 (μ : Mm) (a0 : Nat) (x1 : Int32) (x2 : Int32) (ys0 : Int32) : Option (Int32 × Mm) := if ys0 = 0 then (bR (μ.2 a0 21) (fun b2 => gd (ckb x1 (ln b2)) (gd (ck0 x2) (bR (μ.2 a0 20) (fun b5 => gd (ckb x1 (ln b5)) (gd (ck0 x2) (if ((μ.1 b2 (x1).toNatClampNeg) / x2) < ((μ.1 b5 (x1).toNatClampNeg) / x2) then (f_X10_takeItem_j114 μ a0) else (bR (μ.2 a0 21) (fun b9 => gd (ckb x1 (ln b9)) (gd (ck0 x2) (bR (μ.2 a0 20) (fun b12 => gd (ckb x1 (ln b12)) (gd (ck0 x2) (if ((μ.1 b12 (x1).toNatClampNeg) - (μ.1 b12 (x1).toNatClampNeg) / x2 * x2) ≤ ((μ.1 b9 (x1).toNatClampNeg) - (μ.1 b9 (x1).toNatClampNeg) / x2 * x2) then (f_X10_takeItem_j124 μ a0 x1 ys0) else (f_X10_takeItem_j114 μ a0))))))))))))))) else (f_X10_takeItem_j124 μ a0 x1 ys0)
set_option maxRecDepth 100000 in
theorem k_f_X10_takeItem_j69 {l : Launch} {D : va_G} {cA : Nat → ClassId} {z : Nat} {av : List Value} {p : Program} {e : Env} {s : State} {m : MethodId} {below : List Frame} {meth : Method} {c : Code} {r : Int32} {μ' : Mm} (X : Fx D cA RX10 wsX10_takeItem cX10_takeItem 5 (some .int) p s m av.toArray meth c) {μ : Mm} {a0 : Nat} {x1 : Int32} {x2 : Int32} {ys0 : Int32} (hk_a0 : kd a0 = 10) {H : Heap} {locs : List Loc} {ls : Array Slot} (hd : Wd D cA z μ H) (hS : va_S (Az z) s.heap H locs) (hl : lv_has ls 5 [(0, .ref (z + a0)), (1, .int x1), (2, .int x2)]) (h : f_X10_takeItem_j69 μ a0 x1 x2 ys0 = some (r, μ')) : WG l D cA z wsX10_takeItem 3 73 av (some (.int r)) μ' p e s m below meth c H locs (F0 m 69 ls [.int ys0]) := by
  obtain ⟨hx, hb, hr, hlk, hml, hown, hts, hK⟩ := id X
  unfold f_X10_takeItem_j69 at h
  refine lv_istore (lv' := [(4, .int ys0), (0, .ref (z + a0)), (1, .int x1), (2, .int x2)]) hx hb dX10_takeItem_69 hl (by decide) rfl (fun ls hl => ?_)
  refine lv_iload hx hb dX10_takeItem_71 (lv_at hl 0 rfl) ?_
  refine lv_if_ne (tgt := 124) hx hb dX10_takeItem_73 (by decide) (fun q1 => ?_) (fun q1 => ?_)
  · have h := if_n q1 h
    exact k_f_X10_takeItem_j124 X hk_a0 hd hS (lv_sub hl [1, 2, 0] rfl) h
  · have h := if_y q1 h
    refine lv_aload_n hx hb dX10_takeItem_76 rfl (lv_at hl 1 rfl) ?_
    obtain ⟨b2, hb2, h⟩ := bR_e h
    refine r_getr hx hb hts (fun w h => List.mem_cons_of_mem _ (List.mem_append_right _ (h))) hown hK hd hk_a0 hb2 rfl fs_10_21 (hts (.fieldLink RX10 41 "LevelVotesModel" "readTo" "[I") (List.mem_of_getElem? (i := 4) rfl)) dX10_takeItem_77 (fun hq => ?_)
    have hk_b2 : kd b2 = 11 := hq
    refine lv_iload_n hx hb dX10_takeItem_80 rfl (lv_at hl 2 rfl) ?_
    obtain ⟨g3, h⟩ := gd_e h
    refine r_iald hx hb hK hd hk_b2 (ckb_in g3) dX10_takeItem_81 ?_
    refine lv_iload_n hx hb dX10_takeItem_82 rfl (lv_at hl 3 rfl) ?_
    obtain ⟨g4, h⟩ := gd_e h
    refine lv_idiv hx hb dX10_takeItem_83 (ck0_ne g4) ?_
    refine lv_aload_n hx hb dX10_takeItem_84 rfl (lv_at hl 1 rfl) ?_
    obtain ⟨b5, hb5, h⟩ := bR_e h
    refine r_getr hx hb hts (fun w h => List.mem_cons_of_mem _ (List.mem_append_right _ (h))) hown hK hd hk_a0 hb5 rfl fs_10_20 (hts (.fieldLink RX10 38 "LevelVotesModel" "readFrom" "[I") (List.mem_of_getElem? (i := 3) rfl)) dX10_takeItem_85 (fun hq => ?_)
    have hk_b5 : kd b5 = 11 := hq
    refine lv_iload_n hx hb dX10_takeItem_88 rfl (lv_at hl 2 rfl) ?_
    obtain ⟨g6, h⟩ := gd_e h
    refine r_iald hx hb hK hd hk_b5 (ckb_in g6) dX10_takeItem_89 ?_
    refine lv_iload_n hx hb dX10_takeItem_90 rfl (lv_at hl 3 rfl) ?_
    obtain ⟨g7, h⟩ := gd_e h
    refine lv_idiv hx hb dX10_takeItem_91 (ck0_ne g7) ?_
    refine lv_icmp_lt (tgt := 114) hx hb dX10_takeItem_92 (by decide) (fun q8 => ?_) (fun q8 => ?_)
    · have h := if_y q8 h
      exact k_f_X10_takeItem_j114 X hk_a0 hd hS (lv_sub hl [1] rfl) h
    · have h := if_n q8 h
      refine lv_aload_n hx hb dX10_takeItem_95 rfl (lv_at hl 1 rfl) ?_
      obtain ⟨b9, hb9, h⟩ := bR_e h
      refine r_getr hx hb hts (fun w h => List.mem_cons_of_mem _ (List.mem_append_right _ (h))) hown hK hd hk_a0 hb9 rfl fs_10_21 (hts (.fieldLink RX10 41 "LevelVotesModel" "readTo" "[I") (List.mem_of_getElem? (i := 4) rfl)) dX10_takeItem_96 (fun hq => ?_)
      have hk_b9 : kd b9 = 11 := hq
      refine lv_iload_n hx hb dX10_takeItem_99 rfl (lv_at hl 2 rfl) ?_
      obtain ⟨g10, h⟩ := gd_e h
      refine r_iald hx hb hK hd hk_b9 (ckb_in g10) dX10_takeItem_100 ?_
      refine lv_iload_n hx hb dX10_takeItem_101 rfl (lv_at hl 3 rfl) ?_
      obtain ⟨g11, h⟩ := gd_e h
      refine lv_irem hx hb dX10_takeItem_102 (ck0_ne g11) ?_
      refine lv_aload_n hx hb dX10_takeItem_103 rfl (lv_at hl 1 rfl) ?_
      obtain ⟨b12, hb12, h⟩ := bR_e h
      refine r_getr hx hb hts (fun w h => List.mem_cons_of_mem _ (List.mem_append_right _ (h))) hown hK hd hk_a0 hb12 rfl fs_10_20 (hts (.fieldLink RX10 38 "LevelVotesModel" "readFrom" "[I") (List.mem_of_getElem? (i := 3) rfl)) dX10_takeItem_104 (fun hq => ?_)
      have hk_b12 : kd b12 = 11 := hq
      refine lv_iload_n hx hb dX10_takeItem_107 rfl (lv_at hl 2 rfl) ?_
      obtain ⟨g13, h⟩ := gd_e h
      refine r_iald hx hb hK hd hk_b12 (ckb_in g13) dX10_takeItem_108 ?_
      refine lv_iload_n hx hb dX10_takeItem_109 rfl (lv_at hl 3 rfl) ?_
      obtain ⟨g14, h⟩ := gd_e h
      refine lv_irem hx hb dX10_takeItem_110 (ck0_ne g14) ?_
      refine lv_icmp_ge (tgt := 124) hx hb dX10_takeItem_111 (by decide) (fun q15 => ?_) (fun q15 => ?_)
      · have h := if_y q15 h
        exact k_f_X10_takeItem_j124 X hk_a0 hd hS (lv_sub hl [1, 2, 0] rfl) h
      · have h := if_n q15 h
        exact k_f_X10_takeItem_j114 X hk_a0 hd hS (lv_sub hl [1] rfl) h
def f_X10_takeItem (μ : Mm) (a0 : Nat) : Option (Int32 × Mm) := bI (μ.1 a0 19) (fun v1 => bM (up2 μ.1 a0 19 ((μ.1 a0 19) + (1 : Int32)), μ.2) (fun μ2 => bR (μ2.2 a0 16) (fun b3 => gd (ckb (0 : Int32) (ln b3)) (bI (μ2.1 b3 ((0 : Int32)).toNatClampNeg) (fun v5 => bR (μ2.2 a0 16) (fun b6 => gd (ckb (1 : Int32) (ln b6)) (bI (v5 * (μ2.1 b6 ((1 : Int32)).toNatClampNeg)) (fun v8 => bR (μ2.2 a0 20) (fun b9 => bC (f_X10_into μ2 a0 b9 v1 (0 : Int32) (v8 - (1 : Int32))) (fun r11 μ10 => if r11 ≤ 0 then (bR (μ10.2 a0 21) (fun b14 => bC (f_X10_into μ10 a0 b14 v1 (0 : Int32) (v8 - (1 : Int32))) (fun r16 μ15 => f_X10_takeItem_j69 μ15 a0 v1 v5 r16))) else (f_X10_takeItem_j69 μ10 a0 v1 v5 r11)))))))))))
set_option maxRecDepth 100000 in
theorem c_X10_takeItem {l : Launch} {D : va_G} {cA : Nat → ClassId} {z : Nat} {μ : Mm} {a0 : Nat} {r : Int32} {μ' : Mm} (hk_a0 : kd a0 = 10) (h : f_X10_takeItem μ a0 = some (r, μ')) : Ct l D cA z yX10_takeItem wsX10_takeItem 3 73 [.ref (z + a0)] μ (some (.int r)) μ' := by
  refine m_in (cc := cX10_takeItem) (maxL := 5) (ret := (some .int)) (own := RX10) (by decide) rfl rfl (Nat.le_of_ble_eq_true rfl) ?_
  intro p e s m below meth c ls X hd hS hl
  obtain ⟨hx, hb, hr, hlk, hml, hown, hts, hK⟩ := id X
  have hl : lv_has ls 5 [(0, .ref (z + a0))] := hl
  unfold f_X10_takeItem at h
  refine lv_aload_n hx hb dX10_takeItem_0 rfl (lv_at hl 0 rfl) ?_
  refine r_geti hx hb hts (fun w h => List.mem_cons_of_mem _ (List.mem_append_right _ (h))) hown hK hd hk_a0 rfl 19 fs_10_19 (hts (.fieldLink RX10 142 "LevelVotesModel" "readItems" "I") (List.mem_of_getElem? (i := 1) rfl)) dX10_takeItem_1 ?_
  refine lv_topi (fun v1 ev1 => ?_)
  have h := bI_e ev1 h
  refine lv_istore_n (lv' := [(1, .int v1), (0, .ref (z + a0))]) hx hb dX10_takeItem_4 rfl hl (by decide) rfl (fun ls hl => ?_)
  refine lv_aload_n hx hb dX10_takeItem_5 rfl (lv_at hl 1 rfl) ?_
  refine lv_dup hx hb dX10_takeItem_6 rfl ?_
  refine r_geti hx hb hts (fun w h => List.mem_cons_of_mem _ (List.mem_append_right _ (h))) hown hK hd hk_a0 rfl 19 fs_10_19 (hts (.fieldLink RX10 142 "LevelVotesModel" "readItems" "I") (List.mem_of_getElem? (i := 1) rfl)) dX10_takeItem_7 ?_
  refine lv_iconst (v := 1) hx hb dX10_takeItem_10 (by decide) ?_
  refine lv_iadd hx hb dX10_takeItem_11 ?_
  refine r_puti hx hb hts (fun w h => List.mem_cons_of_mem _ (List.mem_append_right _ (h))) tyX10 tyX10_ok nmX10 hown hK hd hS hk_a0 rfl 19 fs_10_19 rfl (hts (.fieldLink RX10 142 "LevelVotesModel" "readItems" "I") (List.mem_of_getElem? (i := 1) rfl)) (vp_nar_int _) rfl dX10_takeItem_12 (fun μ2 eμ2 H locs hd hS => ?_)
  have h := bM_e eμ2 h
  refine lv_aload_n hx hb dX10_takeItem_15 rfl (lv_at hl 1 rfl) ?_
  obtain ⟨b3, hb3, h⟩ := bR_e h
  refine r_getr hx hb hts (fun w h => List.mem_cons_of_mem _ (List.mem_append_right _ (h))) hown hK hd hk_a0 hb3 rfl fs_10_16 (hts (.fieldLink RX10 32 "LevelVotesModel" "readSize" "[I") (List.mem_of_getElem? (i := 2) rfl)) dX10_takeItem_16 (fun hq => ?_)
  have hk_b3 : kd b3 = 11 := hq
  refine lv_iconst (v := 0) hx hb dX10_takeItem_19 (by decide) ?_
  obtain ⟨g4, h⟩ := gd_e h
  refine r_iald hx hb hK hd hk_b3 (ckb_in g4) dX10_takeItem_20 ?_
  refine lv_topi (fun v5 ev5 => ?_)
  have h := bI_e ev5 h
  refine lv_istore_n (lv' := [(2, .int v5), (1, .int v1), (0, .ref (z + a0))]) hx hb dX10_takeItem_21 rfl hl (by decide) rfl (fun ls hl => ?_)
  refine lv_iload_n hx hb dX10_takeItem_22 rfl (lv_at hl 0 rfl) ?_
  refine lv_aload_n hx hb dX10_takeItem_23 rfl (lv_at hl 2 rfl) ?_
  obtain ⟨b6, hb6, h⟩ := bR_e h
  refine r_getr hx hb hts (fun w h => List.mem_cons_of_mem _ (List.mem_append_right _ (h))) hown hK hd hk_a0 hb6 rfl fs_10_16 (hts (.fieldLink RX10 32 "LevelVotesModel" "readSize" "[I") (List.mem_of_getElem? (i := 2) rfl)) dX10_takeItem_24 (fun hq => ?_)
  have hk_b6 : kd b6 = 11 := hq
  refine lv_iconst (v := 1) hx hb dX10_takeItem_27 (by decide) ?_
  obtain ⟨g7, h⟩ := gd_e h
  refine r_iald hx hb hK hd hk_b6 (ckb_in g7) dX10_takeItem_28 ?_
  refine lv_imul hx hb dX10_takeItem_29 ?_
  refine lv_topi (fun v8 ev8 => ?_)
  have h := bI_e ev8 h
  refine lv_istore_n (lv' := [(3, .int v8), (2, .int v5), (1, .int v1), (0, .ref (z + a0))]) hx hb dX10_takeItem_30 rfl hl (by decide) rfl (fun ls hl => ?_)
  refine lv_aload_n hx hb dX10_takeItem_31 rfl (lv_at hl 3 rfl) ?_
  refine lv_aload_n hx hb dX10_takeItem_32 rfl (lv_at hl 3 rfl) ?_
  obtain ⟨b9, hb9, h⟩ := bR_e h
  refine r_getr hx hb hts (fun w h => List.mem_cons_of_mem _ (List.mem_append_right _ (h))) hown hK hd hk_a0 hb9 rfl fs_10_20 (hts (.fieldLink RX10 38 "LevelVotesModel" "readFrom" "[I") (List.mem_of_getElem? (i := 3) rfl)) dX10_takeItem_33 (fun hq => ?_)
  have hk_b9 : kd b9 = 11 := hq
  refine lv_iload_n hx hb dX10_takeItem_36 rfl (lv_at hl 2 rfl) ?_
  refine lv_iconst (v := 0) hx hb dX10_takeItem_37 (by decide) ?_
  refine lv_iload_n hx hb dX10_takeItem_38 rfl (lv_at hl 0 rfl) ?_
  refine lv_iconst (v := 1) hx hb dX10_takeItem_39 (by decide) ?_
  refine lv_isub hx hb dX10_takeItem_40 ?_
  obtain ⟨r11, μ10, hc12, h⟩ := bC_e h
  refine rc_Vi (rest := []) [.ref (z + b9), .int v1, .int (0 : Int32), .int (v8 - (1 : Int32))] ⟨hx, hb, hml, hown, hts⟩ hK hd hS (c_X10_into hk_a0 hk_b9 hc12) (cwV 4 hts gX10_takeItem_X10_into rfl rfl rfl hv_X10_into ⟨Nat.le_of_ble_eq_true rfl, Nat.le_of_ble_eq_true rfl⟩) hk_a0 rfl rfl rfl rfl hl.1 rfl (Nat.le_of_ble_eq_true rfl) dX10_takeItem_41 ⟨Nat.zero_le _, Nat.zero_le _⟩ (fun H locs hd hS => ?_)
  refine lv_istore (lv' := [(4, .int r11), (3, .int v8), (2, .int v5), (1, .int v1), (0, .ref (z + a0))]) hx hb dX10_takeItem_44 hl (by decide) rfl (fun ls hl => ?_)
  refine lv_iload hx hb dX10_takeItem_46 (lv_at hl 0 rfl) ?_
  refine lv_if_le (tgt := 56) hx hb dX10_takeItem_48 (by decide) (fun q13 => ?_) (fun q13 => ?_)
  · have h := if_y q13 h
    refine lv_aload_n hx hb dX10_takeItem_56 rfl (lv_at hl 4 rfl) ?_
    refine lv_aload_n hx hb dX10_takeItem_57 rfl (lv_at hl 4 rfl) ?_
    obtain ⟨b14, hb14, h⟩ := bR_e h
    refine r_getr hx hb hts (fun w h => List.mem_cons_of_mem _ (List.mem_append_right _ (h))) hown hK hd hk_a0 hb14 rfl fs_10_21 (hts (.fieldLink RX10 41 "LevelVotesModel" "readTo" "[I") (List.mem_of_getElem? (i := 4) rfl)) dX10_takeItem_58 (fun hq => ?_)
    have hk_b14 : kd b14 = 11 := hq
    refine lv_iload_n hx hb dX10_takeItem_61 rfl (lv_at hl 3 rfl) ?_
    refine lv_iconst (v := 0) hx hb dX10_takeItem_62 (by decide) ?_
    refine lv_iload_n hx hb dX10_takeItem_63 rfl (lv_at hl 1 rfl) ?_
    refine lv_iconst (v := 1) hx hb dX10_takeItem_64 (by decide) ?_
    refine lv_isub hx hb dX10_takeItem_65 ?_
    obtain ⟨r16, μ15, hc17, h⟩ := bC_e h
    refine rc_Vi (rest := []) [.ref (z + b14), .int v1, .int (0 : Int32), .int (v8 - (1 : Int32))] ⟨hx, hb, hml, hown, hts⟩ hK hd hS (c_X10_into hk_a0 hk_b14 hc17) (cwV 4 hts gX10_takeItem_X10_into rfl rfl rfl hv_X10_into ⟨Nat.le_of_ble_eq_true rfl, Nat.le_of_ble_eq_true rfl⟩) hk_a0 rfl rfl rfl rfl hl.1 rfl (Nat.le_of_ble_eq_true rfl) dX10_takeItem_66 ⟨Nat.zero_le _, Nat.zero_le _⟩ (fun H locs hd hS => ?_)
    exact k_f_X10_takeItem_j69 X hk_a0 hd hS (lv_sub hl [4, 3, 2] rfl) h
  · have h := if_n q13 h
    refine lv_iload hx hb dX10_takeItem_51 (lv_at hl 0 rfl) ?_
    refine lv_goto (tgt := 69) hx hb dX10_takeItem_53 (by decide) ?_
    exact k_f_X10_takeItem_j69 X hk_a0 hd hS (lv_sub hl [4, 3, 2] rfl) h
theorem hv_X10_takePerson : yX10_takePerson.cls = RX10 ∧ yX10_takePerson.cls ≠ "java/lang/invoke/MethodHandle" ∧ yX10_takePerson.cls ≠ "java/lang/invoke/VarHandle" ∧ (parseMethodDescriptor yX10_takePerson.desc).map (fun d => d.parameters.length) = some 0 := by decide +kernel
abbrev HL_X10_takePerson_52 (l : Launch) (D : va_G) (cA : Nat → ClassId) (z : Nat) (av : List Value) (r : Int32) (μ' : Mm) (p : Program) (e : Env) (s : State) (m : MethodId) (below : List Frame) (meth : Method) (c : Code) (rc : Mm → Nat → Int32 → Int32 → Int32 → Option (Int32 × Mm)) : Prop := ∀ (μ : Mm) (H : Heap) (locs : List Loc) (ls : Array Slot) (a0 : Nat) (x1 : Int32) (x3 : Int32) (x4 : Int32), kd a0 = 10 → Wd D cA z μ H → va_S (Az z) s.heap H locs → lv_has ls 6 [(0, .ref (z + a0)), (1, .int x1), (3, .int x3), (4, .int x4)] → rc μ a0 x1 x3 x4 = some (r, μ') → WG l D cA z wsX10_takePerson 2 48 av (some (.int r)) μ' p e s m below meth c H locs (F0 m 52 ls [])
def f_X10_takePerson_j110 (μ : Mm) (a0 : Nat) (x3 : Int32) : Option (Int32 × Mm) := if x3 = 0 then (bC (f_X10_fails μ a0 (2 : Int32) (μ.1 a0 15)) (fun r3 μ2 => some (r3, μ2))) else (some ((0 : Int32), μ))
set_option maxRecDepth 100000 in
theorem k_f_X10_takePerson_j110 {l : Launch} {D : va_G} {cA : Nat → ClassId} {z : Nat} {av : List Value} {p : Program} {e : Env} {s : State} {m : MethodId} {below : List Frame} {meth : Method} {c : Code} {r : Int32} {μ' : Mm} (X : Fx D cA RX10 wsX10_takePerson cX10_takePerson 6 (some .int) p s m av.toArray meth c) {μ : Mm} {a0 : Nat} {x3 : Int32} (hk_a0 : kd a0 = 10) {H : Heap} {locs : List Loc} {ls : Array Slot} (hd : Wd D cA z μ H) (hS : va_S (Az z) s.heap H locs) (hl : lv_has ls 6 [(0, .ref (z + a0)), (3, .int x3)]) (h : f_X10_takePerson_j110 μ a0 x3 = some (r, μ')) : WG l D cA z wsX10_takePerson 2 48 av (some (.int r)) μ' p e s m below meth c H locs (F0 m 110 ls []) := by
  obtain ⟨hx, hb, hr, hlk, hml, hown, hts, hK⟩ := id X
  unfold f_X10_takePerson_j110 at h
  refine lv_iload_n hx hb dX10_takePerson_110 rfl (lv_at hl 1 rfl) ?_
  refine lv_if_eq (tgt := 118) hx hb dX10_takePerson_111 (by decide) (fun q1 => ?_) (fun q1 => ?_)
  · have h := if_y q1 h
    refine lv_aload_n hx hb dX10_takePerson_118 rfl (lv_at hl 0 rfl) ?_
    refine lv_iconst (v := 2) hx hb dX10_takePerson_119 (by decide) ?_
    refine lv_aload_n hx hb dX10_takePerson_120 rfl (lv_at hl 0 rfl) ?_
    refine r_geti hx hb hts (fun w h => List.mem_cons_of_mem _ (List.mem_append_right _ (h))) hown hK hd hk_a0 rfl 15 fs_10_15 (hts (.fieldLink RX10 125 "LevelVotesModel" "numberAt" "I") (List.mem_of_getElem? (i := 3) rfl)) dX10_takePerson_121 ?_
    obtain ⟨r3, μ2, hc4, h⟩ := bC_e h
    refine rc_Vi (rest := []) [.int (2 : Int32), .int (μ.1 a0 15)] ⟨hx, hb, hml, hown, hts⟩ hK hd hS (c_X10_fails hk_a0 hc4) (cwV 2 hts gX10_takePerson_X10_fails rfl rfl rfl hv_X10_fails ⟨Nat.le_of_ble_eq_true rfl, Nat.le_of_ble_eq_true rfl⟩) hk_a0 rfl rfl rfl rfl hl.1 rfl (Nat.le_of_ble_eq_true rfl) dX10_takePerson_124 ⟨Nat.zero_le _, Nat.zero_le _⟩ (fun H locs hd hS => ?_)
    obtain ⟨rfl, rfl⟩ := so_e h
    exact rt_i hx hb hr hlk hd hS dX10_takePerson_127
  · have h := if_n q1 h
    refine lv_iconst (v := 0) hx hb dX10_takePerson_114 (by decide) ?_
    refine lv_goto (tgt := 127) hx hb dX10_takePerson_115 (by decide) ?_
    obtain ⟨rfl, rfl⟩ := so_e h
    exact rt_i hx hb hr hlk hd hS dX10_takePerson_127
def f_X10_takePerson_j103 (rc52 : Mm → Nat → Int32 → Int32 → Int32 → Option (Int32 × Mm)) (μ : Mm) (a0 : Nat) (x1 : Int32) (x4 : Int32) (ys0 : Int32) : Option (Int32 × Mm) := rc52 μ a0 x1 ys0 (x4 + (1 : Int32))
set_option maxRecDepth 100000 in
theorem k_f_X10_takePerson_j103 {l : Launch} {D : va_G} {cA : Nat → ClassId} {z : Nat} {av : List Value} {p : Program} {e : Env} {s : State} {m : MethodId} {below : List Frame} {meth : Method} {c : Code} {r : Int32} {μ' : Mm} (X : Fx D cA RX10 wsX10_takePerson cX10_takePerson 6 (some .int) p s m av.toArray meth c) {rc52 : Mm → Nat → Int32 → Int32 → Int32 → Option (Int32 × Mm)} (hrc52 : HL_X10_takePerson_52 l D cA z av r μ' p e s m below meth c rc52) {μ : Mm} {a0 : Nat} {x1 : Int32} {x4 : Int32} {ys0 : Int32} (hk_a0 : kd a0 = 10) {H : Heap} {locs : List Loc} {ls : Array Slot} (hd : Wd D cA z μ H) (hS : va_S (Az z) s.heap H locs) (hl : lv_has ls 6 [(0, .ref (z + a0)), (1, .int x1), (4, .int x4)]) (h : f_X10_takePerson_j103 rc52 μ a0 x1 x4 ys0 = some (r, μ')) : WG l D cA z wsX10_takePerson 2 48 av (some (.int r)) μ' p e s m below meth c H locs (F0 m 103 ls [.int ys0]) := by
  obtain ⟨hx, hb, hr, hlk, hml, hown, hts, hK⟩ := id X
  unfold f_X10_takePerson_j103 at h
  refine lv_istore_n (lv' := [(3, .int ys0), (0, .ref (z + a0)), (1, .int x1), (4, .int x4)]) hx hb dX10_takePerson_103 rfl hl (by decide) rfl (fun ls hl => ?_)
  refine lv_iinc (v := x4 + (1 : Int32)) (lv' := [(4, .int (x4 + (1 : Int32))), (3, .int ys0), (0, .ref (z + a0)), (1, .int x1)]) hx hb dX10_takePerson_104 hl (k := 3) rfl rfl (by decide) rfl (fun ls hl => ?_)
  refine lv_goto (tgt := 52) hx hb dX10_takePerson_107 (by decide) ?_
  exact hrc52 _ _ _ _ _ _ _ _ hk_a0 hd hS (lv_sub hl [2, 3, 1, 0] rfl) h
def f_X10_takePerson_L52b (rc52 : Mm → Nat → Int32 → Int32 → Int32 → Option (Int32 × Mm)) (μ : Mm) (a0 : Nat) (x1 : Int32) (x3 : Int32) (x4 : Int32) : Option (Int32 × Mm) := if (5 : Int32) ≤ x4 then (f_X10_takePerson_j110 μ a0 x3) else (if x3 = 0 then (f_X10_takePerson_j110 μ a0 x3) else (bR (μ.2 a0 10) (fun b3 => gd (ckb ((μ.1 a0 15) + x4) (ln b3)) (bI ((μ.1 b3 ((μ.1 a0 15) + x4).toNatClampNeg) - (48 : Int32)) (fun v5 => bR (μ.2 a0 24) (fun b6 => gd (ckb (((5 : Int32) * x1) + x4) (ln b6)) (bM (up2 μ.1 b6 (((5 : Int32) * x1) + x4).toNatClampNeg v5, μ.2) (fun μ8 => if (3 : Int32) ≤ v5 then (f_X10_takePerson_j103 rc52 μ8 a0 x1 x4 (0 : Int32)) else (f_X10_takePerson_j103 rc52 μ8 a0 x1 x4 (1 : Int32))))))))))
set_option maxRecDepth 100000 in
theorem k_f_X10_takePerson_L52b {l : Launch} {D : va_G} {cA : Nat → ClassId} {z : Nat} {av : List Value} {p : Program} {e : Env} {s : State} {m : MethodId} {below : List Frame} {meth : Method} {c : Code} {r : Int32} {μ' : Mm} (X : Fx D cA RX10 wsX10_takePerson cX10_takePerson 6 (some .int) p s m av.toArray meth c) {rc52 : Mm → Nat → Int32 → Int32 → Int32 → Option (Int32 × Mm)} (hrc52 : HL_X10_takePerson_52 l D cA z av r μ' p e s m below meth c rc52) {μ : Mm} {a0 : Nat} {x1 : Int32} {x3 : Int32} {x4 : Int32} (hk_a0 : kd a0 = 10) {H : Heap} {locs : List Loc} {ls : Array Slot} (hd : Wd D cA z μ H) (hS : va_S (Az z) s.heap H locs) (hl : lv_has ls 6 [(0, .ref (z + a0)), (1, .int x1), (3, .int x3), (4, .int x4)]) (h : f_X10_takePerson_L52b rc52 μ a0 x1 x3 x4 = some (r, μ')) : WG l D cA z wsX10_takePerson 2 48 av (some (.int r)) μ' p e s m below meth c H locs (F0 m 52 ls []) := by
  obtain ⟨hx, hb, hr, hlk, hml, hown, hts, hK⟩ := id X
  unfold f_X10_takePerson_L52b at h
  refine lv_iload hx hb dX10_takePerson_52 (lv_at hl 3 rfl) ?_
  refine lv_iconst (v := 5) hx hb dX10_takePerson_54 (by decide) ?_
  refine lv_icmp_ge (tgt := 110) hx hb dX10_takePerson_55 (by decide) (fun q1 => ?_) (fun q1 => ?_)
  · have h := if_y q1 h
    exact k_f_X10_takePerson_j110 X hk_a0 hd hS (lv_sub hl [0, 2] rfl) h
  · have h := if_n q1 h
    refine lv_iload_n hx hb dX10_takePerson_58 rfl (lv_at hl 2 rfl) ?_
    refine lv_if_eq (tgt := 110) hx hb dX10_takePerson_59 (by decide) (fun q2 => ?_) (fun q2 => ?_)
    · have h := if_y q2 h
      exact k_f_X10_takePerson_j110 X hk_a0 hd hS (lv_sub hl [0, 2] rfl) h
    · have h := if_n q2 h
      refine lv_aload_n hx hb dX10_takePerson_62 rfl (lv_at hl 0 rfl) ?_
      obtain ⟨b3, hb3, h⟩ := bR_e h
      refine r_getr hx hb hts (fun w h => List.mem_cons_of_mem _ (List.mem_append_right _ (h))) hown hK hd hk_a0 hb3 rfl fs_10_10 (hts (.fieldLink RX10 25 "LevelVotesModel" "text" "[I") (List.mem_of_getElem? (i := 4) rfl)) dX10_takePerson_63 (fun hq => ?_)
      have hk_b3 : kd b3 = 11 := hq
      refine lv_aload_n hx hb dX10_takePerson_66 rfl (lv_at hl 0 rfl) ?_
      refine r_geti hx hb hts (fun w h => List.mem_cons_of_mem _ (List.mem_append_right _ (h))) hown hK hd hk_a0 rfl 15 fs_10_15 (hts (.fieldLink RX10 125 "LevelVotesModel" "numberAt" "I") (List.mem_of_getElem? (i := 3) rfl)) dX10_takePerson_67 ?_
      refine lv_iload hx hb dX10_takePerson_70 (lv_at hl 3 rfl) ?_
      refine lv_iadd hx hb dX10_takePerson_72 ?_
      obtain ⟨g4, h⟩ := gd_e h
      refine r_iald hx hb hK hd hk_b3 (ckb_in g4) dX10_takePerson_73 ?_
      refine lv_bipush (v := 48) hx hb dX10_takePerson_74 (by decide) ?_
      refine lv_isub hx hb dX10_takePerson_76 ?_
      refine lv_topi (fun v5 ev5 => ?_)
      have h := bI_e ev5 h
      refine lv_istore (lv' := [(5, .int v5), (0, .ref (z + a0)), (1, .int x1), (3, .int x3), (4, .int x4)]) hx hb dX10_takePerson_77 hl (by decide) rfl (fun ls hl => ?_)
      refine lv_aload_n hx hb dX10_takePerson_79 rfl (lv_at hl 1 rfl) ?_
      obtain ⟨b6, hb6, h⟩ := bR_e h
      refine r_getr hx hb hts (fun w h => List.mem_cons_of_mem _ (List.mem_append_right _ (h))) hown hK hd hk_a0 hb6 rfl fs_10_24 (hts (.fieldLink RX10 47 "LevelVotesModel" "readVotes" "[I") (List.mem_of_getElem? (i := 5) rfl)) dX10_takePerson_80 (fun hq => ?_)
      have hk_b6 : kd b6 = 11 := hq
      refine lv_iconst (v := 5) hx hb dX10_takePerson_83 (by decide) ?_
      refine lv_iload_n hx hb dX10_takePerson_84 rfl (lv_at hl 2 rfl) ?_
      refine lv_imul hx hb dX10_takePerson_85 ?_
      refine lv_iload hx hb dX10_takePerson_86 (lv_at hl 4 rfl) ?_
      refine lv_iadd hx hb dX10_takePerson_88 ?_
      refine lv_iload hx hb dX10_takePerson_89 (lv_at hl 0 rfl) ?_
      obtain ⟨g7, h⟩ := gd_e h
      refine r_iast hx hb hK hd hS hk_b6 (ckb_in g7) dX10_takePerson_91 (fun μ8 eμ8 H locs hd hS => ?_)
      have h := bM_e eμ8 h
      refine lv_iload hx hb dX10_takePerson_92 (lv_at hl 0 rfl) ?_
      refine lv_iconst (v := 3) hx hb dX10_takePerson_94 (by decide) ?_
      refine lv_icmp_ge (tgt := 102) hx hb dX10_takePerson_95 (by decide) (fun q9 => ?_) (fun q9 => ?_)
      · have h := if_y q9 h
        refine lv_iconst (v := 0) hx hb dX10_takePerson_102 (by decide) ?_
        exact k_f_X10_takePerson_j103 X hrc52 hk_a0 hd hS (lv_sub hl [1, 2, 4] rfl) h
      · have h := if_n q9 h
        refine lv_iconst (v := 1) hx hb dX10_takePerson_98 (by decide) ?_
        refine lv_goto (tgt := 103) hx hb dX10_takePerson_99 (by decide) ?_
        exact k_f_X10_takePerson_j103 X hrc52 hk_a0 hd hS (lv_sub hl [1, 2, 4] rfl) h
def f_X10_takePerson_L52 : Nat → Mm → Nat → Int32 → Int32 → Int32 → Option (Int32 × Mm)
  | 0 => fun _ _ _ _ _ => none
  | n + 1 => fun μ a0 x1 x3 x4 => f_X10_takePerson_L52b (f_X10_takePerson_L52 n) μ a0 x1 x3 x4
theorem k_f_X10_takePerson_L52 {l : Launch} {D : va_G} {cA : Nat → ClassId} {z : Nat} {av : List Value} {p : Program} {e : Env} {s : State} {m : MethodId} {below : List Frame} {meth : Method} {c : Code} {r : Int32} {μ' : Mm} (X : Fx D cA RX10 wsX10_takePerson cX10_takePerson 6 (some .int) p s m av.toArray meth c) (n : Nat) : HL_X10_takePerson_52 l D cA z av r μ' p e s m below meth c (f_X10_takePerson_L52 n) := by
  induction n with
  | zero => intro _ _ _ _ _ _ _ _ _ _ _ _ h; have h2 : (none : Option _) = some _ := h; cases h2
  | succ n ih => intro μ H locs ls a0 x1 x3 x4 hk_a0 hd hS hl h; exact k_f_X10_takePerson_L52b X ih hk_a0 hd hS hl h
def f_X10_takePerson_j48 (μ : Mm) (a0 : Nat) (x1 : Int32) (ys0 : Int32) : Option (Int32 × Mm) := f_X10_takePerson_L52 FU μ a0 x1 ys0 (0 : Int32)
set_option maxRecDepth 100000 in
theorem k_f_X10_takePerson_j48 {l : Launch} {D : va_G} {cA : Nat → ClassId} {z : Nat} {av : List Value} {p : Program} {e : Env} {s : State} {m : MethodId} {below : List Frame} {meth : Method} {c : Code} {r : Int32} {μ' : Mm} (X : Fx D cA RX10 wsX10_takePerson cX10_takePerson 6 (some .int) p s m av.toArray meth c) {μ : Mm} {a0 : Nat} {x1 : Int32} {ys0 : Int32} (hk_a0 : kd a0 = 10) {H : Heap} {locs : List Loc} {ls : Array Slot} (hd : Wd D cA z μ H) (hS : va_S (Az z) s.heap H locs) (hl : lv_has ls 6 [(0, .ref (z + a0)), (1, .int x1)]) (h : f_X10_takePerson_j48 μ a0 x1 ys0 = some (r, μ')) : WG l D cA z wsX10_takePerson 2 48 av (some (.int r)) μ' p e s m below meth c H locs (F0 m 48 ls [.int ys0]) := by
  obtain ⟨hx, hb, hr, hlk, hml, hown, hts, hK⟩ := id X
  unfold f_X10_takePerson_j48 at h
  refine lv_istore_n (lv' := [(3, .int ys0), (0, .ref (z + a0)), (1, .int x1)]) hx hb dX10_takePerson_48 rfl hl (by decide) rfl (fun ls hl => ?_)
  refine lv_iconst (v := 0) hx hb dX10_takePerson_49 (by decide) ?_
  refine lv_istore (lv' := [(4, .int (0 : Int32)), (3, .int ys0), (0, .ref (z + a0)), (1, .int x1)]) hx hb dX10_takePerson_50 hl (by decide) rfl (fun ls hl => ?_)
  exact k_f_X10_takePerson_L52 X FU _ _ _ _ _ _ _ _ hk_a0 hd hS (lv_sub hl [2, 3, 1, 0] rfl) h
def f_X10_takePerson (μ : Mm) (a0 : Nat) : Option (Int32 × Mm) := bI (μ.1 a0 23) (fun v1 => bM (up2 μ.1 a0 23 ((μ.1 a0 23) + (1 : Int32)), μ.2) (fun μ2 => bC (f_X10_takeNumber μ2 a0 (0 : Int32) (22222 : Int32)) (fun r4 μ3 => if r4 ≤ 0 then (if ((μ3.1 a0 13) - (μ3.1 a0 15)) = (5 : Int32) then (f_X10_takePerson_j48 μ3 a0 v1 (1 : Int32)) else (f_X10_takePerson_j48 μ3 a0 v1 (0 : Int32))) else (some (r4, μ3)))))
set_option maxRecDepth 100000 in
theorem c_X10_takePerson {l : Launch} {D : va_G} {cA : Nat → ClassId} {z : Nat} {μ : Mm} {a0 : Nat} {r : Int32} {μ' : Mm} (hk_a0 : kd a0 = 10) (h : f_X10_takePerson μ a0 = some (r, μ')) : Ct l D cA z yX10_takePerson wsX10_takePerson 2 48 [.ref (z + a0)] μ (some (.int r)) μ' := by
  refine m_in (cc := cX10_takePerson) (maxL := 6) (ret := (some .int)) (own := RX10) (by decide) rfl rfl (Nat.le_of_ble_eq_true rfl) ?_
  intro p e s m below meth c ls X hd hS hl
  obtain ⟨hx, hb, hr, hlk, hml, hown, hts, hK⟩ := id X
  have hl : lv_has ls 6 [(0, .ref (z + a0))] := hl
  unfold f_X10_takePerson at h
  refine lv_aload_n hx hb dX10_takePerson_0 rfl (lv_at hl 0 rfl) ?_
  refine r_geti hx hb hts (fun w h => List.mem_cons_of_mem _ (List.mem_append_right _ (h))) hown hK hd hk_a0 rfl 23 fs_10_23 (hts (.fieldLink RX10 145 "LevelVotesModel" "readPersons" "I") (List.mem_of_getElem? (i := 1) rfl)) dX10_takePerson_1 ?_
  refine lv_topi (fun v1 ev1 => ?_)
  have h := bI_e ev1 h
  refine lv_istore_n (lv' := [(1, .int v1), (0, .ref (z + a0))]) hx hb dX10_takePerson_4 rfl hl (by decide) rfl (fun ls hl => ?_)
  refine lv_aload_n hx hb dX10_takePerson_5 rfl (lv_at hl 1 rfl) ?_
  refine lv_dup hx hb dX10_takePerson_6 rfl ?_
  refine r_geti hx hb hts (fun w h => List.mem_cons_of_mem _ (List.mem_append_right _ (h))) hown hK hd hk_a0 rfl 23 fs_10_23 (hts (.fieldLink RX10 145 "LevelVotesModel" "readPersons" "I") (List.mem_of_getElem? (i := 1) rfl)) dX10_takePerson_7 ?_
  refine lv_iconst (v := 1) hx hb dX10_takePerson_10 (by decide) ?_
  refine lv_iadd hx hb dX10_takePerson_11 ?_
  refine r_puti hx hb hts (fun w h => List.mem_cons_of_mem _ (List.mem_append_right _ (h))) tyX10 tyX10_ok nmX10 hown hK hd hS hk_a0 rfl 23 fs_10_23 rfl (hts (.fieldLink RX10 145 "LevelVotesModel" "readPersons" "I") (List.mem_of_getElem? (i := 1) rfl)) (vp_nar_int _) rfl dX10_takePerson_12 (fun μ2 eμ2 H locs hd hS => ?_)
  have h := bM_e eμ2 h
  refine lv_aload_n hx hb dX10_takePerson_15 rfl (lv_at hl 1 rfl) ?_
  refine lv_iconst (v := 0) hx hb dX10_takePerson_16 (by decide) ?_
  refine lv_sipush (v := 22222) hx hb dX10_takePerson_17 (by decide) ?_
  obtain ⟨r4, μ3, hc5, h⟩ := bC_e h
  refine rc_Vi (rest := []) [.int (0 : Int32), .int (22222 : Int32)] ⟨hx, hb, hml, hown, hts⟩ hK hd hS (c_X10_takeNumber hk_a0 hc5) (cwV 2 hts gX10_takePerson_X10_takeNumber rfl rfl rfl hv_X10_takeNumber ⟨Nat.le_of_ble_eq_true rfl, Nat.le_of_ble_eq_true rfl⟩) hk_a0 rfl rfl rfl rfl hl.1 rfl (Nat.le_of_ble_eq_true rfl) dX10_takePerson_20 ⟨Nat.zero_le _, Nat.zero_le _⟩ (fun H locs hd hS => ?_)
  refine lv_istore_n (lv' := [(2, .int r4), (1, .int v1), (0, .ref (z + a0))]) hx hb dX10_takePerson_23 rfl hl (by decide) rfl (fun ls hl => ?_)
  refine lv_iload_n hx hb dX10_takePerson_24 rfl (lv_at hl 0 rfl) ?_
  refine lv_if_le (tgt := 30) hx hb dX10_takePerson_25 (by decide) (fun q6 => ?_) (fun q6 => ?_)
  · have h := if_y q6 h
    refine lv_aload_n hx hb dX10_takePerson_30 rfl (lv_at hl 2 rfl) ?_
    refine r_geti hx hb hts (fun w h => List.mem_cons_of_mem _ (List.mem_append_right _ (h))) hown hK hd hk_a0 rfl 13 fs_10_13 (hts (.fieldLink RX10 111 "LevelVotesModel" "at0" "I") (List.mem_of_getElem? (i := 2) rfl)) dX10_takePerson_31 ?_
    refine lv_aload_n hx hb dX10_takePerson_34 rfl (lv_at hl 2 rfl) ?_
    refine r_geti hx hb hts (fun w h => List.mem_cons_of_mem _ (List.mem_append_right _ (h))) hown hK hd hk_a0 rfl 15 fs_10_15 (hts (.fieldLink RX10 125 "LevelVotesModel" "numberAt" "I") (List.mem_of_getElem? (i := 3) rfl)) dX10_takePerson_35 ?_
    refine lv_isub hx hb dX10_takePerson_38 ?_
    refine lv_iconst (v := 5) hx hb dX10_takePerson_39 (by decide) ?_
    refine lv_icmp_ne (tgt := 47) hx hb dX10_takePerson_40 (by decide) (fun q7 => ?_) (fun q7 => ?_)
    · have h := if_n q7 h
      refine lv_iconst (v := 0) hx hb dX10_takePerson_47 (by decide) ?_
      exact k_f_X10_takePerson_j48 X hk_a0 hd hS (lv_sub hl [2, 1] rfl) h
    · have h := if_y q7 h
      refine lv_iconst (v := 1) hx hb dX10_takePerson_43 (by decide) ?_
      refine lv_goto (tgt := 48) hx hb dX10_takePerson_44 (by decide) ?_
      exact k_f_X10_takePerson_j48 X hk_a0 hd hS (lv_sub hl [2, 1] rfl) h
  · have h := if_n q6 h
    refine lv_iload_n hx hb dX10_takePerson_28 rfl (lv_at hl 0 rfl) ?_
    obtain ⟨rfl, rfl⟩ := so_e h
    exact rt_i hx hb hr hlk hd hS dX10_takePerson_29
theorem hv_X10_takeClause : yX10_takeClause.cls = RX10 ∧ yX10_takeClause.cls ≠ "java/lang/invoke/MethodHandle" ∧ yX10_takeClause.cls ≠ "java/lang/invoke/VarHandle" ∧ (parseMethodDescriptor yX10_takeClause.desc).map (fun d => d.parameters.length) = some 0 := by decide +kernel
def f_X10_takeClause_j240 (μ : Mm) (a0 : Nat) (x4 : Int32) : Option (Int32 × Mm) := bM (up2 μ.1 a0 13 ((μ.1 a0 13) + (1 : Int32)), μ.2) (fun μ1 => some (x4, μ1))
set_option maxRecDepth 100000 in
theorem k_f_X10_takeClause_j240 {l : Launch} {D : va_G} {cA : Nat → ClassId} {z : Nat} {av : List Value} {p : Program} {e : Env} {s : State} {m : MethodId} {below : List Frame} {meth : Method} {c : Code} {r : Int32} {μ' : Mm} (X : Fx D cA RX10 wsX10_takeClause cX10_takeClause 5 (some .int) p s m av.toArray meth c) {μ : Mm} {a0 : Nat} {x4 : Int32} (hk_a0 : kd a0 = 10) {H : Heap} {locs : List Loc} {ls : Array Slot} (hd : Wd D cA z μ H) (hS : va_S (Az z) s.heap H locs) (hl : lv_has ls 5 [(0, .ref (z + a0)), (4, .int x4)]) (h : f_X10_takeClause_j240 μ a0 x4 = some (r, μ')) : WG l D cA z wsX10_takeClause 4 97 av (some (.int r)) μ' p e s m below meth c H locs (F0 m 240 ls []) := by
  obtain ⟨hx, hb, hr, hlk, hml, hown, hts, hK⟩ := id X
  unfold f_X10_takeClause_j240 at h
  refine lv_aload_n hx hb dX10_takeClause_240 rfl (lv_at hl 0 rfl) ?_
  refine lv_dup hx hb dX10_takeClause_241 rfl ?_
  refine r_geti hx hb hts (fun w h => List.mem_cons_of_mem _ (List.mem_append_right _ (h))) hown hK hd hk_a0 rfl 13 fs_10_13 (hts (.fieldLink RX10 111 "LevelVotesModel" "at0" "I") (List.mem_of_getElem? (i := 2) rfl)) dX10_takeClause_242 ?_
  refine lv_iconst (v := 1) hx hb dX10_takeClause_245 (by decide) ?_
  refine lv_iadd hx hb dX10_takeClause_246 ?_
  refine r_puti hx hb hts (fun w h => List.mem_cons_of_mem _ (List.mem_append_right _ (h))) tyX10 tyX10_ok nmX10 hown hK hd hS hk_a0 rfl 13 fs_10_13 rfl (hts (.fieldLink RX10 111 "LevelVotesModel" "at0" "I") (List.mem_of_getElem? (i := 2) rfl)) (vp_nar_int _) rfl dX10_takeClause_247 (fun μ1 eμ1 H locs hd hS => ?_)
  have h := bM_e eμ1 h
  refine lv_iload hx hb dX10_takeClause_250 (lv_at hl 1 rfl) ?_
  obtain ⟨rfl, rfl⟩ := so_e h
  exact rt_i hx hb hr hlk hd hS dX10_takeClause_252
def f_X10_takeClause_j214 (μ : Mm) (a0 : Nat) (ys0 : Int32) : Option (Int32 × Mm) := if ys0 = 0 then (bC (f_X10_here μ a0) (fun r3 μ2 => if r3 = (59 : Int32) then (f_X10_takeClause_j240 μ2 a0 ys0) else (bC (f_X10_fails μ2 a0 (1 : Int32) (μ2.1 a0 13)) (fun r7 μ6 => some (r7, μ6))))) else (f_X10_takeClause_j240 μ a0 ys0)
set_option maxRecDepth 100000 in
theorem k_f_X10_takeClause_j214 {l : Launch} {D : va_G} {cA : Nat → ClassId} {z : Nat} {av : List Value} {p : Program} {e : Env} {s : State} {m : MethodId} {below : List Frame} {meth : Method} {c : Code} {r : Int32} {μ' : Mm} (X : Fx D cA RX10 wsX10_takeClause cX10_takeClause 5 (some .int) p s m av.toArray meth c) {μ : Mm} {a0 : Nat} {ys0 : Int32} (hk_a0 : kd a0 = 10) {H : Heap} {locs : List Loc} {ls : Array Slot} (hd : Wd D cA z μ H) (hS : va_S (Az z) s.heap H locs) (hl : lv_has ls 5 [(0, .ref (z + a0))]) (h : f_X10_takeClause_j214 μ a0 ys0 = some (r, μ')) : WG l D cA z wsX10_takeClause 4 97 av (some (.int r)) μ' p e s m below meth c H locs (F0 m 214 ls [.int ys0]) := by
  obtain ⟨hx, hb, hr, hlk, hml, hown, hts, hK⟩ := id X
  unfold f_X10_takeClause_j214 at h
  refine lv_istore (lv' := [(4, .int ys0), (0, .ref (z + a0))]) hx hb dX10_takeClause_214 hl (by decide) rfl (fun ls hl => ?_)
  refine lv_iload hx hb dX10_takeClause_216 (lv_at hl 0 rfl) ?_
  refine lv_if_ne (tgt := 240) hx hb dX10_takeClause_218 (by decide) (fun q1 => ?_) (fun q1 => ?_)
  · have h := if_n q1 h
    exact k_f_X10_takeClause_j240 X hk_a0 hd hS (lv_sub hl [1, 0] rfl) h
  · have h := if_y q1 h
    refine lv_aload_n hx hb dX10_takeClause_221 rfl (lv_at hl 1 rfl) ?_
    obtain ⟨r3, μ2, hc4, h⟩ := bC_e h
    refine rc_Vi (rest := []) [] ⟨hx, hb, hml, hown, hts⟩ hK hd hS (c_X10_here hk_a0 hc4) (cwV 0 hts gX10_takeClause_X10_here rfl rfl rfl hv_X10_here ⟨Nat.le_of_ble_eq_true rfl, Nat.le_of_ble_eq_true rfl⟩) hk_a0 rfl rfl rfl rfl hl.1 rfl (Nat.le_of_ble_eq_true rfl) dX10_takeClause_222 ⟨Nat.zero_le _, Nat.zero_le _⟩ (fun H locs hd hS => ?_)
    refine lv_bipush (v := 59) hx hb dX10_takeClause_225 (by decide) ?_
    refine lv_icmp_eq (tgt := 240) hx hb dX10_takeClause_227 (by decide) (fun q5 => ?_) (fun q5 => ?_)
    · have h := if_y q5 h
      exact k_f_X10_takeClause_j240 X hk_a0 hd hS (lv_sub hl [1, 0] rfl) h
    · have h := if_n q5 h
      refine lv_aload_n hx hb dX10_takeClause_230 rfl (lv_at hl 1 rfl) ?_
      refine lv_iconst (v := 1) hx hb dX10_takeClause_231 (by decide) ?_
      refine lv_aload_n hx hb dX10_takeClause_232 rfl (lv_at hl 1 rfl) ?_
      refine r_geti hx hb hts (fun w h => List.mem_cons_of_mem _ (List.mem_append_right _ (h))) hown hK hd hk_a0 rfl 13 fs_10_13 (hts (.fieldLink RX10 111 "LevelVotesModel" "at0" "I") (List.mem_of_getElem? (i := 2) rfl)) dX10_takeClause_233 ?_
      obtain ⟨r7, μ6, hc8, h⟩ := bC_e h
      refine rc_Vi (rest := []) [.int (1 : Int32), .int (μ2.1 a0 13)] ⟨hx, hb, hml, hown, hts⟩ hK hd hS (c_X10_fails hk_a0 hc8) (cwV 2 hts gX10_takeClause_X10_fails rfl rfl rfl hv_X10_fails ⟨Nat.le_of_ble_eq_true rfl, Nat.le_of_ble_eq_true rfl⟩) hk_a0 rfl rfl rfl rfl hl.1 rfl (Nat.le_of_ble_eq_true rfl) dX10_takeClause_236 ⟨Nat.zero_le _, Nat.zero_le _⟩ (fun H locs hd hS => ?_)
      obtain ⟨rfl, rfl⟩ := so_e h
      exact rt_i hx hb hr hlk hd hS dX10_takeClause_239
def f_X10_takeClause_j150 (μ : Mm) (a0 : Nat) (x2 : Int32) (ys0 : Int32) : Option (Int32 × Mm) := if ys0 = 0 then (bM (up2 μ.1 a0 13 ((μ.1 a0 13) + (1 : Int32)), μ.2) (fun μ2 => if x2 = 0 then (bC (f_X10_takeSize μ2 a0) (fun r16 μ15 => f_X10_takeClause_j214 μ15 a0 r16)) else (if x2 = (1 : Int32) then (bC (f_X10_takeGround μ2 a0) (fun r13 μ12 => f_X10_takeClause_j214 μ12 a0 r13)) else (if x2 = (2 : Int32) then (bC (f_X10_takeItem μ2 a0) (fun r10 μ9 => f_X10_takeClause_j214 μ9 a0 r10)) else (bC (f_X10_takePerson μ2 a0) (fun r7 μ6 => f_X10_takeClause_j214 μ6 a0 r7)))))) else (bC (f_X10_fails μ a0 (3 : Int32) (μ.1 a0 13)) (fun r19 μ18 => some (r19, μ18)))
set_option maxRecDepth 100000 in
theorem k_f_X10_takeClause_j150 {l : Launch} {D : va_G} {cA : Nat → ClassId} {z : Nat} {av : List Value} {p : Program} {e : Env} {s : State} {m : MethodId} {below : List Frame} {meth : Method} {c : Code} {r : Int32} {μ' : Mm} (X : Fx D cA RX10 wsX10_takeClause cX10_takeClause 5 (some .int) p s m av.toArray meth c) {μ : Mm} {a0 : Nat} {x2 : Int32} {ys0 : Int32} (hk_a0 : kd a0 = 10) {H : Heap} {locs : List Loc} {ls : Array Slot} (hd : Wd D cA z μ H) (hS : va_S (Az z) s.heap H locs) (hl : lv_has ls 5 [(0, .ref (z + a0)), (2, .int x2)]) (h : f_X10_takeClause_j150 μ a0 x2 ys0 = some (r, μ')) : WG l D cA z wsX10_takeClause 4 97 av (some (.int r)) μ' p e s m below meth c H locs (F0 m 150 ls [.int ys0]) := by
  obtain ⟨hx, hb, hr, hlk, hml, hown, hts, hK⟩ := id X
  unfold f_X10_takeClause_j150 at h
  refine lv_istore_n (lv' := [(3, .int ys0), (0, .ref (z + a0)), (2, .int x2)]) hx hb dX10_takeClause_150 rfl hl (by decide) rfl (fun ls hl => ?_)
  refine lv_iload_n hx hb dX10_takeClause_151 rfl (lv_at hl 0 rfl) ?_
  refine lv_if_eq (tgt := 165) hx hb dX10_takeClause_152 (by decide) (fun q1 => ?_) (fun q1 => ?_)
  · have h := if_y q1 h
    refine lv_aload_n hx hb dX10_takeClause_165 rfl (lv_at hl 1 rfl) ?_
    refine lv_dup hx hb dX10_takeClause_166 rfl ?_
    refine r_geti hx hb hts (fun w h => List.mem_cons_of_mem _ (List.mem_append_right _ (h))) hown hK hd hk_a0 rfl 13 fs_10_13 (hts (.fieldLink RX10 111 "LevelVotesModel" "at0" "I") (List.mem_of_getElem? (i := 2) rfl)) dX10_takeClause_167 ?_
    refine lv_iconst (v := 1) hx hb dX10_takeClause_170 (by decide) ?_
    refine lv_iadd hx hb dX10_takeClause_171 ?_
    refine r_puti hx hb hts (fun w h => List.mem_cons_of_mem _ (List.mem_append_right _ (h))) tyX10 tyX10_ok nmX10 hown hK hd hS hk_a0 rfl 13 fs_10_13 rfl (hts (.fieldLink RX10 111 "LevelVotesModel" "at0" "I") (List.mem_of_getElem? (i := 2) rfl)) (vp_nar_int _) rfl dX10_takeClause_172 (fun μ2 eμ2 H locs hd hS => ?_)
    have h := bM_e eμ2 h
    refine lv_iload_n hx hb dX10_takeClause_175 rfl (lv_at hl 2 rfl) ?_
    refine lv_if_ne (tgt := 186) hx hb dX10_takeClause_176 (by decide) (fun q3 => ?_) (fun q3 => ?_)
    · have h := if_n q3 h
      refine lv_iload_n hx hb dX10_takeClause_186 rfl (lv_at hl 2 rfl) ?_
      refine lv_iconst (v := 1) hx hb dX10_takeClause_187 (by decide) ?_
      refine lv_icmp_ne (tgt := 198) hx hb dX10_takeClause_188 (by decide) (fun q4 => ?_) (fun q4 => ?_)
      · have h := if_n q4 h
        refine lv_iload_n hx hb dX10_takeClause_198 rfl (lv_at hl 2 rfl) ?_
        refine lv_iconst (v := 2) hx hb dX10_takeClause_199 (by decide) ?_
        refine lv_icmp_ne (tgt := 210) hx hb dX10_takeClause_200 (by decide) (fun q5 => ?_) (fun q5 => ?_)
        · have h := if_n q5 h
          refine lv_aload_n hx hb dX10_takeClause_210 rfl (lv_at hl 1 rfl) ?_
          obtain ⟨r7, μ6, hc8, h⟩ := bC_e h
          refine rc_Vi (rest := []) [] ⟨hx, hb, hml, hown, hts⟩ hK hd hS (c_X10_takePerson hk_a0 hc8) (cwV 0 hts gX10_takeClause_X10_takePerson rfl rfl rfl hv_X10_takePerson ⟨Nat.le_of_ble_eq_true rfl, Nat.le_of_ble_eq_true rfl⟩) hk_a0 rfl rfl rfl rfl hl.1 rfl (Nat.le_of_ble_eq_true rfl) dX10_takeClause_211 ⟨Nat.zero_le _, Nat.zero_le _⟩ (fun H locs hd hS => ?_)
          exact k_f_X10_takeClause_j214 X hk_a0 hd hS (lv_sub hl [1] rfl) h
        · have h := if_y q5 h
          refine lv_aload_n hx hb dX10_takeClause_203 rfl (lv_at hl 1 rfl) ?_
          obtain ⟨r10, μ9, hc11, h⟩ := bC_e h
          refine rc_Vi (rest := []) [] ⟨hx, hb, hml, hown, hts⟩ hK hd hS (c_X10_takeItem hk_a0 hc11) (cwV 0 hts gX10_takeClause_X10_takeItem rfl rfl rfl hv_X10_takeItem ⟨Nat.le_of_ble_eq_true rfl, Nat.le_of_ble_eq_true rfl⟩) hk_a0 rfl rfl rfl rfl hl.1 rfl (Nat.le_of_ble_eq_true rfl) dX10_takeClause_204 ⟨Nat.zero_le _, Nat.zero_le _⟩ (fun H locs hd hS => ?_)
          refine lv_goto (tgt := 214) hx hb dX10_takeClause_207 (by decide) ?_
          exact k_f_X10_takeClause_j214 X hk_a0 hd hS (lv_sub hl [1] rfl) h
      · have h := if_y q4 h
        refine lv_aload_n hx hb dX10_takeClause_191 rfl (lv_at hl 1 rfl) ?_
        obtain ⟨r13, μ12, hc14, h⟩ := bC_e h
        refine rc_Vi (rest := []) [] ⟨hx, hb, hml, hown, hts⟩ hK hd hS (c_X10_takeGround hk_a0 hc14) (cwV 0 hts gX10_takeClause_X10_takeGround rfl rfl rfl hv_X10_takeGround ⟨Nat.le_of_ble_eq_true rfl, Nat.le_of_ble_eq_true rfl⟩) hk_a0 rfl rfl rfl rfl hl.1 rfl (Nat.le_of_ble_eq_true rfl) dX10_takeClause_192 ⟨Nat.zero_le _, Nat.zero_le _⟩ (fun H locs hd hS => ?_)
        refine lv_goto (tgt := 214) hx hb dX10_takeClause_195 (by decide) ?_
        exact k_f_X10_takeClause_j214 X hk_a0 hd hS (lv_sub hl [1] rfl) h
    · have h := if_y q3 h
      refine lv_aload_n hx hb dX10_takeClause_179 rfl (lv_at hl 1 rfl) ?_
      obtain ⟨r16, μ15, hc17, h⟩ := bC_e h
      refine rc_Vi (rest := []) [] ⟨hx, hb, hml, hown, hts⟩ hK hd hS (c_X10_takeSize hk_a0 hc17) (cwV 0 hts gX10_takeClause_X10_takeSize rfl rfl rfl hv_X10_takeSize ⟨Nat.le_of_ble_eq_true rfl, Nat.le_of_ble_eq_true rfl⟩) hk_a0 rfl rfl rfl rfl hl.1 rfl (Nat.le_of_ble_eq_true rfl) dX10_takeClause_180 ⟨Nat.zero_le _, Nat.zero_le _⟩ (fun H locs hd hS => ?_)
      refine lv_goto (tgt := 214) hx hb dX10_takeClause_183 (by decide) ?_
      exact k_f_X10_takeClause_j214 X hk_a0 hd hS (lv_sub hl [1] rfl) h
  · have h := if_n q1 h
    refine lv_aload_n hx hb dX10_takeClause_155 rfl (lv_at hl 1 rfl) ?_
    refine lv_iconst (v := 3) hx hb dX10_takeClause_156 (by decide) ?_
    refine lv_aload_n hx hb dX10_takeClause_157 rfl (lv_at hl 1 rfl) ?_
    refine r_geti hx hb hts (fun w h => List.mem_cons_of_mem _ (List.mem_append_right _ (h))) hown hK hd hk_a0 rfl 13 fs_10_13 (hts (.fieldLink RX10 111 "LevelVotesModel" "at0" "I") (List.mem_of_getElem? (i := 2) rfl)) dX10_takeClause_158 ?_
    obtain ⟨r19, μ18, hc20, h⟩ := bC_e h
    refine rc_Vi (rest := []) [.int (3 : Int32), .int (μ.1 a0 13)] ⟨hx, hb, hml, hown, hts⟩ hK hd hS (c_X10_fails hk_a0 hc20) (cwV 2 hts gX10_takeClause_X10_fails rfl rfl rfl hv_X10_fails ⟨Nat.le_of_ble_eq_true rfl, Nat.le_of_ble_eq_true rfl⟩) hk_a0 rfl rfl rfl rfl hl.1 rfl (Nat.le_of_ble_eq_true rfl) dX10_takeClause_161 ⟨Nat.zero_le _, Nat.zero_le _⟩ (fun H locs hd hS => ?_)
    obtain ⟨rfl, rfl⟩ := so_e h
    exact rt_i hx hb hr hlk hd hS dX10_takeClause_164
def f_X10_takeClause_j74 (μ : Mm) (a0 : Nat) (x2 : Int32) : Option (Int32 × Mm) := if x2 = 0 then (bR (μ.2 a0 16) (fun b7 => gd (ckb (0 : Int32) (ln b7)) (if (μ.1 b7 ((0 : Int32)).toNatClampNeg) ≤ 0 then (f_X10_takeClause_j150 μ a0 x2 (0 : Int32)) else (f_X10_takeClause_j150 μ a0 x2 (1 : Int32))))) else (if x2 = (1 : Int32) then (if (μ.1 a0 18) ≤ 0 then (f_X10_takeClause_j150 μ a0 x2 (0 : Int32)) else (f_X10_takeClause_j150 μ a0 x2 (1 : Int32))) else (if x2 = (2 : Int32) then (if (μ.1 a0 19) = (5 : Int32) then (f_X10_takeClause_j150 μ a0 x2 (1 : Int32)) else (f_X10_takeClause_j150 μ a0 x2 (0 : Int32))) else (if (μ.1 a0 23) = (7 : Int32) then (f_X10_takeClause_j150 μ a0 x2 (1 : Int32)) else (f_X10_takeClause_j150 μ a0 x2 (0 : Int32)))))
set_option maxRecDepth 100000 in
theorem k_f_X10_takeClause_j74 {l : Launch} {D : va_G} {cA : Nat → ClassId} {z : Nat} {av : List Value} {p : Program} {e : Env} {s : State} {m : MethodId} {below : List Frame} {meth : Method} {c : Code} {r : Int32} {μ' : Mm} (X : Fx D cA RX10 wsX10_takeClause cX10_takeClause 5 (some .int) p s m av.toArray meth c) {μ : Mm} {a0 : Nat} {x2 : Int32} (hk_a0 : kd a0 = 10) {H : Heap} {locs : List Loc} {ls : Array Slot} (hd : Wd D cA z μ H) (hS : va_S (Az z) s.heap H locs) (hl : lv_has ls 5 [(0, .ref (z + a0)), (2, .int x2)]) (h : f_X10_takeClause_j74 μ a0 x2 = some (r, μ')) : WG l D cA z wsX10_takeClause 4 97 av (some (.int r)) μ' p e s m below meth c H locs (F0 m 74 ls []) := by
  obtain ⟨hx, hb, hr, hlk, hml, hown, hts, hK⟩ := id X
  unfold f_X10_takeClause_j74 at h
  refine lv_iload_n hx hb dX10_takeClause_74 rfl (lv_at hl 1 rfl) ?_
  refine lv_if_ne (tgt := 95) hx hb dX10_takeClause_75 (by decide) (fun q1 => ?_) (fun q1 => ?_)
  · have h := if_n q1 h
    refine lv_iload_n hx hb dX10_takeClause_95 rfl (lv_at hl 1 rfl) ?_
    refine lv_iconst (v := 1) hx hb dX10_takeClause_96 (by decide) ?_
    refine lv_icmp_ne (tgt := 115) hx hb dX10_takeClause_97 (by decide) (fun q2 => ?_) (fun q2 => ?_)
    · have h := if_n q2 h
      refine lv_iload_n hx hb dX10_takeClause_115 rfl (lv_at hl 1 rfl) ?_
      refine lv_iconst (v := 2) hx hb dX10_takeClause_116 (by decide) ?_
      refine lv_icmp_ne (tgt := 136) hx hb dX10_takeClause_117 (by decide) (fun q3 => ?_) (fun q3 => ?_)
      · have h := if_n q3 h
        refine lv_aload_n hx hb dX10_takeClause_136 rfl (lv_at hl 0 rfl) ?_
        refine r_geti hx hb hts (fun w h => List.mem_cons_of_mem _ (List.mem_append_right _ (h))) hown hK hd hk_a0 rfl 23 fs_10_23 (hts (.fieldLink RX10 145 "LevelVotesModel" "readPersons" "I") (List.mem_of_getElem? (i := 5) rfl)) dX10_takeClause_137 ?_
        refine lv_bipush (v := 7) hx hb dX10_takeClause_140 (by decide) ?_
        refine lv_icmp_ne (tgt := 149) hx hb dX10_takeClause_142 (by decide) (fun q4 => ?_) (fun q4 => ?_)
        · have h := if_n q4 h
          refine lv_iconst (v := 0) hx hb dX10_takeClause_149 (by decide) ?_
          exact k_f_X10_takeClause_j150 X hk_a0 hd hS (lv_sub hl [0, 1] rfl) h
        · have h := if_y q4 h
          refine lv_iconst (v := 1) hx hb dX10_takeClause_145 (by decide) ?_
          refine lv_goto (tgt := 150) hx hb dX10_takeClause_146 (by decide) ?_
          exact k_f_X10_takeClause_j150 X hk_a0 hd hS (lv_sub hl [0, 1] rfl) h
      · have h := if_y q3 h
        refine lv_aload_n hx hb dX10_takeClause_120 rfl (lv_at hl 0 rfl) ?_
        refine r_geti hx hb hts (fun w h => List.mem_cons_of_mem _ (List.mem_append_right _ (h))) hown hK hd hk_a0 rfl 19 fs_10_19 (hts (.fieldLink RX10 142 "LevelVotesModel" "readItems" "I") (List.mem_of_getElem? (i := 4) rfl)) dX10_takeClause_121 ?_
        refine lv_iconst (v := 5) hx hb dX10_takeClause_124 (by decide) ?_
        refine lv_icmp_ne (tgt := 132) hx hb dX10_takeClause_125 (by decide) (fun q5 => ?_) (fun q5 => ?_)
        · have h := if_n q5 h
          refine lv_iconst (v := 0) hx hb dX10_takeClause_132 (by decide) ?_
          refine lv_goto (tgt := 150) hx hb dX10_takeClause_133 (by decide) ?_
          exact k_f_X10_takeClause_j150 X hk_a0 hd hS (lv_sub hl [0, 1] rfl) h
        · have h := if_y q5 h
          refine lv_iconst (v := 1) hx hb dX10_takeClause_128 (by decide) ?_
          refine lv_goto (tgt := 150) hx hb dX10_takeClause_129 (by decide) ?_
          exact k_f_X10_takeClause_j150 X hk_a0 hd hS (lv_sub hl [0, 1] rfl) h
    · have h := if_y q2 h
      refine lv_aload_n hx hb dX10_takeClause_100 rfl (lv_at hl 0 rfl) ?_
      refine r_geti hx hb hts (fun w h => List.mem_cons_of_mem _ (List.mem_append_right _ (h))) hown hK hd hk_a0 rfl 18 fs_10_18 (hts (.fieldLink RX10 139 "LevelVotesModel" "readMany" "I") (List.mem_of_getElem? (i := 3) rfl)) dX10_takeClause_101 ?_
      refine lv_if_le (tgt := 111) hx hb dX10_takeClause_104 (by decide) (fun q6 => ?_) (fun q6 => ?_)
      · have h := if_y q6 h
        refine lv_iconst (v := 0) hx hb dX10_takeClause_111 (by decide) ?_
        refine lv_goto (tgt := 150) hx hb dX10_takeClause_112 (by decide) ?_
        exact k_f_X10_takeClause_j150 X hk_a0 hd hS (lv_sub hl [0, 1] rfl) h
      · have h := if_n q6 h
        refine lv_iconst (v := 1) hx hb dX10_takeClause_107 (by decide) ?_
        refine lv_goto (tgt := 150) hx hb dX10_takeClause_108 (by decide) ?_
        exact k_f_X10_takeClause_j150 X hk_a0 hd hS (lv_sub hl [0, 1] rfl) h
  · have h := if_y q1 h
    refine lv_aload_n hx hb dX10_takeClause_78 rfl (lv_at hl 0 rfl) ?_
    obtain ⟨b7, hb7, h⟩ := bR_e h
    refine r_getr hx hb hts (fun w h => List.mem_cons_of_mem _ (List.mem_append_right _ (h))) hown hK hd hk_a0 hb7 rfl fs_10_16 (hts (.fieldLink RX10 32 "LevelVotesModel" "readSize" "[I") (List.mem_of_getElem? (i := 1) rfl)) dX10_takeClause_79 (fun hq => ?_)
    have hk_b7 : kd b7 = 11 := hq
    refine lv_iconst (v := 0) hx hb dX10_takeClause_82 (by decide) ?_
    obtain ⟨g8, h⟩ := gd_e h
    refine r_iald hx hb hK hd hk_b7 (ckb_in g8) dX10_takeClause_83 ?_
    refine lv_if_le (tgt := 91) hx hb dX10_takeClause_84 (by decide) (fun q9 => ?_) (fun q9 => ?_)
    · have h := if_y q9 h
      refine lv_iconst (v := 0) hx hb dX10_takeClause_91 (by decide) ?_
      refine lv_goto (tgt := 150) hx hb dX10_takeClause_92 (by decide) ?_
      exact k_f_X10_takeClause_j150 X hk_a0 hd hS (lv_sub hl [0, 1] rfl) h
    · have h := if_n q9 h
      refine lv_iconst (v := 1) hx hb dX10_takeClause_87 (by decide) ?_
      refine lv_goto (tgt := 150) hx hb dX10_takeClause_88 (by decide) ?_
      exact k_f_X10_takeClause_j150 X hk_a0 hd hS (lv_sub hl [0, 1] rfl) h
def f_X10_takeClause_j64 (μ : Mm) (a0 : Nat) : Option (Int32 × Mm) := bC (f_X10_fails μ a0 (1 : Int32) (μ.1 a0 13)) (fun r2 μ1 => some (r2, μ1))
set_option maxRecDepth 100000 in
theorem k_f_X10_takeClause_j64 {l : Launch} {D : va_G} {cA : Nat → ClassId} {z : Nat} {av : List Value} {p : Program} {e : Env} {s : State} {m : MethodId} {below : List Frame} {meth : Method} {c : Code} {r : Int32} {μ' : Mm} (X : Fx D cA RX10 wsX10_takeClause cX10_takeClause 5 (some .int) p s m av.toArray meth c) {μ : Mm} {a0 : Nat} (hk_a0 : kd a0 = 10) {H : Heap} {locs : List Loc} {ls : Array Slot} (hd : Wd D cA z μ H) (hS : va_S (Az z) s.heap H locs) (hl : lv_has ls 5 [(0, .ref (z + a0))]) (h : f_X10_takeClause_j64 μ a0 = some (r, μ')) : WG l D cA z wsX10_takeClause 4 97 av (some (.int r)) μ' p e s m below meth c H locs (F0 m 64 ls []) := by
  obtain ⟨hx, hb, hr, hlk, hml, hown, hts, hK⟩ := id X
  unfold f_X10_takeClause_j64 at h
  refine lv_aload_n hx hb dX10_takeClause_64 rfl (lv_at hl 0 rfl) ?_
  refine lv_iconst (v := 1) hx hb dX10_takeClause_65 (by decide) ?_
  refine lv_aload_n hx hb dX10_takeClause_66 rfl (lv_at hl 0 rfl) ?_
  refine r_geti hx hb hts (fun w h => List.mem_cons_of_mem _ (List.mem_append_right _ (h))) hown hK hd hk_a0 rfl 13 fs_10_13 (hts (.fieldLink RX10 111 "LevelVotesModel" "at0" "I") (List.mem_of_getElem? (i := 2) rfl)) dX10_takeClause_67 ?_
  obtain ⟨r2, μ1, hc3, h⟩ := bC_e h
  refine rc_Vi (rest := []) [.int (1 : Int32), .int (μ.1 a0 13)] ⟨hx, hb, hml, hown, hts⟩ hK hd hS (c_X10_fails hk_a0 hc3) (cwV 2 hts gX10_takeClause_X10_fails rfl rfl rfl hv_X10_fails ⟨Nat.le_of_ble_eq_true rfl, Nat.le_of_ble_eq_true rfl⟩) hk_a0 rfl rfl rfl rfl hl.1 rfl (Nat.le_of_ble_eq_true rfl) dX10_takeClause_70 ⟨Nat.zero_le _, Nat.zero_le _⟩ (fun H locs hd hS => ?_)
  obtain ⟨rfl, rfl⟩ := so_e h
  exact rt_i hx hb hr hlk hd hS dX10_takeClause_73
def f_X10_takeClause_j46 (μ : Mm) (a0 : Nat) (ys0 : Int32) : Option (Int32 × Mm) := if ys0 < 0 then (f_X10_takeClause_j64 μ a0) else (if ys0 ≤ 0 then (f_X10_takeClause_j74 μ a0 ys0) else (bR (μ.2 a0 16) (fun b3 => gd (ckb (0 : Int32) (ln b3)) (if (μ.1 b3 ((0 : Int32)).toNatClampNeg) = 0 then (f_X10_takeClause_j64 μ a0) else (f_X10_takeClause_j74 μ a0 ys0)))))
set_option maxRecDepth 100000 in
theorem k_f_X10_takeClause_j46 {l : Launch} {D : va_G} {cA : Nat → ClassId} {z : Nat} {av : List Value} {p : Program} {e : Env} {s : State} {m : MethodId} {below : List Frame} {meth : Method} {c : Code} {r : Int32} {μ' : Mm} (X : Fx D cA RX10 wsX10_takeClause cX10_takeClause 5 (some .int) p s m av.toArray meth c) {μ : Mm} {a0 : Nat} {ys0 : Int32} (hk_a0 : kd a0 = 10) {H : Heap} {locs : List Loc} {ls : Array Slot} (hd : Wd D cA z μ H) (hS : va_S (Az z) s.heap H locs) (hl : lv_has ls 5 [(0, .ref (z + a0))]) (h : f_X10_takeClause_j46 μ a0 ys0 = some (r, μ')) : WG l D cA z wsX10_takeClause 4 97 av (some (.int r)) μ' p e s m below meth c H locs (F0 m 46 ls [.int ys0]) := by
  obtain ⟨hx, hb, hr, hlk, hml, hown, hts, hK⟩ := id X
  unfold f_X10_takeClause_j46 at h
  refine lv_istore_n (lv' := [(2, .int ys0), (0, .ref (z + a0))]) hx hb dX10_takeClause_46 rfl hl (by decide) rfl (fun ls hl => ?_)
  refine lv_iload_n hx hb dX10_takeClause_47 rfl (lv_at hl 0 rfl) ?_
  refine lv_if_lt (tgt := 64) hx hb dX10_takeClause_48 (by decide) (fun q1 => ?_) (fun q1 => ?_)
  · have h := if_y q1 h
    exact k_f_X10_takeClause_j64 X hk_a0 hd hS (lv_sub hl [1] rfl) h
  · have h := if_n q1 h
    refine lv_iload_n hx hb dX10_takeClause_51 rfl (lv_at hl 0 rfl) ?_
    refine lv_if_le (tgt := 74) hx hb dX10_takeClause_52 (by decide) (fun q2 => ?_) (fun q2 => ?_)
    · have h := if_y q2 h
      exact k_f_X10_takeClause_j74 X hk_a0 hd hS (lv_sub hl [1, 0] rfl) h
    · have h := if_n q2 h
      refine lv_aload_n hx hb dX10_takeClause_55 rfl (lv_at hl 1 rfl) ?_
      obtain ⟨b3, hb3, h⟩ := bR_e h
      refine r_getr hx hb hts (fun w h => List.mem_cons_of_mem _ (List.mem_append_right _ (h))) hown hK hd hk_a0 hb3 rfl fs_10_16 (hts (.fieldLink RX10 32 "LevelVotesModel" "readSize" "[I") (List.mem_of_getElem? (i := 1) rfl)) dX10_takeClause_56 (fun hq => ?_)
      have hk_b3 : kd b3 = 11 := hq
      refine lv_iconst (v := 0) hx hb dX10_takeClause_59 (by decide) ?_
      obtain ⟨g4, h⟩ := gd_e h
      refine r_iald hx hb hK hd hk_b3 (ckb_in g4) dX10_takeClause_60 ?_
      refine lv_if_ne (tgt := 74) hx hb dX10_takeClause_61 (by decide) (fun q5 => ?_) (fun q5 => ?_)
      · have h := if_n q5 h
        exact k_f_X10_takeClause_j74 X hk_a0 hd hS (lv_sub hl [1, 0] rfl) h
      · have h := if_y q5 h
        exact k_f_X10_takeClause_j64 X hk_a0 hd hS (lv_sub hl [1] rfl) h
def f_X10_takeClause (μ : Mm) (a0 : Nat) : Option (Int32 × Mm) := bC (f_X10_here μ a0) (fun r2 μ1 => if r2 = (104 : Int32) then (f_X10_takeClause_j46 μ1 a0 (0 : Int32)) else (if r2 = (103 : Int32) then (f_X10_takeClause_j46 μ1 a0 (1 : Int32)) else (if r2 = (105 : Int32) then (f_X10_takeClause_j46 μ1 a0 (2 : Int32)) else (if r2 = (112 : Int32) then (f_X10_takeClause_j46 μ1 a0 (3 : Int32)) else (f_X10_takeClause_j46 μ1 a0 (-1 : Int32))))))
set_option maxRecDepth 100000 in
theorem c_X10_takeClause {l : Launch} {D : va_G} {cA : Nat → ClassId} {z : Nat} {μ : Mm} {a0 : Nat} {r : Int32} {μ' : Mm} (hk_a0 : kd a0 = 10) (h : f_X10_takeClause μ a0 = some (r, μ')) : Ct l D cA z yX10_takeClause wsX10_takeClause 4 97 [.ref (z + a0)] μ (some (.int r)) μ' := by
  refine m_in (cc := cX10_takeClause) (maxL := 5) (ret := (some .int)) (own := RX10) (by decide) rfl rfl (Nat.le_of_ble_eq_true rfl) ?_
  intro p e s m below meth c ls X hd hS hl
  obtain ⟨hx, hb, hr, hlk, hml, hown, hts, hK⟩ := id X
  have hl : lv_has ls 5 [(0, .ref (z + a0))] := hl
  unfold f_X10_takeClause at h
  refine lv_aload_n hx hb dX10_takeClause_0 rfl (lv_at hl 0 rfl) ?_
  obtain ⟨r2, μ1, hc3, h⟩ := bC_e h
  refine rc_Vi (rest := []) [] ⟨hx, hb, hml, hown, hts⟩ hK hd hS (c_X10_here hk_a0 hc3) (cwV 0 hts gX10_takeClause_X10_here rfl rfl rfl hv_X10_here ⟨Nat.le_of_ble_eq_true rfl, Nat.le_of_ble_eq_true rfl⟩) hk_a0 rfl rfl rfl rfl hl.1 rfl (Nat.le_of_ble_eq_true rfl) dX10_takeClause_1 ⟨Nat.zero_le _, Nat.zero_le _⟩ (fun H locs hd hS => ?_)
  refine lv_istore_n (lv' := [(1, .int r2), (0, .ref (z + a0))]) hx hb dX10_takeClause_4 rfl hl (by decide) rfl (fun ls hl => ?_)
  refine lv_iload_n hx hb dX10_takeClause_5 rfl (lv_at hl 0 rfl) ?_
  refine lv_bipush (v := 104) hx hb dX10_takeClause_6 (by decide) ?_
  refine lv_icmp_ne (tgt := 15) hx hb dX10_takeClause_8 (by decide) (fun q4 => ?_) (fun q4 => ?_)
  · have h := if_n q4 h
    refine lv_iload_n hx hb dX10_takeClause_15 rfl (lv_at hl 0 rfl) ?_
    refine lv_bipush (v := 103) hx hb dX10_takeClause_16 (by decide) ?_
    refine lv_icmp_ne (tgt := 25) hx hb dX10_takeClause_18 (by decide) (fun q5 => ?_) (fun q5 => ?_)
    · have h := if_n q5 h
      refine lv_iload_n hx hb dX10_takeClause_25 rfl (lv_at hl 0 rfl) ?_
      refine lv_bipush (v := 105) hx hb dX10_takeClause_26 (by decide) ?_
      refine lv_icmp_ne (tgt := 35) hx hb dX10_takeClause_28 (by decide) (fun q6 => ?_) (fun q6 => ?_)
      · have h := if_n q6 h
        refine lv_iload_n hx hb dX10_takeClause_35 rfl (lv_at hl 0 rfl) ?_
        refine lv_bipush (v := 112) hx hb dX10_takeClause_36 (by decide) ?_
        refine lv_icmp_ne (tgt := 45) hx hb dX10_takeClause_38 (by decide) (fun q7 => ?_) (fun q7 => ?_)
        · have h := if_n q7 h
          refine lv_iconst (v := -1) hx hb dX10_takeClause_45 (by decide) ?_
          exact k_f_X10_takeClause_j46 X hk_a0 hd hS (lv_sub hl [1] rfl) h
        · have h := if_y q7 h
          refine lv_iconst (v := 3) hx hb dX10_takeClause_41 (by decide) ?_
          refine lv_goto (tgt := 46) hx hb dX10_takeClause_42 (by decide) ?_
          exact k_f_X10_takeClause_j46 X hk_a0 hd hS (lv_sub hl [1] rfl) h
      · have h := if_y q6 h
        refine lv_iconst (v := 2) hx hb dX10_takeClause_31 (by decide) ?_
        refine lv_goto (tgt := 46) hx hb dX10_takeClause_32 (by decide) ?_
        exact k_f_X10_takeClause_j46 X hk_a0 hd hS (lv_sub hl [1] rfl) h
    · have h := if_y q5 h
      refine lv_iconst (v := 1) hx hb dX10_takeClause_21 (by decide) ?_
      refine lv_goto (tgt := 46) hx hb dX10_takeClause_22 (by decide) ?_
      exact k_f_X10_takeClause_j46 X hk_a0 hd hS (lv_sub hl [1] rfl) h
  · have h := if_y q4 h
    refine lv_iconst (v := 0) hx hb dX10_takeClause_11 (by decide) ?_
    refine lv_goto (tgt := 46) hx hb dX10_takeClause_12 (by decide) ?_
    exact k_f_X10_takeClause_j46 X hk_a0 hd hS (lv_sub hl [1] rfl) h
