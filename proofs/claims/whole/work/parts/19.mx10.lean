theorem hv_X10_costOf : yX10_costOf.cls = RX10 ∧ yX10_costOf.cls ≠ "java/lang/invoke/MethodHandle" ∧ yX10_costOf.cls ≠ "java/lang/invoke/VarHandle" ∧ (parseMethodDescriptor yX10_costOf.desc).map (fun d => d.parameters.length) = some 0 := by decide +kernel
abbrev HL_X10_costOf_4 (l : Launch) (D : va_G) (cA : Nat → ClassId) (z : Nat) (av : List Value) (r : Int32) (μ' : Mm) (p : Program) (e : Env) (s : State) (m : MethodId) (below : List Frame) (meth : Method) (c : Code) (rc : Mm → Nat → Int32 → Int32 → Option (Int32 × Mm)) : Prop := ∀ (μ : Mm) (H : Heap) (locs : List Loc) (ls : Array Slot) (a0 : Nat) (x1 : Int32) (x2 : Int32), kd a0 = 10 → Wd D cA z μ H → va_S (Az z) s.heap H locs → lv_has ls 3 [(0, .ref (z + a0)), (1, .int x1), (2, .int x2)] → rc μ a0 x1 x2 = some (r, μ') → WG l D cA z wsX10_costOf 0 0 av (some (.int r)) μ' p e s m below meth c H locs (F0 m 4 ls [])
def f_X10_costOf_L4b (rc4 : Mm → Nat → Int32 → Int32 → Option (Int32 × Mm)) (μ : Mm) (a0 : Nat) (x1 : Int32) (x2 : Int32) : Option (Int32 × Mm) := if (μ.1 a0 3) ≤ x2 then (some (x1, μ)) else (bR (μ.2 a0 29) (fun b2 => bR (μ.2 a0 25) (fun b3 => gd (ckb x2 (ln b3)) (gd (ckb (((3 : Int32) * x2) + (μ.1 b3 (x2).toNatClampNeg)) (ln b2)) (bI (x1 + (μ.1 b2 (((3 : Int32) * x2) + (μ.1 b3 (x2).toNatClampNeg)).toNatClampNeg)) (fun v6 => rc4 μ a0 v6 (x2 + (1 : Int32))))))))
set_option maxRecDepth 100000 in
theorem k_f_X10_costOf_L4b {l : Launch} {D : va_G} {cA : Nat → ClassId} {z : Nat} {av : List Value} {p : Program} {e : Env} {s : State} {m : MethodId} {below : List Frame} {meth : Method} {c : Code} {r : Int32} {μ' : Mm} (X : Fx D cA RX10 wsX10_costOf cX10_costOf 3 (some .int) p s m av.toArray meth c) {rc4 : Mm → Nat → Int32 → Int32 → Option (Int32 × Mm)} (hrc4 : HL_X10_costOf_4 l D cA z av r μ' p e s m below meth c rc4) {μ : Mm} {a0 : Nat} {x1 : Int32} {x2 : Int32} (hk_a0 : kd a0 = 10) {H : Heap} {locs : List Loc} {ls : Array Slot} (hd : Wd D cA z μ H) (hS : va_S (Az z) s.heap H locs) (hl : lv_has ls 3 [(0, .ref (z + a0)), (1, .int x1), (2, .int x2)]) (h : f_X10_costOf_L4b rc4 μ a0 x1 x2 = some (r, μ')) : WG l D cA z wsX10_costOf 0 0 av (some (.int r)) μ' p e s m below meth c H locs (F0 m 4 ls []) := by
  obtain ⟨hx, hb, hr, hlk, hml, hown, hts, hK⟩ := id X
  unfold f_X10_costOf_L4b at h
  refine lv_iload_n hx hb dX10_costOf_4 rfl (lv_at hl 2 rfl) ?_
  refine lv_aload_n hx hb dX10_costOf_5 rfl (lv_at hl 0 rfl) ?_
  refine r_geti hx hb hts (fun w h => List.mem_cons_of_mem _ (List.mem_append_right _ (h))) hown hK hd hk_a0 rfl 3 fs_10_3 (hts (.fieldLink RX10 98 "LevelVotesModel" "items" "I") (List.mem_of_getElem? (i := 1) rfl)) dX10_costOf_6 ?_
  refine lv_icmp_ge (tgt := 36) hx hb dX10_costOf_9 (by decide) (fun q1 => ?_) (fun q1 => ?_)
  · have h := if_y q1 h
    refine lv_iload_n hx hb dX10_costOf_36 rfl (lv_at hl 1 rfl) ?_
    obtain ⟨rfl, rfl⟩ := so_e h
    exact rt_i hx hb hr hlk hd hS dX10_costOf_37
  · have h := if_n q1 h
    refine lv_iload_n hx hb dX10_costOf_12 rfl (lv_at hl 1 rfl) ?_
    refine lv_aload_n hx hb dX10_costOf_13 rfl (lv_at hl 0 rfl) ?_
    obtain ⟨b2, hb2, h⟩ := bR_e h
    refine r_getr hx hb hts (fun w h => List.mem_cons_of_mem _ (List.mem_append_right _ (h))) hown hK hd hk_a0 hb2 rfl fs_10_29 (hts (.fieldLink RX10 59 "LevelVotesModel" "costs" "[I") (List.mem_of_getElem? (i := 2) rfl)) dX10_costOf_14 (fun hq => ?_)
    have hk_b2 : kd b2 = 11 := hq
    refine lv_iconst (v := 3) hx hb dX10_costOf_17 (by decide) ?_
    refine lv_iload_n hx hb dX10_costOf_18 rfl (lv_at hl 2 rfl) ?_
    refine lv_imul hx hb dX10_costOf_19 ?_
    refine lv_aload_n hx hb dX10_costOf_20 rfl (lv_at hl 0 rfl) ?_
    obtain ⟨b3, hb3, h⟩ := bR_e h
    refine r_getr hx hb hts (fun w h => List.mem_cons_of_mem _ (List.mem_append_right _ (h))) hown hK hd hk_a0 hb3 rfl fs_10_25 (hts (.fieldLink RX10 50 "LevelVotesModel" "stands" "[I") (List.mem_of_getElem? (i := 3) rfl)) dX10_costOf_21 (fun hq => ?_)
    have hk_b3 : kd b3 = 11 := hq
    refine lv_iload_n hx hb dX10_costOf_24 rfl (lv_at hl 2 rfl) ?_
    obtain ⟨g4, h⟩ := gd_e h
    refine r_iald hx hb hK hd hk_b3 (ckb_in g4) dX10_costOf_25 ?_
    refine lv_iadd hx hb dX10_costOf_26 ?_
    obtain ⟨g5, h⟩ := gd_e h
    refine r_iald hx hb hK hd hk_b2 (ckb_in g5) dX10_costOf_27 ?_
    refine lv_iadd hx hb dX10_costOf_28 ?_
    refine lv_topi (fun v6 ev6 => ?_)
    have h := bI_e ev6 h
    refine lv_istore_n (lv' := [(1, .int v6), (0, .ref (z + a0)), (2, .int x2)]) hx hb dX10_costOf_29 rfl hl (by decide) rfl (fun ls hl => ?_)
    refine lv_iinc (v := x2 + (1 : Int32)) (lv' := [(2, .int (x2 + (1 : Int32))), (1, .int v6), (0, .ref (z + a0))]) hx hb dX10_costOf_30 hl (k := 2) rfl rfl (by decide) rfl (fun ls hl => ?_)
    refine lv_goto (tgt := 4) hx hb dX10_costOf_33 (by decide) ?_
    exact hrc4 _ _ _ _ _ _ _ hk_a0 hd hS (lv_sub hl [2, 1, 0] rfl) h
def f_X10_costOf_L4 : Nat → Mm → Nat → Int32 → Int32 → Option (Int32 × Mm)
  | 0 => fun _ _ _ _ => none
  | n + 1 => fun μ a0 x1 x2 => f_X10_costOf_L4b (f_X10_costOf_L4 n) μ a0 x1 x2
theorem k_f_X10_costOf_L4 {l : Launch} {D : va_G} {cA : Nat → ClassId} {z : Nat} {av : List Value} {p : Program} {e : Env} {s : State} {m : MethodId} {below : List Frame} {meth : Method} {c : Code} {r : Int32} {μ' : Mm} (X : Fx D cA RX10 wsX10_costOf cX10_costOf 3 (some .int) p s m av.toArray meth c) (n : Nat) : HL_X10_costOf_4 l D cA z av r μ' p e s m below meth c (f_X10_costOf_L4 n) := by
  induction n with
  | zero => intro _ _ _ _ _ _ _ _ _ _ _ h; have h2 : (none : Option _) = some _ := h; cases h2
  | succ n ih => intro μ H locs ls a0 x1 x2 hk_a0 hd hS hl h; exact k_f_X10_costOf_L4b X ih hk_a0 hd hS hl h
def f_X10_costOf (μ : Mm) (a0 : Nat) : Option (Int32 × Mm) := f_X10_costOf_L4 FU μ a0 (0 : Int32) (0 : Int32)
set_option maxRecDepth 100000 in
theorem c_X10_costOf {l : Launch} {D : va_G} {cA : Nat → ClassId} {z : Nat} {μ : Mm} {a0 : Nat} {r : Int32} {μ' : Mm} (hk_a0 : kd a0 = 10) (h : f_X10_costOf μ a0 = some (r, μ')) : Ct l D cA z yX10_costOf wsX10_costOf 0 0 [.ref (z + a0)] μ (some (.int r)) μ' := by
  refine m_in (cc := cX10_costOf) (maxL := 3) (ret := (some .int)) (own := RX10) (by decide) rfl rfl (Nat.le_of_ble_eq_true rfl) ?_
  intro p e s m below meth c ls X hd hS hl
  obtain ⟨hx, hb, hr, hlk, hml, hown, hts, hK⟩ := id X
  have hl : lv_has ls 3 [(0, .ref (z + a0))] := hl
  unfold f_X10_costOf at h
  refine lv_iconst (v := 0) hx hb dX10_costOf_0 (by decide) ?_
  refine lv_istore_n (lv' := [(1, .int (0 : Int32)), (0, .ref (z + a0))]) hx hb dX10_costOf_1 rfl hl (by decide) rfl (fun ls hl => ?_)
  refine lv_iconst (v := 0) hx hb dX10_costOf_2 (by decide) ?_
  refine lv_istore_n (lv' := [(2, .int (0 : Int32)), (1, .int (0 : Int32)), (0, .ref (z + a0))]) hx hb dX10_costOf_3 rfl hl (by decide) rfl (fun ls hl => ?_)
  exact k_f_X10_costOf_L4 X FU _ _ _ _ _ _ _ hk_a0 hd hS (lv_sub hl [2, 1, 0] rfl) h
theorem hv_X10_fewest : yX10_fewest.cls = RX10 ∧ yX10_fewest.cls ≠ "java/lang/invoke/MethodHandle" ∧ yX10_fewest.cls ≠ "java/lang/invoke/VarHandle" ∧ (parseMethodDescriptor yX10_fewest.desc).map (fun d => d.parameters.length) = some 3 := by decide +kernel
abbrev HL_X10_fewest_47 (l : Launch) (D : va_G) (cA : Nat → ClassId) (z : Nat) (av : List Value) (r : Int32) (μ' : Mm) (p : Program) (e : Env) (s : State) (m : MethodId) (below : List Frame) (meth : Method) (c : Code) (rc : Mm → Nat → Int32 → Int32 → Int32 → Int32 → Int32 → Int32 → Option (Int32 × Mm)) : Prop := ∀ (μ : Mm) (H : Heap) (locs : List Loc) (ls : Array Slot) (a0 : Nat) (x1 : Int32) (x2 : Int32) (x3 : Int32) (x4 : Int32) (x5 : Int32) (x6 : Int32), kd a0 = 10 → Wd D cA z μ H → va_S (Az z) s.heap H locs → lv_has ls 10 [(0, .ref (z + a0)), (1, .int x1), (2, .int x2), (3, .int x3), (4, .int x4), (5, .int x5), (6, .int x6)] → rc μ a0 x1 x2 x3 x4 x5 x6 = some (r, μ') → WG l D cA z wsX10_fewest 5 117 av (some (.int r)) μ' p e s m below meth c H locs (F0 m 47 ls [])
def f_X10_fewest_j141 (μ : Mm) (x4 : Int32) : Option (Int32 × Mm) := some (x4, μ)
set_option maxRecDepth 100000 in
theorem k_f_X10_fewest_j141 {l : Launch} {D : va_G} {cA : Nat → ClassId} {z : Nat} {av : List Value} {p : Program} {e : Env} {s : State} {m : MethodId} {below : List Frame} {meth : Method} {c : Code} {r : Int32} {μ' : Mm} (X : Fx D cA RX10 wsX10_fewest cX10_fewest 10 (some .int) p s m av.toArray meth c) {μ : Mm} {x4 : Int32} {H : Heap} {locs : List Loc} {ls : Array Slot} (hd : Wd D cA z μ H) (hS : va_S (Az z) s.heap H locs) (hl : lv_has ls 10 [(4, .int x4)]) (h : f_X10_fewest_j141 μ x4 = some (r, μ')) : WG l D cA z wsX10_fewest 5 117 av (some (.int r)) μ' p e s m below meth c H locs (F0 m 141 ls []) := by
  obtain ⟨hx, hb, hr, hlk, hml, hown, hts, hK⟩ := id X
  unfold f_X10_fewest_j141 at h
  refine lv_iload hx hb dX10_fewest_141 (lv_at hl 0 rfl) ?_
  refine lv_goto (tgt := 148) hx hb dX10_fewest_143 (by decide) ?_
  obtain ⟨rfl, rfl⟩ := so_e h
  exact rt_i hx hb hr hlk hd hS dX10_fewest_148
def f_X10_fewest_j125 (rc47 : Mm → Nat → Int32 → Int32 → Int32 → Int32 → Int32 → Int32 → Option (Int32 × Mm)) (μ : Mm) (a0 : Nat) (x1 : Int32) (x2 : Int32) (x3 : Int32) (x4 : Int32) (x5 : Int32) (x6 : Int32) : Option (Int32 × Mm) := rc47 μ a0 x1 x2 x3 x4 x5 (x6 + (1 : Int32))
set_option maxRecDepth 100000 in
theorem k_f_X10_fewest_j125 {l : Launch} {D : va_G} {cA : Nat → ClassId} {z : Nat} {av : List Value} {p : Program} {e : Env} {s : State} {m : MethodId} {below : List Frame} {meth : Method} {c : Code} {r : Int32} {μ' : Mm} (X : Fx D cA RX10 wsX10_fewest cX10_fewest 10 (some .int) p s m av.toArray meth c) {rc47 : Mm → Nat → Int32 → Int32 → Int32 → Int32 → Int32 → Int32 → Option (Int32 × Mm)} (hrc47 : HL_X10_fewest_47 l D cA z av r μ' p e s m below meth c rc47) {μ : Mm} {a0 : Nat} {x1 : Int32} {x2 : Int32} {x3 : Int32} {x4 : Int32} {x5 : Int32} {x6 : Int32} (hk_a0 : kd a0 = 10) {H : Heap} {locs : List Loc} {ls : Array Slot} (hd : Wd D cA z μ H) (hS : va_S (Az z) s.heap H locs) (hl : lv_has ls 10 [(0, .ref (z + a0)), (1, .int x1), (2, .int x2), (3, .int x3), (4, .int x4), (5, .int x5), (6, .int x6)]) (h : f_X10_fewest_j125 rc47 μ a0 x1 x2 x3 x4 x5 x6 = some (r, μ')) : WG l D cA z wsX10_fewest 5 117 av (some (.int r)) μ' p e s m below meth c H locs (F0 m 125 ls []) := by
  obtain ⟨hx, hb, hr, hlk, hml, hown, hts, hK⟩ := id X
  unfold f_X10_fewest_j125 at h
  refine lv_iinc (v := x6 + (1 : Int32)) (lv' := [(6, .int (x6 + (1 : Int32))), (0, .ref (z + a0)), (1, .int x1), (2, .int x2), (3, .int x3), (4, .int x4), (5, .int x5)]) hx hb dX10_fewest_125 hl (k := 6) rfl rfl (by decide) rfl (fun ls hl => ?_)
  refine lv_goto (tgt := 47) hx hb dX10_fewest_128 (by decide) ?_
  exact hrc47 _ _ _ _ _ _ _ _ _ _ _ hk_a0 hd hS (lv_sub hl [1, 2, 3, 4, 5, 6, 0] rfl) h
def f_X10_fewest_j123 (rc47 : Mm → Nat → Int32 → Int32 → Int32 → Int32 → Int32 → Int32 → Option (Int32 × Mm)) (μ : Mm) (a0 : Nat) (x1 : Int32) (x2 : Int32) (x3 : Int32) (x4 : Int32) (x6 : Int32) (ys0 : Int32) : Option (Int32 × Mm) := f_X10_fewest_j125 rc47 μ a0 x1 x2 x3 x4 ys0 x6
set_option maxRecDepth 100000 in
theorem k_f_X10_fewest_j123 {l : Launch} {D : va_G} {cA : Nat → ClassId} {z : Nat} {av : List Value} {p : Program} {e : Env} {s : State} {m : MethodId} {below : List Frame} {meth : Method} {c : Code} {r : Int32} {μ' : Mm} (X : Fx D cA RX10 wsX10_fewest cX10_fewest 10 (some .int) p s m av.toArray meth c) {rc47 : Mm → Nat → Int32 → Int32 → Int32 → Int32 → Int32 → Int32 → Option (Int32 × Mm)} (hrc47 : HL_X10_fewest_47 l D cA z av r μ' p e s m below meth c rc47) {μ : Mm} {a0 : Nat} {x1 : Int32} {x2 : Int32} {x3 : Int32} {x4 : Int32} {x6 : Int32} {ys0 : Int32} (hk_a0 : kd a0 = 10) {H : Heap} {locs : List Loc} {ls : Array Slot} (hd : Wd D cA z μ H) (hS : va_S (Az z) s.heap H locs) (hl : lv_has ls 10 [(0, .ref (z + a0)), (1, .int x1), (2, .int x2), (3, .int x3), (4, .int x4), (6, .int x6)]) (h : f_X10_fewest_j123 rc47 μ a0 x1 x2 x3 x4 x6 ys0 = some (r, μ')) : WG l D cA z wsX10_fewest 5 117 av (some (.int r)) μ' p e s m below meth c H locs (F0 m 123 ls [.int ys0]) := by
  obtain ⟨hx, hb, hr, hlk, hml, hown, hts, hK⟩ := id X
  unfold f_X10_fewest_j123 at h
  refine lv_istore (lv' := [(5, .int ys0), (0, .ref (z + a0)), (1, .int x1), (2, .int x2), (3, .int x3), (4, .int x4), (6, .int x6)]) hx hb dX10_fewest_123 hl (by decide) rfl (fun ls hl => ?_)
  exact k_f_X10_fewest_j125 X hrc47 hk_a0 hd hS (lv_sub hl [1, 2, 3, 4, 5, 0, 6] rfl) h
def f_X10_fewest_j109 (rc47 : Mm → Nat → Int32 → Int32 → Int32 → Int32 → Int32 → Int32 → Option (Int32 × Mm)) (μ : Mm) (a0 : Nat) (x1 : Int32) (x2 : Int32) (x3 : Int32) (x5 : Int32) (x6 : Int32) (x8 : Int32) (x9 : Int32) (ys0 : Int32) : Option (Int32 × Mm) := if x9 = 0 then (f_X10_fewest_j123 rc47 μ a0 x1 x2 x3 ys0 x6 x5) else (f_X10_fewest_j123 rc47 μ a0 x1 x2 x3 ys0 x6 x8)
set_option maxRecDepth 100000 in
theorem k_f_X10_fewest_j109 {l : Launch} {D : va_G} {cA : Nat → ClassId} {z : Nat} {av : List Value} {p : Program} {e : Env} {s : State} {m : MethodId} {below : List Frame} {meth : Method} {c : Code} {r : Int32} {μ' : Mm} (X : Fx D cA RX10 wsX10_fewest cX10_fewest 10 (some .int) p s m av.toArray meth c) {rc47 : Mm → Nat → Int32 → Int32 → Int32 → Int32 → Int32 → Int32 → Option (Int32 × Mm)} (hrc47 : HL_X10_fewest_47 l D cA z av r μ' p e s m below meth c rc47) {μ : Mm} {a0 : Nat} {x1 : Int32} {x2 : Int32} {x3 : Int32} {x5 : Int32} {x6 : Int32} {x8 : Int32} {x9 : Int32} {ys0 : Int32} (hk_a0 : kd a0 = 10) {H : Heap} {locs : List Loc} {ls : Array Slot} (hd : Wd D cA z μ H) (hS : va_S (Az z) s.heap H locs) (hl : lv_has ls 10 [(0, .ref (z + a0)), (1, .int x1), (2, .int x2), (3, .int x3), (5, .int x5), (6, .int x6), (8, .int x8), (9, .int x9)]) (h : f_X10_fewest_j109 rc47 μ a0 x1 x2 x3 x5 x6 x8 x9 ys0 = some (r, μ')) : WG l D cA z wsX10_fewest 5 117 av (some (.int r)) μ' p e s m below meth c H locs (F0 m 109 ls [.int ys0]) := by
  obtain ⟨hx, hb, hr, hlk, hml, hown, hts, hK⟩ := id X
  unfold f_X10_fewest_j109 at h
  refine lv_istore (lv' := [(4, .int ys0), (0, .ref (z + a0)), (1, .int x1), (2, .int x2), (3, .int x3), (5, .int x5), (6, .int x6), (8, .int x8), (9, .int x9)]) hx hb dX10_fewest_109 hl (by decide) rfl (fun ls hl => ?_)
  refine lv_iload hx hb dX10_fewest_111 (lv_at hl 8 rfl) ?_
  refine lv_if_eq (tgt := 121) hx hb dX10_fewest_113 (by decide) (fun q1 => ?_) (fun q1 => ?_)
  · have h := if_y q1 h
    refine lv_iload hx hb dX10_fewest_121 (lv_at hl 5 rfl) ?_
    exact k_f_X10_fewest_j123 X hrc47 hk_a0 hd hS (lv_sub hl [1, 2, 3, 4, 0, 6] rfl) h
  · have h := if_n q1 h
    refine lv_iload hx hb dX10_fewest_116 (lv_at hl 7 rfl) ?_
    refine lv_goto (tgt := 123) hx hb dX10_fewest_118 (by decide) ?_
    exact k_f_X10_fewest_j123 X hrc47 hk_a0 hd hS (lv_sub hl [1, 2, 3, 4, 0, 6] rfl) h
def f_X10_fewest_j95 (rc47 : Mm → Nat → Int32 → Int32 → Int32 → Int32 → Int32 → Int32 → Option (Int32 × Mm)) (μ : Mm) (a0 : Nat) (x1 : Int32) (x2 : Int32) (x3 : Int32) (x4 : Int32) (x5 : Int32) (x6 : Int32) (x7 : Int32) (x8 : Int32) (ys0 : Int32) : Option (Int32 × Mm) := if ys0 = 0 then (f_X10_fewest_j109 rc47 μ a0 x1 x2 x3 x5 x6 x8 ys0 x4) else (f_X10_fewest_j109 rc47 μ a0 x1 x2 x3 x5 x6 x8 ys0 x7)
set_option maxRecDepth 100000 in
theorem k_f_X10_fewest_j95 {l : Launch} {D : va_G} {cA : Nat → ClassId} {z : Nat} {av : List Value} {p : Program} {e : Env} {s : State} {m : MethodId} {below : List Frame} {meth : Method} {c : Code} {r : Int32} {μ' : Mm} (X : Fx D cA RX10 wsX10_fewest cX10_fewest 10 (some .int) p s m av.toArray meth c) {rc47 : Mm → Nat → Int32 → Int32 → Int32 → Int32 → Int32 → Int32 → Option (Int32 × Mm)} (hrc47 : HL_X10_fewest_47 l D cA z av r μ' p e s m below meth c rc47) {μ : Mm} {a0 : Nat} {x1 : Int32} {x2 : Int32} {x3 : Int32} {x4 : Int32} {x5 : Int32} {x6 : Int32} {x7 : Int32} {x8 : Int32} {ys0 : Int32} (hk_a0 : kd a0 = 10) {H : Heap} {locs : List Loc} {ls : Array Slot} (hd : Wd D cA z μ H) (hS : va_S (Az z) s.heap H locs) (hl : lv_has ls 10 [(0, .ref (z + a0)), (1, .int x1), (2, .int x2), (3, .int x3), (4, .int x4), (5, .int x5), (6, .int x6), (7, .int x7), (8, .int x8)]) (h : f_X10_fewest_j95 rc47 μ a0 x1 x2 x3 x4 x5 x6 x7 x8 ys0 = some (r, μ')) : WG l D cA z wsX10_fewest 5 117 av (some (.int r)) μ' p e s m below meth c H locs (F0 m 95 ls [.int ys0]) := by
  obtain ⟨hx, hb, hr, hlk, hml, hown, hts, hK⟩ := id X
  unfold f_X10_fewest_j95 at h
  refine lv_istore (lv' := [(9, .int ys0), (0, .ref (z + a0)), (1, .int x1), (2, .int x2), (3, .int x3), (4, .int x4), (5, .int x5), (6, .int x6), (7, .int x7), (8, .int x8)]) hx hb dX10_fewest_95 hl (by decide) rfl (fun ls hl => ?_)
  refine lv_iload hx hb dX10_fewest_97 (lv_at hl 0 rfl) ?_
  refine lv_if_eq (tgt := 107) hx hb dX10_fewest_99 (by decide) (fun q1 => ?_) (fun q1 => ?_)
  · have h := if_y q1 h
    refine lv_iload hx hb dX10_fewest_107 (lv_at hl 5 rfl) ?_
    exact k_f_X10_fewest_j109 X hrc47 hk_a0 hd hS (lv_sub hl [1, 2, 3, 4, 6, 7, 9, 0] rfl) h
  · have h := if_n q1 h
    refine lv_iload hx hb dX10_fewest_102 (lv_at hl 8 rfl) ?_
    refine lv_goto (tgt := 109) hx hb dX10_fewest_104 (by decide) ?_
    exact k_f_X10_fewest_j109 X hrc47 hk_a0 hd hS (lv_sub hl [1, 2, 3, 4, 6, 7, 9, 0] rfl) h
def f_X10_fewest_L47b (rc47 : Mm → Nat → Int32 → Int32 → Int32 → Int32 → Int32 → Int32 → Option (Int32 × Mm)) (μ : Mm) (a0 : Nat) (x1 : Int32) (x2 : Int32) (x3 : Int32) (x4 : Int32) (x5 : Int32) (x6 : Int32) : Option (Int32 × Mm) := bC (f_X10_waysToStand μ a0) (fun r2 μ1 => if r2 ≤ x6 then (if x4 < 0 then (f_X10_fewest_j141 μ1 x4) else (if x3 = (1 : Int32) then (f_X10_fewest_j141 μ1 x4) else (some (x5, μ1)))) else (bC (f_X10_standBy μ1 a0 x6) (fun r8 μ7 => bC (f_X10_costOf μ7 a0) (fun r11 μ10 => if x5 ≤ r11 then (f_X10_fewest_j125 rc47 μ10 a0 x1 x2 x3 x4 x5 x6) else (bV (f_X10_findHeights μ10 a0) (fun μ14 => bC (f_X10_restOf μ14 a0 x1) (fun r18 μ17 => if r18 = x2 then (f_X10_fewest_j95 rc47 μ17 a0 x1 x2 x3 x4 x5 x6 r8 r11 (1 : Int32)) else (f_X10_fewest_j95 rc47 μ17 a0 x1 x2 x3 x4 x5 x6 r8 r11 (0 : Int32)))))))))
set_option maxRecDepth 100000 in
theorem k_f_X10_fewest_L47b {l : Launch} {D : va_G} {cA : Nat → ClassId} {z : Nat} {av : List Value} {p : Program} {e : Env} {s : State} {m : MethodId} {below : List Frame} {meth : Method} {c : Code} {r : Int32} {μ' : Mm} (X : Fx D cA RX10 wsX10_fewest cX10_fewest 10 (some .int) p s m av.toArray meth c) {rc47 : Mm → Nat → Int32 → Int32 → Int32 → Int32 → Int32 → Int32 → Option (Int32 × Mm)} (hrc47 : HL_X10_fewest_47 l D cA z av r μ' p e s m below meth c rc47) {μ : Mm} {a0 : Nat} {x1 : Int32} {x2 : Int32} {x3 : Int32} {x4 : Int32} {x5 : Int32} {x6 : Int32} (hk_a0 : kd a0 = 10) {H : Heap} {locs : List Loc} {ls : Array Slot} (hd : Wd D cA z μ H) (hS : va_S (Az z) s.heap H locs) (hl : lv_has ls 10 [(0, .ref (z + a0)), (1, .int x1), (2, .int x2), (3, .int x3), (4, .int x4), (5, .int x5), (6, .int x6)]) (h : f_X10_fewest_L47b rc47 μ a0 x1 x2 x3 x4 x5 x6 = some (r, μ')) : WG l D cA z wsX10_fewest 5 117 av (some (.int r)) μ' p e s m below meth c H locs (F0 m 47 ls []) := by
  obtain ⟨hx, hb, hr, hlk, hml, hown, hts, hK⟩ := id X
  unfold f_X10_fewest_L47b at h
  refine lv_iload hx hb dX10_fewest_47 (lv_at hl 6 rfl) ?_
  refine lv_aload_n hx hb dX10_fewest_49 rfl (lv_at hl 0 rfl) ?_
  obtain ⟨r2, μ1, hc3, h⟩ := bC_e h
  refine rc_Vi (rest := [.int x6]) [] ⟨hx, hb, hml, hown, hts⟩ hK hd hS (c_X10_waysToStand hk_a0 hc3) (cwV 0 hts gX10_fewest_X10_waysToStand rfl rfl rfl hv_X10_waysToStand ⟨Nat.le_of_ble_eq_true rfl, Nat.le_of_ble_eq_true rfl⟩) hk_a0 rfl rfl rfl rfl hl.1 rfl (Nat.le_of_ble_eq_true rfl) dX10_fewest_50 ⟨Nat.zero_le _, Nat.zero_le _⟩ (fun H locs hd hS => ?_)
  refine lv_icmp_ge (tgt := 131) hx hb dX10_fewest_53 (by decide) (fun q4 => ?_) (fun q4 => ?_)
  · have h := if_y q4 h
    refine lv_iload hx hb dX10_fewest_131 (lv_at hl 4 rfl) ?_
    refine lv_if_lt (tgt := 141) hx hb dX10_fewest_133 (by decide) (fun q5 => ?_) (fun q5 => ?_)
    · have h := if_y q5 h
      exact k_f_X10_fewest_j141 X  hd hS (lv_sub hl [4] rfl) h
    · have h := if_n q5 h
      refine lv_iload_n hx hb dX10_fewest_136 rfl (lv_at hl 3 rfl) ?_
      refine lv_iconst (v := 1) hx hb dX10_fewest_137 (by decide) ?_
      refine lv_icmp_ne (tgt := 146) hx hb dX10_fewest_138 (by decide) (fun q6 => ?_) (fun q6 => ?_)
      · have h := if_n q6 h
        refine lv_iload hx hb dX10_fewest_146 (lv_at hl 5 rfl) ?_
        obtain ⟨rfl, rfl⟩ := so_e h
        exact rt_i hx hb hr hlk hd hS dX10_fewest_148
      · have h := if_y q6 h
        exact k_f_X10_fewest_j141 X  hd hS (lv_sub hl [4] rfl) h
  · have h := if_n q4 h
    refine lv_aload_n hx hb dX10_fewest_56 rfl (lv_at hl 0 rfl) ?_
    refine lv_iload hx hb dX10_fewest_57 (lv_at hl 6 rfl) ?_
    obtain ⟨r8, μ7, hc9, h⟩ := bC_e h
    refine rc_Vi (rest := []) [.int x6] ⟨hx, hb, hml, hown, hts⟩ hK hd hS (c_X10_standBy hk_a0 hc9) (cwV 1 hts gX10_fewest_X10_standBy rfl rfl rfl hv_X10_standBy ⟨Nat.le_of_ble_eq_true rfl, Nat.le_of_ble_eq_true rfl⟩) hk_a0 rfl rfl rfl rfl hl.1 rfl (Nat.le_of_ble_eq_true rfl) dX10_fewest_59 ⟨Nat.zero_le _, Nat.zero_le _⟩ (fun H locs hd hS => ?_)
    refine lv_istore (lv' := [(7, .int r8), (0, .ref (z + a0)), (1, .int x1), (2, .int x2), (3, .int x3), (4, .int x4), (5, .int x5), (6, .int x6)]) hx hb dX10_fewest_62 hl (by decide) rfl (fun ls hl => ?_)
    refine lv_aload_n hx hb dX10_fewest_64 rfl (lv_at hl 1 rfl) ?_
    obtain ⟨r11, μ10, hc12, h⟩ := bC_e h
    refine rc_Vi (rest := []) [] ⟨hx, hb, hml, hown, hts⟩ hK hd hS (c_X10_costOf hk_a0 hc12) (cwV 0 hts gX10_fewest_X10_costOf rfl rfl rfl hv_X10_costOf ⟨Nat.le_of_ble_eq_true rfl, Nat.le_of_ble_eq_true rfl⟩) hk_a0 rfl rfl rfl rfl hl.1 rfl (Nat.le_of_ble_eq_true rfl) dX10_fewest_65 ⟨Nat.zero_le _, Nat.zero_le _⟩ (fun H locs hd hS => ?_)
    refine lv_istore (lv' := [(8, .int r11), (7, .int r8), (0, .ref (z + a0)), (1, .int x1), (2, .int x2), (3, .int x3), (4, .int x4), (5, .int x5), (6, .int x6)]) hx hb dX10_fewest_68 hl (by decide) rfl (fun ls hl => ?_)
    refine lv_iload hx hb dX10_fewest_70 (lv_at hl 0 rfl) ?_
    refine lv_iload hx hb dX10_fewest_72 (lv_at hl 7 rfl) ?_
    refine lv_icmp_ge (tgt := 125) hx hb dX10_fewest_74 (by decide) (fun q13 => ?_) (fun q13 => ?_)
    · have h := if_y q13 h
      exact k_f_X10_fewest_j125 X hrc47 hk_a0 hd hS (lv_sub hl [2, 3, 4, 5, 6, 7, 8] rfl) h
    · have h := if_n q13 h
      refine lv_aload_n hx hb dX10_fewest_77 rfl (lv_at hl 2 rfl) ?_
      obtain ⟨μ14, hc16, h⟩ := bV_e h
      refine rc_Vv (rest := []) [] ⟨hx, hb, hml, hown, hts⟩ hK hd hS (c_X10_findHeights hk_a0 hc16) (cwV 0 hts gX10_fewest_X10_findHeights rfl rfl rfl hv_X10_findHeights ⟨Nat.le_of_ble_eq_true rfl, Nat.le_of_ble_eq_true rfl⟩) hk_a0 rfl rfl rfl rfl hl.1 rfl (Nat.le_of_ble_eq_true rfl) dX10_fewest_78 ⟨Nat.zero_le _, Nat.zero_le _⟩ (fun H locs hd hS => ?_)
      refine lv_aload_n hx hb dX10_fewest_81 rfl (lv_at hl 2 rfl) ?_
      refine lv_iload_n hx hb dX10_fewest_82 rfl (lv_at hl 3 rfl) ?_
      obtain ⟨r18, μ17, hc19, h⟩ := bC_e h
      refine rc_Vi (rest := []) [.int x1] ⟨hx, hb, hml, hown, hts⟩ hK hd hS (c_X10_restOf hk_a0 hc19) (cwV 1 hts gX10_fewest_X10_restOf rfl rfl rfl hv_X10_restOf ⟨Nat.le_of_ble_eq_true rfl, Nat.le_of_ble_eq_true rfl⟩) hk_a0 rfl rfl rfl rfl hl.1 rfl (Nat.le_of_ble_eq_true rfl) dX10_fewest_83 ⟨Nat.zero_le _, Nat.zero_le _⟩ (fun H locs hd hS => ?_)
      refine lv_iload_n hx hb dX10_fewest_86 rfl (lv_at hl 4 rfl) ?_
      refine lv_icmp_ne (tgt := 94) hx hb dX10_fewest_87 (by decide) (fun q20 => ?_) (fun q20 => ?_)
      · have h := if_n q20 h
        refine lv_iconst (v := 0) hx hb dX10_fewest_94 (by decide) ?_
        exact k_f_X10_fewest_j95 X hrc47 hk_a0 hd hS (lv_sub hl [2, 3, 4, 5, 6, 7, 8, 1, 0] rfl) h
      · have h := if_y q20 h
        refine lv_iconst (v := 1) hx hb dX10_fewest_90 (by decide) ?_
        refine lv_goto (tgt := 95) hx hb dX10_fewest_91 (by decide) ?_
        exact k_f_X10_fewest_j95 X hrc47 hk_a0 hd hS (lv_sub hl [2, 3, 4, 5, 6, 7, 8, 1, 0] rfl) h
def f_X10_fewest_L47 : Nat → Mm → Nat → Int32 → Int32 → Int32 → Int32 → Int32 → Int32 → Option (Int32 × Mm)
  | 0 => fun _ _ _ _ _ _ _ _ => none
  | n + 1 => fun μ a0 x1 x2 x3 x4 x5 x6 => f_X10_fewest_L47b (f_X10_fewest_L47 n) μ a0 x1 x2 x3 x4 x5 x6
theorem k_f_X10_fewest_L47 {l : Launch} {D : va_G} {cA : Nat → ClassId} {z : Nat} {av : List Value} {p : Program} {e : Env} {s : State} {m : MethodId} {below : List Frame} {meth : Method} {c : Code} {r : Int32} {μ' : Mm} (X : Fx D cA RX10 wsX10_fewest cX10_fewest 10 (some .int) p s m av.toArray meth c) (n : Nat) : HL_X10_fewest_47 l D cA z av r μ' p e s m below meth c (f_X10_fewest_L47 n) := by
  induction n with
  | zero => intro _ _ _ _ _ _ _ _ _ _ _ _ _ _ _ h; have h2 : (none : Option _) = some _ := h; cases h2
  | succ n ih => intro μ H locs ls a0 x1 x2 x3 x4 x5 x6 hk_a0 hd hS hl h; exact k_f_X10_fewest_L47b X ih hk_a0 hd hS hl h
def f_X10_fewest (μ : Mm) (a0 : Nat) (x1 : Int32) (x2 : Int32) (x3 : Int32) : Option (Int32 × Mm) := bC (f_X10_isCell μ a0 x1) (fun r2 μ1 => if r2 = 0 then (some ((-1000000001 : Int32), μ1)) else (bC (f_X10_isCell μ1 a0 x2) (fun r6 μ5 => if r6 = 0 then (some ((-1000000001 : Int32), μ5)) else (bC (f_X10_in μ5 (x3.toInt64) (0 : Int64) (1 : Int64)) (fun r10 μ9 => if r10 = 0 then (some ((-1000000002 : Int32), μ9)) else (bV (f_X10_findCosts μ9 a0) (fun μ13 => f_X10_fewest_L47 FU μ13 a0 x1 x2 x3 (-1 : Int32) (1000 : Int32) (0 : Int32))))))))
set_option maxRecDepth 100000 in
theorem c_X10_fewest {l : Launch} {D : va_G} {cA : Nat → ClassId} {z : Nat} {μ : Mm} {a0 : Nat} {x1 : Int32} {x2 : Int32} {x3 : Int32} {r : Int32} {μ' : Mm} (hk_a0 : kd a0 = 10) (h : f_X10_fewest μ a0 x1 x2 x3 = some (r, μ')) : Ct l D cA z yX10_fewest wsX10_fewest 5 117 [.ref (z + a0), .int x1, .int x2, .int x3] μ (some (.int r)) μ' := by
  refine m_in (cc := cX10_fewest) (maxL := 10) (ret := (some .int)) (own := RX10) (by decide) rfl rfl (Nat.le_of_ble_eq_true rfl) ?_
  intro p e s m below meth c ls X hd hS hl
  obtain ⟨hx, hb, hr, hlk, hml, hown, hts, hK⟩ := id X
  have hl : lv_has ls 10 [(0, .ref (z + a0)), (1, .int x1), (2, .int x2), (3, .int x3)] := hl
  unfold f_X10_fewest at h
  refine lv_aload_n hx hb dX10_fewest_0 rfl (lv_at hl 0 rfl) ?_
  refine lv_iload_n hx hb dX10_fewest_1 rfl (lv_at hl 1 rfl) ?_
  obtain ⟨r2, μ1, hc3, h⟩ := bC_e h
  refine rc_Vi (rest := []) [.int x1] ⟨hx, hb, hml, hown, hts⟩ hK hd hS (c_X10_isCell hk_a0 hc3) (cwV 1 hts gX10_fewest_X10_isCell rfl rfl rfl hv_X10_isCell ⟨Nat.le_of_ble_eq_true rfl, Nat.le_of_ble_eq_true rfl⟩) hk_a0 rfl rfl rfl rfl hl.1 rfl (Nat.le_of_ble_eq_true rfl) dX10_fewest_2 ⟨Nat.zero_le _, Nat.zero_le _⟩ (fun H locs hd hS => ?_)
  refine lv_if_eq (tgt := 16) hx hb dX10_fewest_5 (by decide) (fun q4 => ?_) (fun q4 => ?_)
  · have h := if_y q4 h
    refine lv_ldc (v := -1000000001) hx hb hown (hts (.constant RX10 226 (-1000000001)) (List.mem_of_getElem? (i := 1) rfl)) dX10_fewest_16 ?_
    obtain ⟨rfl, rfl⟩ := so_e h
    exact rt_i hx hb hr hlk hd hS dX10_fewest_18
  · have h := if_n q4 h
    refine lv_aload_n hx hb dX10_fewest_8 rfl (lv_at hl 0 rfl) ?_
    refine lv_iload_n hx hb dX10_fewest_9 rfl (lv_at hl 2 rfl) ?_
    obtain ⟨r6, μ5, hc7, h⟩ := bC_e h
    refine rc_Vi (rest := []) [.int x2] ⟨hx, hb, hml, hown, hts⟩ hK hd hS (c_X10_isCell hk_a0 hc7) (cwV 1 hts gX10_fewest_X10_isCell rfl rfl rfl hv_X10_isCell ⟨Nat.le_of_ble_eq_true rfl, Nat.le_of_ble_eq_true rfl⟩) hk_a0 rfl rfl rfl rfl hl.1 rfl (Nat.le_of_ble_eq_true rfl) dX10_fewest_10 ⟨Nat.zero_le _, Nat.zero_le _⟩ (fun H locs hd hS => ?_)
    refine lv_if_ne (tgt := 19) hx hb dX10_fewest_13 (by decide) (fun q8 => ?_) (fun q8 => ?_)
    · have h := if_n q8 h
      refine lv_iload_n hx hb dX10_fewest_19 rfl (lv_at hl 3 rfl) ?_
      refine lv_i2l hx hb dX10_fewest_20 rfl ?_
      refine lv_lconst (v := 0) hx hb dX10_fewest_21 (by decide) ?_
      refine lv_lconst (v := 1) hx hb dX10_fewest_22 (by decide) ?_
      obtain ⟨r10, μ9, hc11, h⟩ := bC_e h
      refine rc_Si (rest := []) [.long (x3.toInt64), .long (0 : Int64), .long (1 : Int64)] ⟨hx, hb, hml, hown, hts⟩ hK hd hS (c_X10_in  hc11) (va_cwS 3 hts gX10_fewest_X10_in rfl rfl rfl hn_X10_in ⟨Nat.le_of_ble_eq_true rfl, Nat.le_of_ble_eq_true rfl⟩) rfl hl.1 rfl (Nat.le_of_ble_eq_true rfl) dX10_fewest_23 ⟨Nat.zero_le _, Nat.zero_le _⟩ (fun H locs hd hS => ?_)
      refine lv_if_ne (tgt := 32) hx hb dX10_fewest_26 (by decide) (fun q12 => ?_) (fun q12 => ?_)
      · have h := if_n q12 h
        refine lv_aload_n hx hb dX10_fewest_32 rfl (lv_at hl 0 rfl) ?_
        obtain ⟨μ13, hc15, h⟩ := bV_e h
        refine rc_Vv (rest := []) [] ⟨hx, hb, hml, hown, hts⟩ hK hd hS (c_X10_findCosts hk_a0 hc15) (cwV 0 hts gX10_fewest_X10_findCosts rfl rfl rfl hv_X10_findCosts ⟨Nat.le_of_ble_eq_true rfl, Nat.le_of_ble_eq_true rfl⟩) hk_a0 rfl rfl rfl rfl hl.1 rfl (Nat.le_of_ble_eq_true rfl) dX10_fewest_33 ⟨Nat.zero_le _, Nat.zero_le _⟩ (fun H locs hd hS => ?_)
        refine lv_iconst (v := -1) hx hb dX10_fewest_36 (by decide) ?_
        refine lv_istore (lv' := [(4, .int (-1 : Int32)), (0, .ref (z + a0)), (1, .int x1), (2, .int x2), (3, .int x3)]) hx hb dX10_fewest_37 hl (by decide) rfl (fun ls hl => ?_)
        refine lv_sipush (v := 1000) hx hb dX10_fewest_39 (by decide) ?_
        refine lv_istore (lv' := [(5, .int (1000 : Int32)), (4, .int (-1 : Int32)), (0, .ref (z + a0)), (1, .int x1), (2, .int x2), (3, .int x3)]) hx hb dX10_fewest_42 hl (by decide) rfl (fun ls hl => ?_)
        refine lv_iconst (v := 0) hx hb dX10_fewest_44 (by decide) ?_
        refine lv_istore (lv' := [(6, .int (0 : Int32)), (5, .int (1000 : Int32)), (4, .int (-1 : Int32)), (0, .ref (z + a0)), (1, .int x1), (2, .int x2), (3, .int x3)]) hx hb dX10_fewest_45 hl (by decide) rfl (fun ls hl => ?_)
        exact k_f_X10_fewest_L47 X FU _ _ _ _ _ _ _ _ _ _ _ hk_a0 hd hS (lv_sub hl [3, 4, 5, 6, 2, 1, 0] rfl) h
      · have h := if_y q12 h
        refine lv_ldc (v := -1000000002) hx hb hown (hts (.constant RX10 106 (-1000000002)) (List.mem_of_getElem? (i := 2) rfl)) dX10_fewest_29 ?_
        obtain ⟨rfl, rfl⟩ := so_e h
        exact rt_i hx hb hr hlk hd hS dX10_fewest_31
    · have h := if_y q8 h
      refine lv_ldc (v := -1000000001) hx hb hown (hts (.constant RX10 226 (-1000000001)) (List.mem_of_getElem? (i := 1) rfl)) dX10_fewest_16 ?_
      obtain ⟨rfl, rfl⟩ := so_e h
      exact rt_i hx hb hr hlk hd hS dX10_fewest_18
theorem hv_X10_carries : yX10_carries.cls = RX10 ∧ yX10_carries.cls ≠ "java/lang/invoke/MethodHandle" ∧ yX10_carries.cls ≠ "java/lang/invoke/VarHandle" ∧ (parseMethodDescriptor yX10_carries.desc).map (fun d => d.parameters.length) = some 1 := by decide +kernel
abbrev HL_X10_carries_4 (l : Launch) (D : va_G) (cA : Nat → ClassId) (z : Nat) (av : List Value) (r : Int32) (μ' : Mm) (p : Program) (e : Env) (s : State) (m : MethodId) (below : List Frame) (meth : Method) (c : Code) (rc : Mm → Nat → Int32 → Int32 → Int32 → Option (Int32 × Mm)) : Prop := ∀ (μ : Mm) (H : Heap) (locs : List Loc) (ls : Array Slot) (a0 : Nat) (x1 : Int32) (x2 : Int32) (x3 : Int32), kd a0 = 10 → Wd D cA z μ H → va_S (Az z) s.heap H locs → lv_has ls 6 [(0, .ref (z + a0)), (1, .int x1), (2, .int x2), (3, .int x3)] → rc μ a0 x1 x2 x3 = some (r, μ') → WG l D cA z wsX10_carries 1 24 av (some (.int r)) μ' p e s m below meth c H locs (F0 m 4 ls [])
def f_X10_carries_j58 (rc4 : Mm → Nat → Int32 → Int32 → Int32 → Option (Int32 × Mm)) (μ : Mm) (a0 : Nat) (x1 : Int32) (x3 : Int32) (ys0 : Int32) : Option (Int32 × Mm) := rc4 μ a0 x1 ys0 (x3 + (1 : Int32))
set_option maxRecDepth 100000 in
theorem k_f_X10_carries_j58 {l : Launch} {D : va_G} {cA : Nat → ClassId} {z : Nat} {av : List Value} {p : Program} {e : Env} {s : State} {m : MethodId} {below : List Frame} {meth : Method} {c : Code} {r : Int32} {μ' : Mm} (X : Fx D cA RX10 wsX10_carries cX10_carries 6 (some .boolean) p s m av.toArray meth c) {rc4 : Mm → Nat → Int32 → Int32 → Int32 → Option (Int32 × Mm)} (hrc4 : HL_X10_carries_4 l D cA z av r μ' p e s m below meth c rc4) {μ : Mm} {a0 : Nat} {x1 : Int32} {x3 : Int32} {ys0 : Int32} (hk_a0 : kd a0 = 10) {H : Heap} {locs : List Loc} {ls : Array Slot} (hd : Wd D cA z μ H) (hS : va_S (Az z) s.heap H locs) (hl : lv_has ls 6 [(0, .ref (z + a0)), (1, .int x1), (3, .int x3)]) (h : f_X10_carries_j58 rc4 μ a0 x1 x3 ys0 = some (r, μ')) : WG l D cA z wsX10_carries 1 24 av (some (.int r)) μ' p e s m below meth c H locs (F0 m 58 ls [.int ys0]) := by
  obtain ⟨hx, hb, hr, hlk, hml, hown, hts, hK⟩ := id X
  unfold f_X10_carries_j58 at h
  refine lv_istore_n (lv' := [(2, .int ys0), (0, .ref (z + a0)), (1, .int x1), (3, .int x3)]) hx hb dX10_carries_58 rfl hl (by decide) rfl (fun ls hl => ?_)
  refine lv_iinc (v := x3 + (1 : Int32)) (lv' := [(3, .int (x3 + (1 : Int32))), (2, .int ys0), (0, .ref (z + a0)), (1, .int x1)]) hx hb dX10_carries_59 hl (k := 3) rfl rfl (by decide) rfl (fun ls hl => ?_)
  refine lv_goto (tgt := 4) hx hb dX10_carries_62 (by decide) ?_
  exact hrc4 _ _ _ _ _ _ _ _ hk_a0 hd hS (lv_sub hl [2, 3, 1, 0] rfl) h
def f_X10_carries_j57 (rc4 : Mm → Nat → Int32 → Int32 → Int32 → Option (Int32 × Mm)) (μ : Mm) (a0 : Nat) (x1 : Int32) (x3 : Int32) : Option (Int32 × Mm) := f_X10_carries_j58 rc4 μ a0 x1 x3 (0 : Int32)
set_option maxRecDepth 100000 in
theorem k_f_X10_carries_j57 {l : Launch} {D : va_G} {cA : Nat → ClassId} {z : Nat} {av : List Value} {p : Program} {e : Env} {s : State} {m : MethodId} {below : List Frame} {meth : Method} {c : Code} {r : Int32} {μ' : Mm} (X : Fx D cA RX10 wsX10_carries cX10_carries 6 (some .boolean) p s m av.toArray meth c) {rc4 : Mm → Nat → Int32 → Int32 → Int32 → Option (Int32 × Mm)} (hrc4 : HL_X10_carries_4 l D cA z av r μ' p e s m below meth c rc4) {μ : Mm} {a0 : Nat} {x1 : Int32} {x3 : Int32} (hk_a0 : kd a0 = 10) {H : Heap} {locs : List Loc} {ls : Array Slot} (hd : Wd D cA z μ H) (hS : va_S (Az z) s.heap H locs) (hl : lv_has ls 6 [(0, .ref (z + a0)), (1, .int x1), (3, .int x3)]) (h : f_X10_carries_j57 rc4 μ a0 x1 x3 = some (r, μ')) : WG l D cA z wsX10_carries 1 24 av (some (.int r)) μ' p e s m below meth c H locs (F0 m 57 ls []) := by
  obtain ⟨hx, hb, hr, hlk, hml, hown, hts, hK⟩ := id X
  unfold f_X10_carries_j57 at h
  refine lv_iconst (v := 0) hx hb dX10_carries_57 (by decide) ?_
  exact k_f_X10_carries_j58 X hrc4 hk_a0 hd hS (lv_sub hl [0, 1, 2] rfl) h
def f_X10_carries_L4b (rc4 : Mm → Nat → Int32 → Int32 → Int32 → Option (Int32 × Mm)) (μ : Mm) (a0 : Nat) (x1 : Int32) (x2 : Int32) (x3 : Int32) : Option (Int32 × Mm) := if (μ.1 a0 3) ≤ x3 then (gd (ckz x2) (some (x2, μ))) else (bC (f_X10_voters μ a0 x3 (1 : Int32)) (fun r4 μ3 => bI (r4 ||| x1) (fun v6 => bC (f_X10_voters μ3 a0 x3 (0 : Int32)) (fun r8 μ7 => bI (r8 &&& (x1 ^^^ (-1 : Int32))) (fun v10 => if x2 = 0 then (f_X10_carries_j57 rc4 μ7 a0 x1 x3) else (bC (f_X10_bits μ7 v6) (fun r13 μ12 => bC (f_X10_bits μ12 v10) (fun r16 μ15 => if (r13 - r16) ≤ (1 : Int32) then (f_X10_carries_j57 rc4 μ15 a0 x1 x3) else (f_X10_carries_j58 rc4 μ15 a0 x1 x3 (1 : Int32))))))))))
set_option maxRecDepth 100000 in
theorem k_f_X10_carries_L4b {l : Launch} {D : va_G} {cA : Nat → ClassId} {z : Nat} {av : List Value} {p : Program} {e : Env} {s : State} {m : MethodId} {below : List Frame} {meth : Method} {c : Code} {r : Int32} {μ' : Mm} (X : Fx D cA RX10 wsX10_carries cX10_carries 6 (some .boolean) p s m av.toArray meth c) {rc4 : Mm → Nat → Int32 → Int32 → Int32 → Option (Int32 × Mm)} (hrc4 : HL_X10_carries_4 l D cA z av r μ' p e s m below meth c rc4) {μ : Mm} {a0 : Nat} {x1 : Int32} {x2 : Int32} {x3 : Int32} (hk_a0 : kd a0 = 10) {H : Heap} {locs : List Loc} {ls : Array Slot} (hd : Wd D cA z μ H) (hS : va_S (Az z) s.heap H locs) (hl : lv_has ls 6 [(0, .ref (z + a0)), (1, .int x1), (2, .int x2), (3, .int x3)]) (h : f_X10_carries_L4b rc4 μ a0 x1 x2 x3 = some (r, μ')) : WG l D cA z wsX10_carries 1 24 av (some (.int r)) μ' p e s m below meth c H locs (F0 m 4 ls []) := by
  obtain ⟨hx, hb, hr, hlk, hml, hown, hts, hK⟩ := id X
  unfold f_X10_carries_L4b at h
  refine lv_iload_n hx hb dX10_carries_4 rfl (lv_at hl 3 rfl) ?_
  refine lv_aload_n hx hb dX10_carries_5 rfl (lv_at hl 0 rfl) ?_
  refine r_geti hx hb hts (fun w h => List.mem_cons_of_mem _ (List.mem_append_right _ (h))) hown hK hd hk_a0 rfl 3 fs_10_3 (hts (.fieldLink RX10 98 "LevelVotesModel" "items" "I") (List.mem_of_getElem? (i := 1) rfl)) dX10_carries_6 ?_
  refine lv_icmp_ge (tgt := 65) hx hb dX10_carries_9 (by decide) (fun q1 => ?_) (fun q1 => ?_)
  · have h := if_y q1 h
    refine lv_iload_n hx hb dX10_carries_65 rfl (lv_at hl 2 rfl) ?_
    obtain ⟨g2, h⟩ := gd_e h
    obtain ⟨rfl, rfl⟩ := so_e h
    exact rt_z hx hb hr (ckz_nar g2) hlk hd hS dX10_carries_66
  · have h := if_n q1 h
    refine lv_aload_n hx hb dX10_carries_12 rfl (lv_at hl 0 rfl) ?_
    refine lv_iload_n hx hb dX10_carries_13 rfl (lv_at hl 3 rfl) ?_
    refine lv_iconst (v := 1) hx hb dX10_carries_14 (by decide) ?_
    obtain ⟨r4, μ3, hc5, h⟩ := bC_e h
    refine rc_Vi (rest := []) [.int x3, .int (1 : Int32)] ⟨hx, hb, hml, hown, hts⟩ hK hd hS (c_X10_voters hk_a0 hc5) (cwV 2 hts gX10_carries_X10_voters rfl rfl rfl hv_X10_voters ⟨Nat.le_of_ble_eq_true rfl, Nat.le_of_ble_eq_true rfl⟩) hk_a0 rfl rfl rfl rfl hl.1 rfl (Nat.le_of_ble_eq_true rfl) dX10_carries_15 ⟨Nat.zero_le _, Nat.zero_le _⟩ (fun H locs hd hS => ?_)
    refine lv_iload_n hx hb dX10_carries_18 rfl (lv_at hl 1 rfl) ?_
    refine lv_ior hx hb dX10_carries_19 ?_
    refine lv_topi (fun v6 ev6 => ?_)
    have h := bI_e ev6 h
    refine lv_istore (lv' := [(4, .int v6), (0, .ref (z + a0)), (1, .int x1), (2, .int x2), (3, .int x3)]) hx hb dX10_carries_20 hl (by decide) rfl (fun ls hl => ?_)
    refine lv_aload_n hx hb dX10_carries_22 rfl (lv_at hl 1 rfl) ?_
    refine lv_iload_n hx hb dX10_carries_23 rfl (lv_at hl 4 rfl) ?_
    refine lv_iconst (v := 0) hx hb dX10_carries_24 (by decide) ?_
    obtain ⟨r8, μ7, hc9, h⟩ := bC_e h
    refine rc_Vi (rest := []) [.int x3, .int (0 : Int32)] ⟨hx, hb, hml, hown, hts⟩ hK hd hS (c_X10_voters hk_a0 hc9) (cwV 2 hts gX10_carries_X10_voters rfl rfl rfl hv_X10_voters ⟨Nat.le_of_ble_eq_true rfl, Nat.le_of_ble_eq_true rfl⟩) hk_a0 rfl rfl rfl rfl hl.1 rfl (Nat.le_of_ble_eq_true rfl) dX10_carries_25 ⟨Nat.zero_le _, Nat.zero_le _⟩ (fun H locs hd hS => ?_)
    refine lv_iload_n hx hb dX10_carries_28 rfl (lv_at hl 2 rfl) ?_
    refine lv_iconst (v := -1) hx hb dX10_carries_29 (by decide) ?_
    refine lv_ixor hx hb dX10_carries_30 ?_
    refine lv_iand hx hb dX10_carries_31 ?_
    refine lv_topi (fun v10 ev10 => ?_)
    have h := bI_e ev10 h
    refine lv_istore (lv' := [(5, .int v10), (4, .int v6), (0, .ref (z + a0)), (1, .int x1), (2, .int x2), (3, .int x3)]) hx hb dX10_carries_32 hl (by decide) rfl (fun ls hl => ?_)
    refine lv_iload_n hx hb dX10_carries_34 rfl (lv_at hl 4 rfl) ?_
    refine lv_if_eq (tgt := 57) hx hb dX10_carries_35 (by decide) (fun q11 => ?_) (fun q11 => ?_)
    · have h := if_y q11 h
      exact k_f_X10_carries_j57 X hrc4 hk_a0 hd hS (lv_sub hl [2, 3, 5] rfl) h
    · have h := if_n q11 h
      refine lv_iload hx hb dX10_carries_38 (lv_at hl 1 rfl) ?_
      obtain ⟨r13, μ12, hc14, h⟩ := bC_e h
      refine rc_Si (rest := []) [.int v6] ⟨hx, hb, hml, hown, hts⟩ hK hd hS (c_X10_bits  hc14) (va_cwS 1 hts gX10_carries_X10_bits rfl rfl rfl hn_X10_bits ⟨Nat.le_of_ble_eq_true rfl, Nat.le_of_ble_eq_true rfl⟩) rfl hl.1 rfl (Nat.le_of_ble_eq_true rfl) dX10_carries_40 ⟨Nat.zero_le _, Nat.zero_le _⟩ (fun H locs hd hS => ?_)
      refine lv_iload hx hb dX10_carries_43 (lv_at hl 0 rfl) ?_
      obtain ⟨r16, μ15, hc17, h⟩ := bC_e h
      refine rc_Si (rest := [.int r13]) [.int v10] ⟨hx, hb, hml, hown, hts⟩ hK hd hS (c_X10_bits  hc17) (va_cwS 1 hts gX10_carries_X10_bits rfl rfl rfl hn_X10_bits ⟨Nat.le_of_ble_eq_true rfl, Nat.le_of_ble_eq_true rfl⟩) rfl hl.1 rfl (Nat.le_of_ble_eq_true rfl) dX10_carries_45 ⟨Nat.zero_le _, Nat.zero_le _⟩ (fun H locs hd hS => ?_)
      refine lv_isub hx hb dX10_carries_48 ?_
      refine lv_iconst (v := 1) hx hb dX10_carries_49 (by decide) ?_
      refine lv_icmp_le (tgt := 57) hx hb dX10_carries_50 (by decide) (fun q18 => ?_) (fun q18 => ?_)
      · have h := if_y q18 h
        exact k_f_X10_carries_j57 X hrc4 hk_a0 hd hS (lv_sub hl [2, 3, 5] rfl) h
      · have h := if_n q18 h
        refine lv_iconst (v := 1) hx hb dX10_carries_53 (by decide) ?_
        refine lv_goto (tgt := 58) hx hb dX10_carries_54 (by decide) ?_
        exact k_f_X10_carries_j58 X hrc4 hk_a0 hd hS (lv_sub hl [2, 3, 5] rfl) h
def f_X10_carries_L4 : Nat → Mm → Nat → Int32 → Int32 → Int32 → Option (Int32 × Mm)
  | 0 => fun _ _ _ _ _ => none
  | n + 1 => fun μ a0 x1 x2 x3 => f_X10_carries_L4b (f_X10_carries_L4 n) μ a0 x1 x2 x3
theorem k_f_X10_carries_L4 {l : Launch} {D : va_G} {cA : Nat → ClassId} {z : Nat} {av : List Value} {p : Program} {e : Env} {s : State} {m : MethodId} {below : List Frame} {meth : Method} {c : Code} {r : Int32} {μ' : Mm} (X : Fx D cA RX10 wsX10_carries cX10_carries 6 (some .boolean) p s m av.toArray meth c) (n : Nat) : HL_X10_carries_4 l D cA z av r μ' p e s m below meth c (f_X10_carries_L4 n) := by
  induction n with
  | zero => intro _ _ _ _ _ _ _ _ _ _ _ _ h; have h2 : (none : Option _) = some _ := h; cases h2
  | succ n ih => intro μ H locs ls a0 x1 x2 x3 hk_a0 hd hS hl h; exact k_f_X10_carries_L4b X ih hk_a0 hd hS hl h
def f_X10_carries (μ : Mm) (a0 : Nat) (x1 : Int32) : Option (Int32 × Mm) := f_X10_carries_L4 FU μ a0 x1 (1 : Int32) (0 : Int32)
set_option maxRecDepth 100000 in
theorem c_X10_carries {l : Launch} {D : va_G} {cA : Nat → ClassId} {z : Nat} {μ : Mm} {a0 : Nat} {x1 : Int32} {r : Int32} {μ' : Mm} (hk_a0 : kd a0 = 10) (h : f_X10_carries μ a0 x1 = some (r, μ')) : Ct l D cA z yX10_carries wsX10_carries 1 24 [.ref (z + a0), .int x1] μ (some (.int r)) μ' := by
  refine m_in (cc := cX10_carries) (maxL := 6) (ret := (some .boolean)) (own := RX10) (by decide) rfl rfl (Nat.le_of_ble_eq_true rfl) ?_
  intro p e s m below meth c ls X hd hS hl
  obtain ⟨hx, hb, hr, hlk, hml, hown, hts, hK⟩ := id X
  have hl : lv_has ls 6 [(0, .ref (z + a0)), (1, .int x1)] := hl
  unfold f_X10_carries at h
  refine lv_iconst (v := 1) hx hb dX10_carries_0 (by decide) ?_
  refine lv_istore_n (lv' := [(2, .int (1 : Int32)), (0, .ref (z + a0)), (1, .int x1)]) hx hb dX10_carries_1 rfl hl (by decide) rfl (fun ls hl => ?_)
  refine lv_iconst (v := 0) hx hb dX10_carries_2 (by decide) ?_
  refine lv_istore_n (lv' := [(3, .int (0 : Int32)), (2, .int (1 : Int32)), (0, .ref (z + a0)), (1, .int x1)]) hx hb dX10_carries_3 rfl hl (by decide) rfl (fun ls hl => ?_)
  exact k_f_X10_carries_L4 X FU _ _ _ _ _ _ _ _ hk_a0 hd hS (lv_sub hl [2, 3, 1, 0] rfl) h
theorem hv_X10_carry : yX10_carry.cls = RX10 ∧ yX10_carry.cls ≠ "java/lang/invoke/MethodHandle" ∧ yX10_carry.cls ≠ "java/lang/invoke/VarHandle" ∧ (parseMethodDescriptor yX10_carry.desc).map (fun d => d.parameters.length) = some 0 := by decide +kernel
abbrev HL_X10_carry_4 (l : Launch) (D : va_G) (cA : Nat → ClassId) (z : Nat) (av : List Value) (r : Int32) (μ' : Mm) (p : Program) (e : Env) (s : State) (m : MethodId) (below : List Frame) (meth : Method) (c : Code) (rc : Mm → Nat → Int32 → Int32 → Option (Int32 × Mm)) : Prop := ∀ (μ : Mm) (H : Heap) (locs : List Loc) (ls : Array Slot) (a0 : Nat) (x1 : Int32) (x2 : Int32), kd a0 = 10 → Wd D cA z μ H → va_S (Az z) s.heap H locs → lv_has ls 4 [(0, .ref (z + a0)), (1, .int x1), (2, .int x2)] → rc μ a0 x1 x2 = some (r, μ') → WG l D cA z wsX10_carry 2 49 av (some (.int r)) μ' p e s m below meth c H locs (F0 m 4 ls [])
def f_X10_carry_j52 (rc4 : Mm → Nat → Int32 → Int32 → Option (Int32 × Mm)) (μ : Mm) (a0 : Nat) (x2 : Int32) (ys0 : Int32) : Option (Int32 × Mm) := rc4 μ a0 ys0 (x2 + (1 : Int32))
set_option maxRecDepth 100000 in
theorem k_f_X10_carry_j52 {l : Launch} {D : va_G} {cA : Nat → ClassId} {z : Nat} {av : List Value} {p : Program} {e : Env} {s : State} {m : MethodId} {below : List Frame} {meth : Method} {c : Code} {r : Int32} {μ' : Mm} (X : Fx D cA RX10 wsX10_carry cX10_carry 4 (some .int) p s m av.toArray meth c) {rc4 : Mm → Nat → Int32 → Int32 → Option (Int32 × Mm)} (hrc4 : HL_X10_carry_4 l D cA z av r μ' p e s m below meth c rc4) {μ : Mm} {a0 : Nat} {x2 : Int32} {ys0 : Int32} (hk_a0 : kd a0 = 10) {H : Heap} {locs : List Loc} {ls : Array Slot} (hd : Wd D cA z μ H) (hS : va_S (Az z) s.heap H locs) (hl : lv_has ls 4 [(0, .ref (z + a0)), (2, .int x2)]) (h : f_X10_carry_j52 rc4 μ a0 x2 ys0 = some (r, μ')) : WG l D cA z wsX10_carry 2 49 av (some (.int r)) μ' p e s m below meth c H locs (F0 m 52 ls [.int ys0]) := by
  obtain ⟨hx, hb, hr, hlk, hml, hown, hts, hK⟩ := id X
  unfold f_X10_carry_j52 at h
  refine lv_istore_n (lv' := [(1, .int ys0), (0, .ref (z + a0)), (2, .int x2)]) hx hb dX10_carry_52 rfl hl (by decide) rfl (fun ls hl => ?_)
  refine lv_iinc (v := x2 + (1 : Int32)) (lv' := [(2, .int (x2 + (1 : Int32))), (1, .int ys0), (0, .ref (z + a0))]) hx hb dX10_carry_53 hl (k := 2) rfl rfl (by decide) rfl (fun ls hl => ?_)
  refine lv_goto (tgt := 4) hx hb dX10_carry_56 (by decide) ?_
  exact hrc4 _ _ _ _ _ _ _ hk_a0 hd hS (lv_sub hl [2, 1, 0] rfl) h
def f_X10_carry_j51 (rc4 : Mm → Nat → Int32 → Int32 → Option (Int32 × Mm)) (μ : Mm) (a0 : Nat) (x1 : Int32) (x2 : Int32) : Option (Int32 × Mm) := f_X10_carry_j52 rc4 μ a0 x2 x1
set_option maxRecDepth 100000 in
theorem k_f_X10_carry_j51 {l : Launch} {D : va_G} {cA : Nat → ClassId} {z : Nat} {av : List Value} {p : Program} {e : Env} {s : State} {m : MethodId} {below : List Frame} {meth : Method} {c : Code} {r : Int32} {μ' : Mm} (X : Fx D cA RX10 wsX10_carry cX10_carry 4 (some .int) p s m av.toArray meth c) {rc4 : Mm → Nat → Int32 → Int32 → Option (Int32 × Mm)} (hrc4 : HL_X10_carry_4 l D cA z av r μ' p e s m below meth c rc4) {μ : Mm} {a0 : Nat} {x1 : Int32} {x2 : Int32} (hk_a0 : kd a0 = 10) {H : Heap} {locs : List Loc} {ls : Array Slot} (hd : Wd D cA z μ H) (hS : va_S (Az z) s.heap H locs) (hl : lv_has ls 4 [(0, .ref (z + a0)), (1, .int x1), (2, .int x2)]) (h : f_X10_carry_j51 rc4 μ a0 x1 x2 = some (r, μ')) : WG l D cA z wsX10_carry 2 49 av (some (.int r)) μ' p e s m below meth c H locs (F0 m 51 ls []) := by
  obtain ⟨hx, hb, hr, hlk, hml, hown, hts, hK⟩ := id X
  unfold f_X10_carry_j51 at h
  refine lv_iload_n hx hb dX10_carry_51 rfl (lv_at hl 1 rfl) ?_
  exact k_f_X10_carry_j52 X hrc4 hk_a0 hd hS (lv_sub hl [0, 2] rfl) h
def f_X10_carry_j34 (rc4 : Mm → Nat → Int32 → Int32 → Option (Int32 × Mm)) (μ : Mm) (a0 : Nat) (x1 : Int32) (x2 : Int32) (ys0 : Int32) : Option (Int32 × Mm) := if ys0 = 0 then (f_X10_carry_j51 rc4 μ a0 x1 x2) else (bC (f_X10_carries μ a0 x2) (fun r3 μ2 => if r3 = 0 then (f_X10_carry_j51 rc4 μ2 a0 x1 x2) else (f_X10_carry_j52 rc4 μ2 a0 x2 x2)))
set_option maxRecDepth 100000 in
theorem k_f_X10_carry_j34 {l : Launch} {D : va_G} {cA : Nat → ClassId} {z : Nat} {av : List Value} {p : Program} {e : Env} {s : State} {m : MethodId} {below : List Frame} {meth : Method} {c : Code} {r : Int32} {μ' : Mm} (X : Fx D cA RX10 wsX10_carry cX10_carry 4 (some .int) p s m av.toArray meth c) {rc4 : Mm → Nat → Int32 → Int32 → Option (Int32 × Mm)} (hrc4 : HL_X10_carry_4 l D cA z av r μ' p e s m below meth c rc4) {μ : Mm} {a0 : Nat} {x1 : Int32} {x2 : Int32} {ys0 : Int32} (hk_a0 : kd a0 = 10) {H : Heap} {locs : List Loc} {ls : Array Slot} (hd : Wd D cA z μ H) (hS : va_S (Az z) s.heap H locs) (hl : lv_has ls 4 [(0, .ref (z + a0)), (1, .int x1), (2, .int x2)]) (h : f_X10_carry_j34 rc4 μ a0 x1 x2 ys0 = some (r, μ')) : WG l D cA z wsX10_carry 2 49 av (some (.int r)) μ' p e s m below meth c H locs (F0 m 34 ls [.int ys0]) := by
  obtain ⟨hx, hb, hr, hlk, hml, hown, hts, hK⟩ := id X
  unfold f_X10_carry_j34 at h
  refine lv_istore_n (lv' := [(3, .int ys0), (0, .ref (z + a0)), (1, .int x1), (2, .int x2)]) hx hb dX10_carry_34 rfl hl (by decide) rfl (fun ls hl => ?_)
  refine lv_iload_n hx hb dX10_carry_35 rfl (lv_at hl 0 rfl) ?_
  refine lv_if_eq (tgt := 51) hx hb dX10_carry_36 (by decide) (fun q1 => ?_) (fun q1 => ?_)
  · have h := if_y q1 h
    exact k_f_X10_carry_j51 X hrc4 hk_a0 hd hS (lv_sub hl [1, 2, 3] rfl) h
  · have h := if_n q1 h
    refine lv_aload_n hx hb dX10_carry_39 rfl (lv_at hl 1 rfl) ?_
    refine lv_iload_n hx hb dX10_carry_40 rfl (lv_at hl 3 rfl) ?_
    obtain ⟨r3, μ2, hc4, h⟩ := bC_e h
    refine rc_Vi (rest := []) [.int x2] ⟨hx, hb, hml, hown, hts⟩ hK hd hS (c_X10_carries hk_a0 hc4) (cwV 1 hts gX10_carry_X10_carries rfl rfl rfl hv_X10_carries ⟨Nat.le_of_ble_eq_true rfl, Nat.le_of_ble_eq_true rfl⟩) hk_a0 rfl rfl rfl rfl hl.1 rfl (Nat.le_of_ble_eq_true rfl) dX10_carry_41 ⟨Nat.zero_le _, Nat.zero_le _⟩ (fun H locs hd hS => ?_)
    refine lv_if_eq (tgt := 51) hx hb dX10_carry_44 (by decide) (fun q5 => ?_) (fun q5 => ?_)
    · have h := if_y q5 h
      exact k_f_X10_carry_j51 X hrc4 hk_a0 hd hS (lv_sub hl [1, 2, 3] rfl) h
    · have h := if_n q5 h
      refine lv_iload_n hx hb dX10_carry_47 rfl (lv_at hl 3 rfl) ?_
      refine lv_goto (tgt := 52) hx hb dX10_carry_48 (by decide) ?_
      exact k_f_X10_carry_j52 X hrc4 hk_a0 hd hS (lv_sub hl [1, 3] rfl) h
def f_X10_carry_j29 (rc4 : Mm → Nat → Int32 → Int32 → Option (Int32 × Mm)) (μ : Mm) (a0 : Nat) (x1 : Int32) (x2 : Int32) : Option (Int32 × Mm) := f_X10_carry_j34 rc4 μ a0 x1 x2 (1 : Int32)
set_option maxRecDepth 100000 in
theorem k_f_X10_carry_j29 {l : Launch} {D : va_G} {cA : Nat → ClassId} {z : Nat} {av : List Value} {p : Program} {e : Env} {s : State} {m : MethodId} {below : List Frame} {meth : Method} {c : Code} {r : Int32} {μ' : Mm} (X : Fx D cA RX10 wsX10_carry cX10_carry 4 (some .int) p s m av.toArray meth c) {rc4 : Mm → Nat → Int32 → Int32 → Option (Int32 × Mm)} (hrc4 : HL_X10_carry_4 l D cA z av r μ' p e s m below meth c rc4) {μ : Mm} {a0 : Nat} {x1 : Int32} {x2 : Int32} (hk_a0 : kd a0 = 10) {H : Heap} {locs : List Loc} {ls : Array Slot} (hd : Wd D cA z μ H) (hS : va_S (Az z) s.heap H locs) (hl : lv_has ls 4 [(0, .ref (z + a0)), (1, .int x1), (2, .int x2)]) (h : f_X10_carry_j29 rc4 μ a0 x1 x2 = some (r, μ')) : WG l D cA z wsX10_carry 2 49 av (some (.int r)) μ' p e s m below meth c H locs (F0 m 29 ls []) := by
  obtain ⟨hx, hb, hr, hlk, hml, hown, hts, hK⟩ := id X
  unfold f_X10_carry_j29 at h
  refine lv_iconst (v := 1) hx hb dX10_carry_29 (by decide) ?_
  refine lv_goto (tgt := 34) hx hb dX10_carry_30 (by decide) ?_
  exact k_f_X10_carry_j34 X hrc4 hk_a0 hd hS (lv_sub hl [0, 1, 2] rfl) h
def f_X10_carry_L4b (rc4 : Mm → Nat → Int32 → Int32 → Option (Int32 × Mm)) (μ : Mm) (a0 : Nat) (x1 : Int32) (x2 : Int32) : Option (Int32 × Mm) := if ((1 : Int32) <<< ((μ.1 a0 7) &&& 31)) ≤ x2 then (some (x1, μ)) else (if x1 < 0 then (f_X10_carry_j29 rc4 μ a0 x1 x2) else (bC (f_X10_bits μ x2) (fun r4 μ3 => bC (f_X10_bits μ3 x1) (fun r7 μ6 => if r7 ≤ r4 then (f_X10_carry_j34 rc4 μ6 a0 x1 x2 (0 : Int32)) else (f_X10_carry_j29 rc4 μ6 a0 x1 x2)))))
set_option maxRecDepth 100000 in
theorem k_f_X10_carry_L4b {l : Launch} {D : va_G} {cA : Nat → ClassId} {z : Nat} {av : List Value} {p : Program} {e : Env} {s : State} {m : MethodId} {below : List Frame} {meth : Method} {c : Code} {r : Int32} {μ' : Mm} (X : Fx D cA RX10 wsX10_carry cX10_carry 4 (some .int) p s m av.toArray meth c) {rc4 : Mm → Nat → Int32 → Int32 → Option (Int32 × Mm)} (hrc4 : HL_X10_carry_4 l D cA z av r μ' p e s m below meth c rc4) {μ : Mm} {a0 : Nat} {x1 : Int32} {x2 : Int32} (hk_a0 : kd a0 = 10) {H : Heap} {locs : List Loc} {ls : Array Slot} (hd : Wd D cA z μ H) (hS : va_S (Az z) s.heap H locs) (hl : lv_has ls 4 [(0, .ref (z + a0)), (1, .int x1), (2, .int x2)]) (h : f_X10_carry_L4b rc4 μ a0 x1 x2 = some (r, μ')) : WG l D cA z wsX10_carry 2 49 av (some (.int r)) μ' p e s m below meth c H locs (F0 m 4 ls []) := by
  obtain ⟨hx, hb, hr, hlk, hml, hown, hts, hK⟩ := id X
  unfold f_X10_carry_L4b at h
  refine lv_iload_n hx hb dX10_carry_4 rfl (lv_at hl 2 rfl) ?_
  refine lv_iconst (v := 1) hx hb dX10_carry_5 (by decide) ?_
  refine lv_aload_n hx hb dX10_carry_6 rfl (lv_at hl 0 rfl) ?_
  refine r_geti hx hb hts (fun w h => List.mem_cons_of_mem _ (List.mem_append_right _ (h))) hown hK hd hk_a0 rfl 7 fs_10_7 (hts (.fieldLink RX10 101 "LevelVotesModel" "persons" "I") (List.mem_of_getElem? (i := 1) rfl)) dX10_carry_7 ?_
  refine lv_ishl hx hb dX10_carry_10 ?_
  refine lv_icmp_ge (tgt := 59) hx hb dX10_carry_11 (by decide) (fun q1 => ?_) (fun q1 => ?_)
  · have h := if_y q1 h
    refine lv_iload_n hx hb dX10_carry_59 rfl (lv_at hl 1 rfl) ?_
    obtain ⟨rfl, rfl⟩ := so_e h
    exact rt_i hx hb hr hlk hd hS dX10_carry_60
  · have h := if_n q1 h
    refine lv_iload_n hx hb dX10_carry_14 rfl (lv_at hl 1 rfl) ?_
    refine lv_if_lt (tgt := 29) hx hb dX10_carry_15 (by decide) (fun q2 => ?_) (fun q2 => ?_)
    · have h := if_y q2 h
      exact k_f_X10_carry_j29 X hrc4 hk_a0 hd hS (lv_sub hl [0, 1, 2] rfl) h
    · have h := if_n q2 h
      refine lv_iload_n hx hb dX10_carry_18 rfl (lv_at hl 2 rfl) ?_
      obtain ⟨r4, μ3, hc5, h⟩ := bC_e h
      refine rc_Si (rest := []) [.int x2] ⟨hx, hb, hml, hown, hts⟩ hK hd hS (c_X10_bits  hc5) (va_cwS 1 hts gX10_carry_X10_bits rfl rfl rfl hn_X10_bits ⟨Nat.le_of_ble_eq_true rfl, Nat.le_of_ble_eq_true rfl⟩) rfl hl.1 rfl (Nat.le_of_ble_eq_true rfl) dX10_carry_19 ⟨Nat.zero_le _, Nat.zero_le _⟩ (fun H locs hd hS => ?_)
      refine lv_iload_n hx hb dX10_carry_22 rfl (lv_at hl 1 rfl) ?_
      obtain ⟨r7, μ6, hc8, h⟩ := bC_e h
      refine rc_Si (rest := [.int r4]) [.int x1] ⟨hx, hb, hml, hown, hts⟩ hK hd hS (c_X10_bits  hc8) (va_cwS 1 hts gX10_carry_X10_bits rfl rfl rfl hn_X10_bits ⟨Nat.le_of_ble_eq_true rfl, Nat.le_of_ble_eq_true rfl⟩) rfl hl.1 rfl (Nat.le_of_ble_eq_true rfl) dX10_carry_23 ⟨Nat.zero_le _, Nat.zero_le _⟩ (fun H locs hd hS => ?_)
      refine lv_icmp_ge (tgt := 33) hx hb dX10_carry_26 (by decide) (fun q9 => ?_) (fun q9 => ?_)
      · have h := if_y q9 h
        refine lv_iconst (v := 0) hx hb dX10_carry_33 (by decide) ?_
        exact k_f_X10_carry_j34 X hrc4 hk_a0 hd hS (lv_sub hl [0, 1, 2] rfl) h
      · have h := if_n q9 h
        exact k_f_X10_carry_j29 X hrc4 hk_a0 hd hS (lv_sub hl [0, 1, 2] rfl) h
def f_X10_carry_L4 : Nat → Mm → Nat → Int32 → Int32 → Option (Int32 × Mm)
  | 0 => fun _ _ _ _ => none
  | n + 1 => fun μ a0 x1 x2 => f_X10_carry_L4b (f_X10_carry_L4 n) μ a0 x1 x2
theorem k_f_X10_carry_L4 {l : Launch} {D : va_G} {cA : Nat → ClassId} {z : Nat} {av : List Value} {p : Program} {e : Env} {s : State} {m : MethodId} {below : List Frame} {meth : Method} {c : Code} {r : Int32} {μ' : Mm} (X : Fx D cA RX10 wsX10_carry cX10_carry 4 (some .int) p s m av.toArray meth c) (n : Nat) : HL_X10_carry_4 l D cA z av r μ' p e s m below meth c (f_X10_carry_L4 n) := by
  induction n with
  | zero => intro _ _ _ _ _ _ _ _ _ _ _ h; have h2 : (none : Option _) = some _ := h; cases h2
  | succ n ih => intro μ H locs ls a0 x1 x2 hk_a0 hd hS hl h; exact k_f_X10_carry_L4b X ih hk_a0 hd hS hl h
def f_X10_carry (μ : Mm) (a0 : Nat) : Option (Int32 × Mm) := f_X10_carry_L4 FU μ a0 (-1 : Int32) (0 : Int32)
set_option maxRecDepth 100000 in
theorem c_X10_carry {l : Launch} {D : va_G} {cA : Nat → ClassId} {z : Nat} {μ : Mm} {a0 : Nat} {r : Int32} {μ' : Mm} (hk_a0 : kd a0 = 10) (h : f_X10_carry μ a0 = some (r, μ')) : Ct l D cA z yX10_carry wsX10_carry 2 49 [.ref (z + a0)] μ (some (.int r)) μ' := by
  refine m_in (cc := cX10_carry) (maxL := 4) (ret := (some .int)) (own := RX10) (by decide) rfl rfl (Nat.le_of_ble_eq_true rfl) ?_
  intro p e s m below meth c ls X hd hS hl
  obtain ⟨hx, hb, hr, hlk, hml, hown, hts, hK⟩ := id X
  have hl : lv_has ls 4 [(0, .ref (z + a0))] := hl
  unfold f_X10_carry at h
  refine lv_iconst (v := -1) hx hb dX10_carry_0 (by decide) ?_
  refine lv_istore_n (lv' := [(1, .int (-1 : Int32)), (0, .ref (z + a0))]) hx hb dX10_carry_1 rfl hl (by decide) rfl (fun ls hl => ?_)
  refine lv_iconst (v := 0) hx hb dX10_carry_2 (by decide) ?_
  refine lv_istore_n (lv' := [(2, .int (0 : Int32)), (1, .int (-1 : Int32)), (0, .ref (z + a0))]) hx hb dX10_carry_3 rfl hl (by decide) rfl (fun ls hl => ?_)
  exact k_f_X10_carry_L4 X FU _ _ _ _ _ _ _ hk_a0 hd hS (lv_sub hl [2, 1, 0] rfl) h
theorem hv_X10_waltz : yX10_waltz.cls = RX10 ∧ yX10_waltz.cls ≠ "java/lang/invoke/MethodHandle" ∧ yX10_waltz.cls ≠ "java/lang/invoke/VarHandle" ∧ (parseMethodDescriptor yX10_waltz.desc).map (fun d => d.parameters.length) = some 1 := by decide +kernel
def f_X10_waltz (μ : Mm) (a0 : Nat) (x1 : Int32) : Option (Int32 × Mm) := bC (f_X10_cells μ a0) (fun r2 μ1 => bC (f_X10_in μ1 (x1.toInt64) (0 : Int64) ((((1 : Int32) <<< (r2 &&& 31)) - (1 : Int32)).toInt64)) (fun r5 μ4 => if r5 = 0 then (some ((-1000000001 : Int32), μ4)) else (bC (f_X10_spreadOf μ4 a0 x1) (fun r9 μ8 => some (r9, μ8)))))
set_option maxRecDepth 100000 in
theorem c_X10_waltz {l : Launch} {D : va_G} {cA : Nat → ClassId} {z : Nat} {μ : Mm} {a0 : Nat} {x1 : Int32} {r : Int32} {μ' : Mm} (hk_a0 : kd a0 = 10) (h : f_X10_waltz μ a0 x1 = some (r, μ')) : Ct l D cA z yX10_waltz wsX10_waltz 7 162 [.ref (z + a0), .int x1] μ (some (.int r)) μ' := by
  refine m_in (cc := cX10_waltz) (maxL := 2) (ret := (some .int)) (own := RX10) (by decide) rfl rfl (Nat.le_of_ble_eq_true rfl) ?_
  intro p e s m below meth c ls X hd hS hl
  obtain ⟨hx, hb, hr, hlk, hml, hown, hts, hK⟩ := id X
  have hl : lv_has ls 2 [(0, .ref (z + a0)), (1, .int x1)] := hl
  unfold f_X10_waltz at h
  refine lv_iload_n hx hb dX10_waltz_0 rfl (lv_at hl 1 rfl) ?_
  refine lv_i2l hx hb dX10_waltz_1 rfl ?_
  refine lv_lconst (v := 0) hx hb dX10_waltz_2 (by decide) ?_
  refine lv_iconst (v := 1) hx hb dX10_waltz_3 (by decide) ?_
  refine lv_aload_n hx hb dX10_waltz_4 rfl (lv_at hl 0 rfl) ?_
  obtain ⟨r2, μ1, hc3, h⟩ := bC_e h
  refine rc_Vi (rest := [.int (1 : Int32), .long (0 : Int64), .long (x1.toInt64)]) [] ⟨hx, hb, hml, hown, hts⟩ hK hd hS (c_X10_cells hk_a0 hc3) (cwV 0 hts gX10_waltz_X10_cells rfl rfl rfl hv_X10_cells ⟨Nat.le_of_ble_eq_true rfl, Nat.le_of_ble_eq_true rfl⟩) hk_a0 rfl rfl rfl rfl hl.1 rfl (Nat.le_of_ble_eq_true rfl) dX10_waltz_5 ⟨Nat.zero_le _, Nat.zero_le _⟩ (fun H locs hd hS => ?_)
  refine lv_ishl hx hb dX10_waltz_8 ?_
  refine lv_iconst (v := 1) hx hb dX10_waltz_9 (by decide) ?_
  refine lv_isub hx hb dX10_waltz_10 ?_
  refine lv_i2l hx hb dX10_waltz_11 rfl ?_
  obtain ⟨r5, μ4, hc6, h⟩ := bC_e h
  refine rc_Si (rest := []) [.long (x1.toInt64), .long (0 : Int64), .long ((((1 : Int32) <<< (r2 &&& 31)) - (1 : Int32)).toInt64)] ⟨hx, hb, hml, hown, hts⟩ hK hd hS (c_X10_in  hc6) (va_cwS 3 hts gX10_waltz_X10_in rfl rfl rfl hn_X10_in ⟨Nat.le_of_ble_eq_true rfl, Nat.le_of_ble_eq_true rfl⟩) rfl hl.1 rfl (Nat.le_of_ble_eq_true rfl) dX10_waltz_12 ⟨Nat.zero_le _, Nat.zero_le _⟩ (fun H locs hd hS => ?_)
  refine lv_if_eq (tgt := 26) hx hb dX10_waltz_15 (by decide) (fun q7 => ?_) (fun q7 => ?_)
  · have h := if_y q7 h
    refine lv_ldc (v := -1000000001) hx hb hown (hts (.constant RX10 226 (-1000000001)) (List.mem_of_getElem? (i := 1) rfl)) dX10_waltz_26 ?_
    obtain ⟨rfl, rfl⟩ := so_e h
    exact rt_i hx hb hr hlk hd hS dX10_waltz_28
  · have h := if_n q7 h
    refine lv_aload_n hx hb dX10_waltz_18 rfl (lv_at hl 0 rfl) ?_
    refine lv_iload_n hx hb dX10_waltz_19 rfl (lv_at hl 1 rfl) ?_
    obtain ⟨r9, μ8, hc10, h⟩ := bC_e h
    refine rc_Vi (rest := []) [.int x1] ⟨hx, hb, hml, hown, hts⟩ hK hd hS (c_X10_spreadOf hk_a0 hc10) (cwV 1 hts gX10_waltz_X10_spreadOf rfl rfl rfl hv_X10_spreadOf ⟨Nat.le_of_ble_eq_true rfl, Nat.le_of_ble_eq_true rfl⟩) hk_a0 rfl rfl rfl rfl hl.1 rfl (Nat.le_of_ble_eq_true rfl) dX10_waltz_20 ⟨Nat.zero_le _, Nat.zero_le _⟩ (fun H locs hd hS => ?_)
    refine lv_goto (tgt := 28) hx hb dX10_waltz_23 (by decide) ?_
    obtain ⟨rfl, rfl⟩ := so_e h
    exact rt_i hx hb hr hlk hd hS dX10_waltz_28
theorem hv_X10_recount : yX10_recount.cls = RX10 ∧ yX10_recount.cls ≠ "java/lang/invoke/MethodHandle" ∧ yX10_recount.cls ≠ "java/lang/invoke/VarHandle" ∧ (parseMethodDescriptor yX10_recount.desc).map (fun d => d.parameters.length) = some 2 := by decide +kernel
abbrev HL_X10_recount_34 (l : Launch) (D : va_G) (cA : Nat → ClassId) (z : Nat) (av : List Value) (r : Int32) (μ' : Mm) (p : Program) (e : Env) (s : State) (m : MethodId) (below : List Frame) (meth : Method) (c : Code) (rc : Mm → Int32 → Int32 → Int64 → Int32 → Option (Int32 × Mm)) : Prop := ∀ (μ : Mm) (H : Heap) (locs : List Loc) (ls : Array Slot) (x1 : Int32) (x2 : Int32) (x3 : Int64) (x5 : Int32), Wd D cA z μ H → va_S (Az z) s.heap H locs → lv_has ls 6 [(1, .int x1), (2, .int x2), (3, .long x3), (5, .int x5)] → rc μ x1 x2 x3 x5 = some (r, μ') → WG l D cA z wsX10_recount 1 25 av (some (.int r)) μ' p e s m below meth c H locs (F0 m 34 ls [])
def f_X10_recount_L34b (rc34 : Mm → Int32 → Int32 → Int64 → Int32 → Option (Int32 × Mm)) (μ : Mm) (x1 : Int32) (x2 : Int32) (x3 : Int64) (x5 : Int32) : Option (Int32 × Mm) := if x1 ≤ x5 then (some (x3.toInt32, μ)) else (bL ((x3 * (((100 : Int32) - x2).toInt64)) / (100 : Int64)) (fun v2 => rc34 μ x1 x2 v2 (x5 + (1 : Int32))))
set_option maxRecDepth 100000 in
theorem k_f_X10_recount_L34b {l : Launch} {D : va_G} {cA : Nat → ClassId} {z : Nat} {av : List Value} {p : Program} {e : Env} {s : State} {m : MethodId} {below : List Frame} {meth : Method} {c : Code} {r : Int32} {μ' : Mm} (X : Fx D cA RX10 wsX10_recount cX10_recount 6 (some .int) p s m av.toArray meth c) {rc34 : Mm → Int32 → Int32 → Int64 → Int32 → Option (Int32 × Mm)} (hrc34 : HL_X10_recount_34 l D cA z av r μ' p e s m below meth c rc34) {μ : Mm} {x1 : Int32} {x2 : Int32} {x3 : Int64} {x5 : Int32} {H : Heap} {locs : List Loc} {ls : Array Slot} (hd : Wd D cA z μ H) (hS : va_S (Az z) s.heap H locs) (hl : lv_has ls 6 [(1, .int x1), (2, .int x2), (3, .long x3), (5, .int x5)]) (h : f_X10_recount_L34b rc34 μ x1 x2 x3 x5 = some (r, μ')) : WG l D cA z wsX10_recount 1 25 av (some (.int r)) μ' p e s m below meth c H locs (F0 m 34 ls []) := by
  obtain ⟨hx, hb, hr, hlk, hml, hown, hts, hK⟩ := id X
  unfold f_X10_recount_L34b at h
  refine lv_iload hx hb dX10_recount_34 (lv_at hl 3 rfl) ?_
  refine lv_iload_n hx hb dX10_recount_36 rfl (lv_at hl 0 rfl) ?_
  refine lv_icmp_ge (tgt := 58) hx hb dX10_recount_37 (by decide) (fun q1 => ?_) (fun q1 => ?_)
  · have h := if_y q1 h
    refine lv_lload_n hx hb dX10_recount_58 rfl (lv_at hl 2 rfl) ?_
    refine lv_l2i hx hb dX10_recount_59 rfl ?_
    obtain ⟨rfl, rfl⟩ := so_e h
    exact rt_i hx hb hr hlk hd hS dX10_recount_60
  · have h := if_n q1 h
    refine lv_lload_n hx hb dX10_recount_40 rfl (lv_at hl 2 rfl) ?_
    refine lv_bipush (v := 100) hx hb dX10_recount_41 (by decide) ?_
    refine lv_iload_n hx hb dX10_recount_43 rfl (lv_at hl 1 rfl) ?_
    refine lv_isub hx hb dX10_recount_44 ?_
    refine lv_i2l hx hb dX10_recount_45 rfl ?_
    refine lv_lmul hx hb dX10_recount_46 ?_
    refine lv_ldc2 (v := 100) hx hb hown (hts (.constantLong RX10 284 (100)) (List.mem_of_getElem? (i := 2) rfl)) dX10_recount_47 ?_
    refine lv_ldiv hx hb dX10_recount_50 (by decide) ?_
    refine lv_topl (fun v2 ev2 => ?_)
    have h := bL_e ev2 h
    refine lv_lstore_n (lv' := [(3, .long v2), (1, .int x1), (2, .int x2), (5, .int x5)]) hx hb dX10_recount_51 rfl hl (by decide) rfl (fun ls hl => ?_)
    refine lv_iinc (v := x5 + (1 : Int32)) (lv' := [(5, .int (x5 + (1 : Int32))), (3, .long v2), (1, .int x1), (2, .int x2)]) hx hb dX10_recount_52 hl (k := 3) rfl rfl (by decide) rfl (fun ls hl => ?_)
    refine lv_goto (tgt := 34) hx hb dX10_recount_55 (by decide) ?_
    exact hrc34 _ _ _ _ _ _ _ _  hd hS (lv_sub hl [2, 3, 1, 0] rfl) h
def f_X10_recount_L34 : Nat → Mm → Int32 → Int32 → Int64 → Int32 → Option (Int32 × Mm)
  | 0 => fun _ _ _ _ _ => none
  | n + 1 => fun μ x1 x2 x3 x5 => f_X10_recount_L34b (f_X10_recount_L34 n) μ x1 x2 x3 x5
theorem k_f_X10_recount_L34 {l : Launch} {D : va_G} {cA : Nat → ClassId} {z : Nat} {av : List Value} {p : Program} {e : Env} {s : State} {m : MethodId} {below : List Frame} {meth : Method} {c : Code} {r : Int32} {μ' : Mm} (X : Fx D cA RX10 wsX10_recount cX10_recount 6 (some .int) p s m av.toArray meth c) (n : Nat) : HL_X10_recount_34 l D cA z av r μ' p e s m below meth c (f_X10_recount_L34 n) := by
  induction n with
  | zero => intro _ _ _ _ _ _ _ _ _ _ _ h; have h2 : (none : Option _) = some _ := h; cases h2
  | succ n ih => intro μ H locs ls x1 x2 x3 x5  hd hS hl h; exact k_f_X10_recount_L34b X ih  hd hS hl h
def f_X10_recount (μ : Mm) (a0 : Nat) (x1 : Int32) (x2 : Int32) : Option (Int32 × Mm) := bC (f_X10_in μ (x1.toInt64) (0 : Int64) (60 : Int64)) (fun r2 μ1 => if r2 = 0 then (some ((-1000000002 : Int32), μ1)) else (bC (f_X10_in μ1 (x2.toInt64) (0 : Int64) (100 : Int64)) (fun r6 μ5 => if r6 = 0 then (some ((-1000000002 : Int32), μ5)) else (f_X10_recount_L34 FU μ5 x1 x2 (1000000000 : Int64) (0 : Int32)))))
set_option maxRecDepth 100000 in
theorem c_X10_recount {l : Launch} {D : va_G} {cA : Nat → ClassId} {z : Nat} {μ : Mm} {a0 : Nat} {x1 : Int32} {x2 : Int32} {r : Int32} {μ' : Mm} (hk_a0 : kd a0 = 10) (h : f_X10_recount μ a0 x1 x2 = some (r, μ')) : Ct l D cA z yX10_recount wsX10_recount 1 25 [.ref (z + a0), .int x1, .int x2] μ (some (.int r)) μ' := by
  refine m_in (cc := cX10_recount) (maxL := 6) (ret := (some .int)) (own := RX10) (by decide) rfl rfl (Nat.le_of_ble_eq_true rfl) ?_
  intro p e s m below meth c ls X hd hS hl
  obtain ⟨hx, hb, hr, hlk, hml, hown, hts, hK⟩ := id X
  have hl : lv_has ls 6 [(0, .ref (z + a0)), (1, .int x1), (2, .int x2)] := hl
  unfold f_X10_recount at h
  refine lv_iload_n hx hb dX10_recount_0 rfl (lv_at hl 1 rfl) ?_
  refine lv_i2l hx hb dX10_recount_1 rfl ?_
  refine lv_lconst (v := 0) hx hb dX10_recount_2 (by decide) ?_
  refine lv_ldc2 (v := 60) hx hb hown (hts (.constantLong RX10 261 (60)) (List.mem_of_getElem? (i := 1) rfl)) dX10_recount_3 ?_
  obtain ⟨r2, μ1, hc3, h⟩ := bC_e h
  refine rc_Si (rest := []) [.long (x1.toInt64), .long (0 : Int64), .long (60 : Int64)] ⟨hx, hb, hml, hown, hts⟩ hK hd hS (c_X10_in  hc3) (va_cwS 3 hts gX10_recount_X10_in rfl rfl rfl hn_X10_in ⟨Nat.le_of_ble_eq_true rfl, Nat.le_of_ble_eq_true rfl⟩) rfl hl.1 rfl (Nat.le_of_ble_eq_true rfl) dX10_recount_6 ⟨Nat.zero_le _, Nat.zero_le _⟩ (fun H locs hd hS => ?_)
  refine lv_if_eq (tgt := 24) hx hb dX10_recount_9 (by decide) (fun q4 => ?_) (fun q4 => ?_)
  · have h := if_y q4 h
    refine lv_ldc (v := -1000000002) hx hb hown (hts (.constant RX10 106 (-1000000002)) (List.mem_of_getElem? (i := 3) rfl)) dX10_recount_24 ?_
    obtain ⟨rfl, rfl⟩ := so_e h
    exact rt_i hx hb hr hlk hd hS dX10_recount_26
  · have h := if_n q4 h
    refine lv_iload_n hx hb dX10_recount_12 rfl (lv_at hl 2 rfl) ?_
    refine lv_i2l hx hb dX10_recount_13 rfl ?_
    refine lv_lconst (v := 0) hx hb dX10_recount_14 (by decide) ?_
    refine lv_ldc2 (v := 100) hx hb hown (hts (.constantLong RX10 284 (100)) (List.mem_of_getElem? (i := 2) rfl)) dX10_recount_15 ?_
    obtain ⟨r6, μ5, hc7, h⟩ := bC_e h
    refine rc_Si (rest := []) [.long (x2.toInt64), .long (0 : Int64), .long (100 : Int64)] ⟨hx, hb, hml, hown, hts⟩ hK hd hS (c_X10_in  hc7) (va_cwS 3 hts gX10_recount_X10_in rfl rfl rfl hn_X10_in ⟨Nat.le_of_ble_eq_true rfl, Nat.le_of_ble_eq_true rfl⟩) rfl hl.1 rfl (Nat.le_of_ble_eq_true rfl) dX10_recount_18 ⟨Nat.zero_le _, Nat.zero_le _⟩ (fun H locs hd hS => ?_)
    refine lv_if_ne (tgt := 27) hx hb dX10_recount_21 (by decide) (fun q8 => ?_) (fun q8 => ?_)
    · have h := if_n q8 h
      refine lv_ldc2 (v := 1000000000) hx hb hown (hts (.constantLong RX10 286 (1000000000)) (List.mem_of_getElem? (i := 4) rfl)) dX10_recount_27 ?_
      refine lv_lstore_n (lv' := [(3, .long (1000000000 : Int64)), (0, .ref (z + a0)), (1, .int x1), (2, .int x2)]) hx hb dX10_recount_30 rfl hl (by decide) rfl (fun ls hl => ?_)
      refine lv_iconst (v := 0) hx hb dX10_recount_31 (by decide) ?_
      refine lv_istore (lv' := [(5, .int (0 : Int32)), (3, .long (1000000000 : Int64)), (0, .ref (z + a0)), (1, .int x1), (2, .int x2)]) hx hb dX10_recount_32 hl (by decide) rfl (fun ls hl => ?_)
      exact k_f_X10_recount_L34 X FU _ _ _ _ _ _ _ _  hd hS (lv_sub hl [3, 4, 1, 0] rfl) h
    · have h := if_y q8 h
      refine lv_ldc (v := -1000000002) hx hb hown (hts (.constant RX10 106 (-1000000002)) (List.mem_of_getElem? (i := 3) rfl)) dX10_recount_24 ?_
      obtain ⟨rfl, rfl⟩ := so_e h
      exact rt_i hx hb hr hlk hd hS dX10_recount_26
theorem hv_X10_see : yX10_see.cls = RX10 ∧ yX10_see.cls ≠ "java/lang/invoke/MethodHandle" ∧ yX10_see.cls ≠ "java/lang/invoke/VarHandle" ∧ (parseMethodDescriptor yX10_see.desc).map (fun d => d.parameters.length) = some 2 := by decide +kernel
def f_X10_see (μ : Mm) (a0 : Nat) (x1 : Int32) (x2 : Int32) : Option (Int32 × Mm) := bC (f_X10_isCell μ a0 x1) (fun r2 μ1 => if r2 = 0 then (some ((-1000000001 : Int32), μ1)) else (bC (f_X10_isCell μ1 a0 x2) (fun r6 μ5 => if r6 = 0 then (some ((-1000000001 : Int32), μ5)) else (if (μ5.1 a0 30) = (6 : Int32) then (some ((-1000000004 : Int32), μ5)) else (bR (μ5.2 a0 31) (fun b10 => gd (ckb (μ5.1 a0 30) (ln b10)) (bM (up2 μ5.1 b10 (μ5.1 a0 30).toNatClampNeg x1, μ5.2) (fun μ12 => bR (μ12.2 a0 32) (fun b13 => gd (ckb (μ12.1 a0 30) (ln b13)) (bM (up2 μ12.1 b13 (μ12.1 a0 30).toNatClampNeg x2, μ12.2) (fun μ15 => bM (up2 μ15.1 a0 30 ((μ15.1 a0 30) + (1 : Int32)), μ15.2) (fun μ16 => some (μ16.1 a0 30, μ16)))))))))))))
set_option maxRecDepth 100000 in
theorem c_X10_see {l : Launch} {D : va_G} {cA : Nat → ClassId} {z : Nat} {μ : Mm} {a0 : Nat} {x1 : Int32} {x2 : Int32} {r : Int32} {μ' : Mm} (hk_a0 : kd a0 = 10) (h : f_X10_see μ a0 x1 x2 = some (r, μ')) : Ct l D cA z yX10_see wsX10_see 2 46 [.ref (z + a0), .int x1, .int x2] μ (some (.int r)) μ' := by
  refine m_in (cc := cX10_see) (maxL := 3) (ret := (some .int)) (own := RX10) (by decide) rfl rfl (Nat.le_of_ble_eq_true rfl) ?_
  intro p e s m below meth c ls X hd hS hl
  obtain ⟨hx, hb, hr, hlk, hml, hown, hts, hK⟩ := id X
  have hl : lv_has ls 3 [(0, .ref (z + a0)), (1, .int x1), (2, .int x2)] := hl
  unfold f_X10_see at h
  refine lv_aload_n hx hb dX10_see_0 rfl (lv_at hl 0 rfl) ?_
  refine lv_iload_n hx hb dX10_see_1 rfl (lv_at hl 1 rfl) ?_
  obtain ⟨r2, μ1, hc3, h⟩ := bC_e h
  refine rc_Vi (rest := []) [.int x1] ⟨hx, hb, hml, hown, hts⟩ hK hd hS (c_X10_isCell hk_a0 hc3) (cwV 1 hts gX10_see_X10_isCell rfl rfl rfl hv_X10_isCell ⟨Nat.le_of_ble_eq_true rfl, Nat.le_of_ble_eq_true rfl⟩) hk_a0 rfl rfl rfl rfl hl.1 rfl (Nat.le_of_ble_eq_true rfl) dX10_see_2 ⟨Nat.zero_le _, Nat.zero_le _⟩ (fun H locs hd hS => ?_)
  refine lv_if_eq (tgt := 16) hx hb dX10_see_5 (by decide) (fun q4 => ?_) (fun q4 => ?_)
  · have h := if_y q4 h
    refine lv_ldc (v := -1000000001) hx hb hown (hts (.constant RX10 226 (-1000000001)) (List.mem_of_getElem? (i := 1) rfl)) dX10_see_16 ?_
    obtain ⟨rfl, rfl⟩ := so_e h
    exact rt_i hx hb hr hlk hd hS dX10_see_18
  · have h := if_n q4 h
    refine lv_aload_n hx hb dX10_see_8 rfl (lv_at hl 0 rfl) ?_
    refine lv_iload_n hx hb dX10_see_9 rfl (lv_at hl 2 rfl) ?_
    obtain ⟨r6, μ5, hc7, h⟩ := bC_e h
    refine rc_Vi (rest := []) [.int x2] ⟨hx, hb, hml, hown, hts⟩ hK hd hS (c_X10_isCell hk_a0 hc7) (cwV 1 hts gX10_see_X10_isCell rfl rfl rfl hv_X10_isCell ⟨Nat.le_of_ble_eq_true rfl, Nat.le_of_ble_eq_true rfl⟩) hk_a0 rfl rfl rfl rfl hl.1 rfl (Nat.le_of_ble_eq_true rfl) dX10_see_10 ⟨Nat.zero_le _, Nat.zero_le _⟩ (fun H locs hd hS => ?_)
    refine lv_if_ne (tgt := 19) hx hb dX10_see_13 (by decide) (fun q8 => ?_) (fun q8 => ?_)
    · have h := if_n q8 h
      refine lv_aload_n hx hb dX10_see_19 rfl (lv_at hl 0 rfl) ?_
      refine r_geti hx hb hts (fun w h => List.mem_cons_of_mem _ (List.mem_append_right _ (h))) hown hK hd hk_a0 rfl 30 fs_10_30 (hts (.fieldLink RX10 166 "LevelVotesModel" "seen" "I") (List.mem_of_getElem? (i := 2) rfl)) dX10_see_20 ?_
      refine lv_bipush (v := 6) hx hb dX10_see_23 (by decide) ?_
      refine lv_icmp_ne (tgt := 31) hx hb dX10_see_25 (by decide) (fun q9 => ?_) (fun q9 => ?_)
      · have h := if_n q9 h
        refine lv_aload_n hx hb dX10_see_31 rfl (lv_at hl 0 rfl) ?_
        obtain ⟨b10, hb10, h⟩ := bR_e h
        refine r_getr hx hb hts (fun w h => List.mem_cons_of_mem _ (List.mem_append_right _ (h))) hown hK hd hk_a0 hb10 rfl fs_10_31 (hts (.fieldLink RX10 62 "LevelVotesModel" "seenFrom" "[I") (List.mem_of_getElem? (i := 4) rfl)) dX10_see_32 (fun hq => ?_)
        have hk_b10 : kd b10 = 11 := hq
        refine lv_aload_n hx hb dX10_see_35 rfl (lv_at hl 0 rfl) ?_
        refine r_geti hx hb hts (fun w h => List.mem_cons_of_mem _ (List.mem_append_right _ (h))) hown hK hd hk_a0 rfl 30 fs_10_30 (hts (.fieldLink RX10 166 "LevelVotesModel" "seen" "I") (List.mem_of_getElem? (i := 2) rfl)) dX10_see_36 ?_
        refine lv_iload_n hx hb dX10_see_39 rfl (lv_at hl 1 rfl) ?_
        obtain ⟨g11, h⟩ := gd_e h
        refine r_iast hx hb hK hd hS hk_b10 (ckb_in g11) dX10_see_40 (fun μ12 eμ12 H locs hd hS => ?_)
        have h := bM_e eμ12 h
        refine lv_aload_n hx hb dX10_see_41 rfl (lv_at hl 0 rfl) ?_
        obtain ⟨b13, hb13, h⟩ := bR_e h
        refine r_getr hx hb hts (fun w h => List.mem_cons_of_mem _ (List.mem_append_right _ (h))) hown hK hd hk_a0 hb13 rfl fs_10_32 (hts (.fieldLink RX10 65 "LevelVotesModel" "seenAt" "[I") (List.mem_of_getElem? (i := 5) rfl)) dX10_see_42 (fun hq => ?_)
        have hk_b13 : kd b13 = 11 := hq
        refine lv_aload_n hx hb dX10_see_45 rfl (lv_at hl 0 rfl) ?_
        refine r_geti hx hb hts (fun w h => List.mem_cons_of_mem _ (List.mem_append_right _ (h))) hown hK hd hk_a0 rfl 30 fs_10_30 (hts (.fieldLink RX10 166 "LevelVotesModel" "seen" "I") (List.mem_of_getElem? (i := 2) rfl)) dX10_see_46 ?_
        refine lv_iload_n hx hb dX10_see_49 rfl (lv_at hl 2 rfl) ?_
        obtain ⟨g14, h⟩ := gd_e h
        refine r_iast hx hb hK hd hS hk_b13 (ckb_in g14) dX10_see_50 (fun μ15 eμ15 H locs hd hS => ?_)
        have h := bM_e eμ15 h
        refine lv_aload_n hx hb dX10_see_51 rfl (lv_at hl 0 rfl) ?_
        refine lv_dup hx hb dX10_see_52 rfl ?_
        refine r_geti hx hb hts (fun w h => List.mem_cons_of_mem _ (List.mem_append_right _ (h))) hown hK hd hk_a0 rfl 30 fs_10_30 (hts (.fieldLink RX10 166 "LevelVotesModel" "seen" "I") (List.mem_of_getElem? (i := 2) rfl)) dX10_see_53 ?_
        refine lv_iconst (v := 1) hx hb dX10_see_56 (by decide) ?_
        refine lv_iadd hx hb dX10_see_57 ?_
        refine r_puti hx hb hts (fun w h => List.mem_cons_of_mem _ (List.mem_append_right _ (h))) tyX10 tyX10_ok nmX10 hown hK hd hS hk_a0 rfl 30 fs_10_30 rfl (hts (.fieldLink RX10 166 "LevelVotesModel" "seen" "I") (List.mem_of_getElem? (i := 2) rfl)) (vp_nar_int _) rfl dX10_see_58 (fun μ16 eμ16 H locs hd hS => ?_)
        have h := bM_e eμ16 h
        refine lv_aload_n hx hb dX10_see_61 rfl (lv_at hl 0 rfl) ?_
        refine r_geti hx hb hts (fun w h => List.mem_cons_of_mem _ (List.mem_append_right _ (h))) hown hK hd hk_a0 rfl 30 fs_10_30 (hts (.fieldLink RX10 166 "LevelVotesModel" "seen" "I") (List.mem_of_getElem? (i := 2) rfl)) dX10_see_62 ?_
        obtain ⟨rfl, rfl⟩ := so_e h
        exact rt_i hx hb hr hlk hd hS dX10_see_65
      · have h := if_y q9 h
        refine lv_ldc (v := -1000000004) hx hb hown (hts (.constant RX10 110 (-1000000004)) (List.mem_of_getElem? (i := 3) rfl)) dX10_see_28 ?_
        obtain ⟨rfl, rfl⟩ := so_e h
        exact rt_i hx hb hr hlk hd hS dX10_see_30
    · have h := if_y q8 h
      refine lv_ldc (v := -1000000001) hx hb hown (hts (.constant RX10 226 (-1000000001)) (List.mem_of_getElem? (i := 1) rfl)) dX10_see_16 ?_
      obtain ⟨rfl, rfl⟩ := so_e h
      exact rt_i hx hb hr hlk hd hS dX10_see_18
theorem hv_X10_allSeen : yX10_allSeen.cls = RX10 ∧ yX10_allSeen.cls ≠ "java/lang/invoke/MethodHandle" ∧ yX10_allSeen.cls ≠ "java/lang/invoke/VarHandle" ∧ (parseMethodDescriptor yX10_allSeen.desc).map (fun d => d.parameters.length) = some 0 := by decide +kernel
abbrev HL_X10_allSeen_8 (l : Launch) (D : va_G) (cA : Nat → ClassId) (z : Nat) (av : List Value) (r : Int32) (μ' : Mm) (p : Program) (e : Env) (s : State) (m : MethodId) (below : List Frame) (meth : Method) (c : Code) (rc : Mm → Nat → Int32 → Int32 → Option (Int32 × Mm)) : Prop := ∀ (μ : Mm) (H : Heap) (locs : List Loc) (ls : Array Slot) (a0 : Nat) (x1 : Int32) (x2 : Int32), kd a0 = 10 → Wd D cA z μ H → va_S (Az z) s.heap H locs → lv_has ls 3 [(0, .ref (z + a0)), (1, .int x1), (2, .int x2)] → rc μ a0 x1 x2 = some (r, μ') → WG l D cA z wsX10_allSeen 5 117 av (some (.int r)) μ' p e s m below meth c H locs (F0 m 8 ls [])
def f_X10_allSeen_j44 (rc8 : Mm → Nat → Int32 → Int32 → Option (Int32 × Mm)) (μ : Mm) (a0 : Nat) (x2 : Int32) (ys0 : Int32) : Option (Int32 × Mm) := rc8 μ a0 ys0 (x2 + (1 : Int32))
set_option maxRecDepth 100000 in
theorem k_f_X10_allSeen_j44 {l : Launch} {D : va_G} {cA : Nat → ClassId} {z : Nat} {av : List Value} {p : Program} {e : Env} {s : State} {m : MethodId} {below : List Frame} {meth : Method} {c : Code} {r : Int32} {μ' : Mm} (X : Fx D cA RX10 wsX10_allSeen cX10_allSeen 3 (some .boolean) p s m av.toArray meth c) {rc8 : Mm → Nat → Int32 → Int32 → Option (Int32 × Mm)} (hrc8 : HL_X10_allSeen_8 l D cA z av r μ' p e s m below meth c rc8) {μ : Mm} {a0 : Nat} {x2 : Int32} {ys0 : Int32} (hk_a0 : kd a0 = 10) {H : Heap} {locs : List Loc} {ls : Array Slot} (hd : Wd D cA z μ H) (hS : va_S (Az z) s.heap H locs) (hl : lv_has ls 3 [(0, .ref (z + a0)), (2, .int x2)]) (h : f_X10_allSeen_j44 rc8 μ a0 x2 ys0 = some (r, μ')) : WG l D cA z wsX10_allSeen 5 117 av (some (.int r)) μ' p e s m below meth c H locs (F0 m 44 ls [.int ys0]) := by
  obtain ⟨hx, hb, hr, hlk, hml, hown, hts, hK⟩ := id X
  unfold f_X10_allSeen_j44 at h
  refine lv_istore_n (lv' := [(1, .int ys0), (0, .ref (z + a0)), (2, .int x2)]) hx hb dX10_allSeen_44 rfl hl (by decide) rfl (fun ls hl => ?_)
  refine lv_iinc (v := x2 + (1 : Int32)) (lv' := [(2, .int (x2 + (1 : Int32))), (1, .int ys0), (0, .ref (z + a0))]) hx hb dX10_allSeen_45 hl (k := 2) rfl rfl (by decide) rfl (fun ls hl => ?_)
  refine lv_goto (tgt := 8) hx hb dX10_allSeen_48 (by decide) ?_
  exact hrc8 _ _ _ _ _ _ _ hk_a0 hd hS (lv_sub hl [2, 1, 0] rfl) h
def f_X10_allSeen_L8b (rc8 : Mm → Nat → Int32 → Int32 → Option (Int32 × Mm)) (μ : Mm) (a0 : Nat) (x1 : Int32) (x2 : Int32) : Option (Int32 × Mm) := if (μ.1 a0 30) ≤ x2 then (gd (ckz x1) (some (x1, μ))) else (if x1 = 0 then (gd (ckz x1) (some (x1, μ))) else (bR (μ.2 a0 31) (fun b5 => gd (ckb x2 (ln b5)) (bC (f_X10_restOf μ a0 (μ.1 b5 (x2).toNatClampNeg)) (fun r8 μ7 => bR (μ7.2 a0 32) (fun b10 => gd (ckb x2 (ln b10)) (if r8 = (μ7.1 b10 (x2).toNatClampNeg) then (f_X10_allSeen_j44 rc8 μ7 a0 x2 (1 : Int32)) else (f_X10_allSeen_j44 rc8 μ7 a0 x2 (0 : Int32)))))))))
set_option maxRecDepth 100000 in
theorem k_f_X10_allSeen_L8b {l : Launch} {D : va_G} {cA : Nat → ClassId} {z : Nat} {av : List Value} {p : Program} {e : Env} {s : State} {m : MethodId} {below : List Frame} {meth : Method} {c : Code} {r : Int32} {μ' : Mm} (X : Fx D cA RX10 wsX10_allSeen cX10_allSeen 3 (some .boolean) p s m av.toArray meth c) {rc8 : Mm → Nat → Int32 → Int32 → Option (Int32 × Mm)} (hrc8 : HL_X10_allSeen_8 l D cA z av r μ' p e s m below meth c rc8) {μ : Mm} {a0 : Nat} {x1 : Int32} {x2 : Int32} (hk_a0 : kd a0 = 10) {H : Heap} {locs : List Loc} {ls : Array Slot} (hd : Wd D cA z μ H) (hS : va_S (Az z) s.heap H locs) (hl : lv_has ls 3 [(0, .ref (z + a0)), (1, .int x1), (2, .int x2)]) (h : f_X10_allSeen_L8b rc8 μ a0 x1 x2 = some (r, μ')) : WG l D cA z wsX10_allSeen 5 117 av (some (.int r)) μ' p e s m below meth c H locs (F0 m 8 ls []) := by
  obtain ⟨hx, hb, hr, hlk, hml, hown, hts, hK⟩ := id X
  unfold f_X10_allSeen_L8b at h
  refine lv_iload_n hx hb dX10_allSeen_8 rfl (lv_at hl 2 rfl) ?_
  refine lv_aload_n hx hb dX10_allSeen_9 rfl (lv_at hl 0 rfl) ?_
  refine r_geti hx hb hts (fun w h => List.mem_cons_of_mem _ (List.mem_append_right _ (h))) hown hK hd hk_a0 rfl 30 fs_10_30 (hts (.fieldLink RX10 166 "LevelVotesModel" "seen" "I") (List.mem_of_getElem? (i := 1) rfl)) dX10_allSeen_10 ?_
  refine lv_icmp_ge (tgt := 51) hx hb dX10_allSeen_13 (by decide) (fun q1 => ?_) (fun q1 => ?_)
  · have h := if_y q1 h
    refine lv_iload_n hx hb dX10_allSeen_51 rfl (lv_at hl 1 rfl) ?_
    obtain ⟨g2, h⟩ := gd_e h
    obtain ⟨rfl, rfl⟩ := so_e h
    exact rt_z hx hb hr (ckz_nar g2) hlk hd hS dX10_allSeen_52
  · have h := if_n q1 h
    refine lv_iload_n hx hb dX10_allSeen_16 rfl (lv_at hl 1 rfl) ?_
    refine lv_if_eq (tgt := 51) hx hb dX10_allSeen_17 (by decide) (fun q3 => ?_) (fun q3 => ?_)
    · have h := if_y q3 h
      refine lv_iload_n hx hb dX10_allSeen_51 rfl (lv_at hl 1 rfl) ?_
      obtain ⟨g4, h⟩ := gd_e h
      obtain ⟨rfl, rfl⟩ := so_e h
      exact rt_z hx hb hr (ckz_nar g4) hlk hd hS dX10_allSeen_52
    · have h := if_n q3 h
      refine lv_aload_n hx hb dX10_allSeen_20 rfl (lv_at hl 0 rfl) ?_
      refine lv_aload_n hx hb dX10_allSeen_21 rfl (lv_at hl 0 rfl) ?_
      obtain ⟨b5, hb5, h⟩ := bR_e h
      refine r_getr hx hb hts (fun w h => List.mem_cons_of_mem _ (List.mem_append_right _ (h))) hown hK hd hk_a0 hb5 rfl fs_10_31 (hts (.fieldLink RX10 62 "LevelVotesModel" "seenFrom" "[I") (List.mem_of_getElem? (i := 2) rfl)) dX10_allSeen_22 (fun hq => ?_)
      have hk_b5 : kd b5 = 11 := hq
      refine lv_iload_n hx hb dX10_allSeen_25 rfl (lv_at hl 2 rfl) ?_
      obtain ⟨g6, h⟩ := gd_e h
      refine r_iald hx hb hK hd hk_b5 (ckb_in g6) dX10_allSeen_26 ?_
      obtain ⟨r8, μ7, hc9, h⟩ := bC_e h
      refine rc_Vi (rest := []) [.int (μ.1 b5 (x2).toNatClampNeg)] ⟨hx, hb, hml, hown, hts⟩ hK hd hS (c_X10_restOf hk_a0 hc9) (cwV 1 hts gX10_allSeen_X10_restOf rfl rfl rfl hv_X10_restOf ⟨Nat.le_of_ble_eq_true rfl, Nat.le_of_ble_eq_true rfl⟩) hk_a0 rfl rfl rfl rfl hl.1 rfl (Nat.le_of_ble_eq_true rfl) dX10_allSeen_27 ⟨Nat.zero_le _, Nat.zero_le _⟩ (fun H locs hd hS => ?_)
      refine lv_aload_n hx hb dX10_allSeen_30 rfl (lv_at hl 0 rfl) ?_
      obtain ⟨b10, hb10, h⟩ := bR_e h
      refine r_getr hx hb hts (fun w h => List.mem_cons_of_mem _ (List.mem_append_right _ (h))) hown hK hd hk_a0 hb10 rfl fs_10_32 (hts (.fieldLink RX10 65 "LevelVotesModel" "seenAt" "[I") (List.mem_of_getElem? (i := 3) rfl)) dX10_allSeen_31 (fun hq => ?_)
      have hk_b10 : kd b10 = 11 := hq
      refine lv_iload_n hx hb dX10_allSeen_34 rfl (lv_at hl 2 rfl) ?_
      obtain ⟨g11, h⟩ := gd_e h
      refine r_iald hx hb hK hd hk_b10 (ckb_in g11) dX10_allSeen_35 ?_
      refine lv_icmp_ne (tgt := 43) hx hb dX10_allSeen_36 (by decide) (fun q12 => ?_) (fun q12 => ?_)
      · have h := if_n q12 h
        refine lv_iconst (v := 0) hx hb dX10_allSeen_43 (by decide) ?_
        exact k_f_X10_allSeen_j44 X hrc8 hk_a0 hd hS (lv_sub hl [0, 2] rfl) h
      · have h := if_y q12 h
        refine lv_iconst (v := 1) hx hb dX10_allSeen_39 (by decide) ?_
        refine lv_goto (tgt := 44) hx hb dX10_allSeen_40 (by decide) ?_
        exact k_f_X10_allSeen_j44 X hrc8 hk_a0 hd hS (lv_sub hl [0, 2] rfl) h
def f_X10_allSeen_L8 : Nat → Mm → Nat → Int32 → Int32 → Option (Int32 × Mm)
  | 0 => fun _ _ _ _ => none
  | n + 1 => fun μ a0 x1 x2 => f_X10_allSeen_L8b (f_X10_allSeen_L8 n) μ a0 x1 x2
theorem k_f_X10_allSeen_L8 {l : Launch} {D : va_G} {cA : Nat → ClassId} {z : Nat} {av : List Value} {p : Program} {e : Env} {s : State} {m : MethodId} {below : List Frame} {meth : Method} {c : Code} {r : Int32} {μ' : Mm} (X : Fx D cA RX10 wsX10_allSeen cX10_allSeen 3 (some .boolean) p s m av.toArray meth c) (n : Nat) : HL_X10_allSeen_8 l D cA z av r μ' p e s m below meth c (f_X10_allSeen_L8 n) := by
  induction n with
  | zero => intro _ _ _ _ _ _ _ _ _ _ _ h; have h2 : (none : Option _) = some _ := h; cases h2
  | succ n ih => intro μ H locs ls a0 x1 x2 hk_a0 hd hS hl h; exact k_f_X10_allSeen_L8b X ih hk_a0 hd hS hl h
def f_X10_allSeen (μ : Mm) (a0 : Nat) : Option (Int32 × Mm) := bV (f_X10_findHeights μ a0) (fun μ1 => f_X10_allSeen_L8 FU μ1 a0 (1 : Int32) (0 : Int32))
set_option maxRecDepth 100000 in
theorem c_X10_allSeen {l : Launch} {D : va_G} {cA : Nat → ClassId} {z : Nat} {μ : Mm} {a0 : Nat} {r : Int32} {μ' : Mm} (hk_a0 : kd a0 = 10) (h : f_X10_allSeen μ a0 = some (r, μ')) : Ct l D cA z yX10_allSeen wsX10_allSeen 5 117 [.ref (z + a0)] μ (some (.int r)) μ' := by
  refine m_in (cc := cX10_allSeen) (maxL := 3) (ret := (some .boolean)) (own := RX10) (by decide) rfl rfl (Nat.le_of_ble_eq_true rfl) ?_
  intro p e s m below meth c ls X hd hS hl
  obtain ⟨hx, hb, hr, hlk, hml, hown, hts, hK⟩ := id X
  have hl : lv_has ls 3 [(0, .ref (z + a0))] := hl
  unfold f_X10_allSeen at h
  refine lv_aload_n hx hb dX10_allSeen_0 rfl (lv_at hl 0 rfl) ?_
  obtain ⟨μ1, hc3, h⟩ := bV_e h
  refine rc_Vv (rest := []) [] ⟨hx, hb, hml, hown, hts⟩ hK hd hS (c_X10_findHeights hk_a0 hc3) (cwV 0 hts gX10_allSeen_X10_findHeights rfl rfl rfl hv_X10_findHeights ⟨Nat.le_of_ble_eq_true rfl, Nat.le_of_ble_eq_true rfl⟩) hk_a0 rfl rfl rfl rfl hl.1 rfl (Nat.le_of_ble_eq_true rfl) dX10_allSeen_1 ⟨Nat.zero_le _, Nat.zero_le _⟩ (fun H locs hd hS => ?_)
  refine lv_iconst (v := 1) hx hb dX10_allSeen_4 (by decide) ?_
  refine lv_istore_n (lv' := [(1, .int (1 : Int32)), (0, .ref (z + a0))]) hx hb dX10_allSeen_5 rfl hl (by decide) rfl (fun ls hl => ?_)
  refine lv_iconst (v := 0) hx hb dX10_allSeen_6 (by decide) ?_
  refine lv_istore_n (lv' := [(2, .int (0 : Int32)), (1, .int (1 : Int32)), (0, .ref (z + a0))]) hx hb dX10_allSeen_7 rfl hl (by decide) rfl (fun ls hl => ?_)
  exact k_f_X10_allSeen_L8 X FU _ _ _ _ _ _ _ hk_a0 hd hS (lv_sub hl [2, 1, 0] rfl) h
theorem hv_X10_stood : yX10_stood.cls = RX10 ∧ yX10_stood.cls ≠ "java/lang/invoke/MethodHandle" ∧ yX10_stood.cls ≠ "java/lang/invoke/VarHandle" ∧ (parseMethodDescriptor yX10_stood.desc).map (fun d => d.parameters.length) = some 1 := by decide +kernel
abbrev HL_X10_stood_4 (l : Launch) (D : va_G) (cA : Nat → ClassId) (z : Nat) (av : List Value) (r : Int32) (μ' : Mm) (p : Program) (e : Env) (s : State) (m : MethodId) (below : List Frame) (meth : Method) (c : Code) (rc : Mm → Nat → Int32 → Int32 → Int32 → Option (Int32 × Mm)) : Prop := ∀ (μ : Mm) (H : Heap) (locs : List Loc) (ls : Array Slot) (a0 : Nat) (x1 : Int32) (x2 : Int32) (x3 : Int32), kd a0 = 10 → Wd D cA z μ H → va_S (Az z) s.heap H locs → lv_has ls 5 [(0, .ref (z + a0)), (1, .int x1), (2, .int x2), (3, .int x3)] → rc μ a0 x1 x2 x3 = some (r, μ') → WG l D cA z wsX10_stood 6 139 av (some (.int r)) μ' p e s m below meth c H locs (F0 m 4 ls [])
def f_X10_stood_j37 (rc4 : Mm → Nat → Int32 → Int32 → Int32 → Option (Int32 × Mm)) (μ : Mm) (a0 : Nat) (x1 : Int32) (x2 : Int32) (x3 : Int32) : Option (Int32 × Mm) := rc4 μ a0 x1 x2 (x3 + (1 : Int32))
set_option maxRecDepth 100000 in
theorem k_f_X10_stood_j37 {l : Launch} {D : va_G} {cA : Nat → ClassId} {z : Nat} {av : List Value} {p : Program} {e : Env} {s : State} {m : MethodId} {below : List Frame} {meth : Method} {c : Code} {r : Int32} {μ' : Mm} (X : Fx D cA RX10 wsX10_stood cX10_stood 5 (some .int) p s m av.toArray meth c) {rc4 : Mm → Nat → Int32 → Int32 → Int32 → Option (Int32 × Mm)} (hrc4 : HL_X10_stood_4 l D cA z av r μ' p e s m below meth c rc4) {μ : Mm} {a0 : Nat} {x1 : Int32} {x2 : Int32} {x3 : Int32} (hk_a0 : kd a0 = 10) {H : Heap} {locs : List Loc} {ls : Array Slot} (hd : Wd D cA z μ H) (hS : va_S (Az z) s.heap H locs) (hl : lv_has ls 5 [(0, .ref (z + a0)), (1, .int x1), (2, .int x2), (3, .int x3)]) (h : f_X10_stood_j37 rc4 μ a0 x1 x2 x3 = some (r, μ')) : WG l D cA z wsX10_stood 6 139 av (some (.int r)) μ' p e s m below meth c H locs (F0 m 37 ls []) := by
  obtain ⟨hx, hb, hr, hlk, hml, hown, hts, hK⟩ := id X
  unfold f_X10_stood_j37 at h
  refine lv_iinc (v := x3 + (1 : Int32)) (lv' := [(3, .int (x3 + (1 : Int32))), (0, .ref (z + a0)), (1, .int x1), (2, .int x2)]) hx hb dX10_stood_37 hl (k := 3) rfl rfl (by decide) rfl (fun ls hl => ?_)
  refine lv_goto (tgt := 4) hx hb dX10_stood_40 (by decide) ?_
  exact hrc4 _ _ _ _ _ _ _ _ hk_a0 hd hS (lv_sub hl [1, 2, 3, 0] rfl) h
def f_X10_stood_L4b (rc4 : Mm → Nat → Int32 → Int32 → Int32 → Option (Int32 × Mm)) (μ : Mm) (a0 : Nat) (x1 : Int32) (x2 : Int32) (x3 : Int32) : Option (Int32 × Mm) := bC (f_X10_waysToStand μ a0) (fun r2 μ1 => if r2 ≤ x3 then (if x1 = (-1 : Int32) then (some (x2, μ1)) else (some ((-1 : Int32), μ1))) else (bC (f_X10_standBy μ1 a0 x3) (fun r7 μ6 => bC (f_X10_allSeen μ6 a0) (fun r10 μ9 => if r10 = 0 then (f_X10_stood_j37 rc4 μ9 a0 x1 x2 x3) else (if x2 = x1 then (some (r7, μ9)) else (f_X10_stood_j37 rc4 μ9 a0 x1 (x2 + (1 : Int32)) x3))))))
set_option maxRecDepth 100000 in
theorem k_f_X10_stood_L4b {l : Launch} {D : va_G} {cA : Nat → ClassId} {z : Nat} {av : List Value} {p : Program} {e : Env} {s : State} {m : MethodId} {below : List Frame} {meth : Method} {c : Code} {r : Int32} {μ' : Mm} (X : Fx D cA RX10 wsX10_stood cX10_stood 5 (some .int) p s m av.toArray meth c) {rc4 : Mm → Nat → Int32 → Int32 → Int32 → Option (Int32 × Mm)} (hrc4 : HL_X10_stood_4 l D cA z av r μ' p e s m below meth c rc4) {μ : Mm} {a0 : Nat} {x1 : Int32} {x2 : Int32} {x3 : Int32} (hk_a0 : kd a0 = 10) {H : Heap} {locs : List Loc} {ls : Array Slot} (hd : Wd D cA z μ H) (hS : va_S (Az z) s.heap H locs) (hl : lv_has ls 5 [(0, .ref (z + a0)), (1, .int x1), (2, .int x2), (3, .int x3)]) (h : f_X10_stood_L4b rc4 μ a0 x1 x2 x3 = some (r, μ')) : WG l D cA z wsX10_stood 6 139 av (some (.int r)) μ' p e s m below meth c H locs (F0 m 4 ls []) := by
  obtain ⟨hx, hb, hr, hlk, hml, hown, hts, hK⟩ := id X
  unfold f_X10_stood_L4b at h
  refine lv_iload_n hx hb dX10_stood_4 rfl (lv_at hl 3 rfl) ?_
  refine lv_aload_n hx hb dX10_stood_5 rfl (lv_at hl 0 rfl) ?_
  obtain ⟨r2, μ1, hc3, h⟩ := bC_e h
  refine rc_Vi (rest := [.int x3]) [] ⟨hx, hb, hml, hown, hts⟩ hK hd hS (c_X10_waysToStand hk_a0 hc3) (cwV 0 hts gX10_stood_X10_waysToStand rfl rfl rfl hv_X10_waysToStand ⟨Nat.le_of_ble_eq_true rfl, Nat.le_of_ble_eq_true rfl⟩) hk_a0 rfl rfl rfl rfl hl.1 rfl (Nat.le_of_ble_eq_true rfl) dX10_stood_6 ⟨Nat.zero_le _, Nat.zero_le _⟩ (fun H locs hd hS => ?_)
  refine lv_icmp_ge (tgt := 43) hx hb dX10_stood_9 (by decide) (fun q4 => ?_) (fun q4 => ?_)
  · have h := if_y q4 h
    refine lv_iload_n hx hb dX10_stood_43 rfl (lv_at hl 1 rfl) ?_
    refine lv_iconst (v := -1) hx hb dX10_stood_44 (by decide) ?_
    refine lv_icmp_ne (tgt := 52) hx hb dX10_stood_45 (by decide) (fun q5 => ?_) (fun q5 => ?_)
    · have h := if_n q5 h
      refine lv_iconst (v := -1) hx hb dX10_stood_52 (by decide) ?_
      obtain ⟨rfl, rfl⟩ := so_e h
      exact rt_i hx hb hr hlk hd hS dX10_stood_53
    · have h := if_y q5 h
      refine lv_iload_n hx hb dX10_stood_48 rfl (lv_at hl 2 rfl) ?_
      refine lv_goto (tgt := 53) hx hb dX10_stood_49 (by decide) ?_
      obtain ⟨rfl, rfl⟩ := so_e h
      exact rt_i hx hb hr hlk hd hS dX10_stood_53
  · have h := if_n q4 h
    refine lv_aload_n hx hb dX10_stood_12 rfl (lv_at hl 0 rfl) ?_
    refine lv_iload_n hx hb dX10_stood_13 rfl (lv_at hl 3 rfl) ?_
    obtain ⟨r7, μ6, hc8, h⟩ := bC_e h
    refine rc_Vi (rest := []) [.int x3] ⟨hx, hb, hml, hown, hts⟩ hK hd hS (c_X10_standBy hk_a0 hc8) (cwV 1 hts gX10_stood_X10_standBy rfl rfl rfl hv_X10_standBy ⟨Nat.le_of_ble_eq_true rfl, Nat.le_of_ble_eq_true rfl⟩) hk_a0 rfl rfl rfl rfl hl.1 rfl (Nat.le_of_ble_eq_true rfl) dX10_stood_14 ⟨Nat.zero_le _, Nat.zero_le _⟩ (fun H locs hd hS => ?_)
    refine lv_istore (lv' := [(4, .int r7), (0, .ref (z + a0)), (1, .int x1), (2, .int x2), (3, .int x3)]) hx hb dX10_stood_17 hl (by decide) rfl (fun ls hl => ?_)
    refine lv_aload_n hx hb dX10_stood_19 rfl (lv_at hl 1 rfl) ?_
    obtain ⟨r10, μ9, hc11, h⟩ := bC_e h
    refine rc_Vi (rest := []) [] ⟨hx, hb, hml, hown, hts⟩ hK hd hS (c_X10_allSeen hk_a0 hc11) (cwV 0 hts gX10_stood_X10_allSeen rfl rfl rfl hv_X10_allSeen ⟨Nat.le_of_ble_eq_true rfl, Nat.le_of_ble_eq_true rfl⟩) hk_a0 rfl rfl rfl rfl hl.1 rfl (Nat.le_of_ble_eq_true rfl) dX10_stood_20 ⟨Nat.zero_le _, Nat.zero_le _⟩ (fun H locs hd hS => ?_)
    refine lv_if_eq (tgt := 37) hx hb dX10_stood_23 (by decide) (fun q12 => ?_) (fun q12 => ?_)
    · have h := if_y q12 h
      exact k_f_X10_stood_j37 X hrc4 hk_a0 hd hS (lv_sub hl [1, 2, 3, 4] rfl) h
    · have h := if_n q12 h
      refine lv_iload_n hx hb dX10_stood_26 rfl (lv_at hl 3 rfl) ?_
      refine lv_iload_n hx hb dX10_stood_27 rfl (lv_at hl 2 rfl) ?_
      refine lv_icmp_ne (tgt := 34) hx hb dX10_stood_28 (by decide) (fun q13 => ?_) (fun q13 => ?_)
      · have h := if_n q13 h
        refine lv_iinc (v := x2 + (1 : Int32)) (lv' := [(2, .int (x2 + (1 : Int32))), (4, .int r7), (0, .ref (z + a0)), (1, .int x1), (3, .int x3)]) hx hb dX10_stood_34 hl (k := 3) rfl rfl (by decide) rfl (fun ls hl => ?_)
        exact k_f_X10_stood_j37 X hrc4 hk_a0 hd hS (lv_sub hl [2, 3, 0, 4] rfl) h
      · have h := if_y q13 h
        refine lv_iload hx hb dX10_stood_31 (lv_at hl 0 rfl) ?_
        obtain ⟨rfl, rfl⟩ := so_e h
        exact rt_i hx hb hr hlk hd hS dX10_stood_33
def f_X10_stood_L4 : Nat → Mm → Nat → Int32 → Int32 → Int32 → Option (Int32 × Mm)
  | 0 => fun _ _ _ _ _ => none
  | n + 1 => fun μ a0 x1 x2 x3 => f_X10_stood_L4b (f_X10_stood_L4 n) μ a0 x1 x2 x3
theorem k_f_X10_stood_L4 {l : Launch} {D : va_G} {cA : Nat → ClassId} {z : Nat} {av : List Value} {p : Program} {e : Env} {s : State} {m : MethodId} {below : List Frame} {meth : Method} {c : Code} {r : Int32} {μ' : Mm} (X : Fx D cA RX10 wsX10_stood cX10_stood 5 (some .int) p s m av.toArray meth c) (n : Nat) : HL_X10_stood_4 l D cA z av r μ' p e s m below meth c (f_X10_stood_L4 n) := by
  induction n with
  | zero => intro _ _ _ _ _ _ _ _ _ _ _ _ h; have h2 : (none : Option _) = some _ := h; cases h2
  | succ n ih => intro μ H locs ls a0 x1 x2 x3 hk_a0 hd hS hl h; exact k_f_X10_stood_L4b X ih hk_a0 hd hS hl h
def f_X10_stood (μ : Mm) (a0 : Nat) (x1 : Int32) : Option (Int32 × Mm) := f_X10_stood_L4 FU μ a0 x1 (0 : Int32) (0 : Int32)
set_option maxRecDepth 100000 in
theorem c_X10_stood {l : Launch} {D : va_G} {cA : Nat → ClassId} {z : Nat} {μ : Mm} {a0 : Nat} {x1 : Int32} {r : Int32} {μ' : Mm} (hk_a0 : kd a0 = 10) (h : f_X10_stood μ a0 x1 = some (r, μ')) : Ct l D cA z yX10_stood wsX10_stood 6 139 [.ref (z + a0), .int x1] μ (some (.int r)) μ' := by
  refine m_in (cc := cX10_stood) (maxL := 5) (ret := (some .int)) (own := RX10) (by decide) rfl rfl (Nat.le_of_ble_eq_true rfl) ?_
  intro p e s m below meth c ls X hd hS hl
  obtain ⟨hx, hb, hr, hlk, hml, hown, hts, hK⟩ := id X
  have hl : lv_has ls 5 [(0, .ref (z + a0)), (1, .int x1)] := hl
  unfold f_X10_stood at h
  refine lv_iconst (v := 0) hx hb dX10_stood_0 (by decide) ?_
  refine lv_istore_n (lv' := [(2, .int (0 : Int32)), (0, .ref (z + a0)), (1, .int x1)]) hx hb dX10_stood_1 rfl hl (by decide) rfl (fun ls hl => ?_)
  refine lv_iconst (v := 0) hx hb dX10_stood_2 (by decide) ?_
  refine lv_istore_n (lv' := [(3, .int (0 : Int32)), (2, .int (0 : Int32)), (0, .ref (z + a0)), (1, .int x1)]) hx hb dX10_stood_3 rfl hl (by decide) rfl (fun ls hl => ?_)
  exact k_f_X10_stood_L4 X FU _ _ _ _ _ _ _ _ hk_a0 hd hS (lv_sub hl [2, 3, 1, 0] rfl) h
theorem hv_X10_look : yX10_look.cls = RX10 ∧ yX10_look.cls ≠ "java/lang/invoke/MethodHandle" ∧ yX10_look.cls ≠ "java/lang/invoke/VarHandle" ∧ (parseMethodDescriptor yX10_look.desc).map (fun d => d.parameters.length) = some 0 := by decide +kernel
abbrev HL_X10_look_2 (l : Launch) (D : va_G) (cA : Nat → ClassId) (z : Nat) (av : List Value) (r : Int32) (μ' : Mm) (p : Program) (e : Env) (s : State) (m : MethodId) (below : List Frame) (meth : Method) (c : Code) (rc : Mm → Nat → Int32 → Option (Int32 × Mm)) : Prop := ∀ (μ : Mm) (H : Heap) (locs : List Loc) (ls : Array Slot) (a0 : Nat) (x1 : Int32), kd a0 = 10 → Wd D cA z μ H → va_S (Az z) s.heap H locs → lv_has ls 7 [(0, .ref (z + a0)), (1, .int x1)] → rc μ a0 x1 = some (r, μ') → WG l D cA z wsX10_look 6 139 av (some (.int r)) μ' p e s m below meth c H locs (F0 m 2 ls [])
abbrev HL_X10_look_26 (l : Launch) (D : va_G) (cA : Nat → ClassId) (z : Nat) (av : List Value) (r : Int32) (μ' : Mm) (p : Program) (e : Env) (s : State) (m : MethodId) (below : List Frame) (meth : Method) (c : Code) (rc : Mm → Nat → Int32 → Int32 → Option (Int32 × Mm)) : Prop := ∀ (μ : Mm) (H : Heap) (locs : List Loc) (ls : Array Slot) (a0 : Nat) (x1 : Int32) (x2 : Int32), kd a0 = 10 → Wd D cA z μ H → va_S (Az z) s.heap H locs → lv_has ls 7 [(0, .ref (z + a0)), (1, .int x1), (2, .int x2)] → rc μ a0 x1 x2 = some (r, μ') → WG l D cA z wsX10_look 6 139 av (some (.int r)) μ' p e s m below meth c H locs (F0 m 26 ls [])
abbrev HL_X10_look_53 (l : Launch) (D : va_G) (cA : Nat → ClassId) (z : Nat) (av : List Value) (r : Int32) (μ' : Mm) (p : Program) (e : Env) (s : State) (m : MethodId) (below : List Frame) (meth : Method) (c : Code) (rc : Mm → Nat → Int32 → Int32 → Int32 → Option (Int32 × Mm)) : Prop := ∀ (μ : Mm) (H : Heap) (locs : List Loc) (ls : Array Slot) (a0 : Nat) (x1 : Int32) (x2 : Int32) (x4 : Int32), kd a0 = 10 → Wd D cA z μ H → va_S (Az z) s.heap H locs → lv_has ls 7 [(0, .ref (z + a0)), (1, .int x1), (2, .int x2), (4, .int x4)] → rc μ a0 x1 x2 x4 = some (r, μ') → WG l D cA z wsX10_look 6 139 av (some (.int r)) μ' p e s m below meth c H locs (F0 m 53 ls [])
abbrev HL_X10_look_102 (l : Launch) (D : va_G) (cA : Nat → ClassId) (z : Nat) (av : List Value) (r : Int32) (μ' : Mm) (p : Program) (e : Env) (s : State) (m : MethodId) (below : List Frame) (meth : Method) (c : Code) (rc : Mm → Nat → Int32 → Int32 → Int32 → Option (Int32 × Mm)) : Prop := ∀ (μ : Mm) (H : Heap) (locs : List Loc) (ls : Array Slot) (a0 : Nat) (x2 : Int32) (x3 : Int32) (x4 : Int32), kd a0 = 10 → Wd D cA z μ H → va_S (Az z) s.heap H locs → lv_has ls 7 [(0, .ref (z + a0)), (2, .int x2), (3, .int x3), (4, .int x4)] → rc μ a0 x2 x3 x4 = some (r, μ') → WG l D cA z wsX10_look 6 139 av (some (.int r)) μ' p e s m below meth c H locs (F0 m 102 ls [])
abbrev HL_X10_look_117 (l : Launch) (D : va_G) (cA : Nat → ClassId) (z : Nat) (av : List Value) (r : Int32) (μ' : Mm) (p : Program) (e : Env) (s : State) (m : MethodId) (below : List Frame) (meth : Method) (c : Code) (rc : Mm → Nat → Int32 → Int32 → Int32 → Int32 → Int32 → Option (Int32 × Mm)) : Prop := ∀ (μ : Mm) (H : Heap) (locs : List Loc) (ls : Array Slot) (a0 : Nat) (x2 : Int32) (x3 : Int32) (x4 : Int32) (x5 : Int32) (x6 : Int32), kd a0 = 10 → Wd D cA z μ H → va_S (Az z) s.heap H locs → lv_has ls 7 [(0, .ref (z + a0)), (2, .int x2), (3, .int x3), (4, .int x4), (5, .int x5), (6, .int x6)] → rc μ a0 x2 x3 x4 x5 x6 = some (r, μ') → WG l D cA z wsX10_look 6 139 av (some (.int r)) μ' p e s m below meth c H locs (F0 m 117 ls [])
def f_X10_look_j195 (rc102 : Mm → Nat → Int32 → Int32 → Int32 → Option (Int32 × Mm)) (μ : Mm) (a0 : Nat) (x2 : Int32) (x4 : Int32) (ys0 : Int32) : Option (Int32 × Mm) := rc102 μ a0 x2 ys0 (x4 + (1 : Int32))
set_option maxRecDepth 100000 in
theorem k_f_X10_look_j195 {l : Launch} {D : va_G} {cA : Nat → ClassId} {z : Nat} {av : List Value} {p : Program} {e : Env} {s : State} {m : MethodId} {below : List Frame} {meth : Method} {c : Code} {r : Int32} {μ' : Mm} (X : Fx D cA RX10 wsX10_look cX10_look 7 (some .int) p s m av.toArray meth c) {rc102 : Mm → Nat → Int32 → Int32 → Int32 → Option (Int32 × Mm)} (hrc102 : HL_X10_look_102 l D cA z av r μ' p e s m below meth c rc102) {μ : Mm} {a0 : Nat} {x2 : Int32} {x4 : Int32} {ys0 : Int32} (hk_a0 : kd a0 = 10) {H : Heap} {locs : List Loc} {ls : Array Slot} (hd : Wd D cA z μ H) (hS : va_S (Az z) s.heap H locs) (hl : lv_has ls 7 [(0, .ref (z + a0)), (2, .int x2), (4, .int x4)]) (h : f_X10_look_j195 rc102 μ a0 x2 x4 ys0 = some (r, μ')) : WG l D cA z wsX10_look 6 139 av (some (.int r)) μ' p e s m below meth c H locs (F0 m 195 ls [.int ys0]) := by
  obtain ⟨hx, hb, hr, hlk, hml, hown, hts, hK⟩ := id X
  unfold f_X10_look_j195 at h
  refine lv_istore_n (lv' := [(3, .int ys0), (0, .ref (z + a0)), (2, .int x2), (4, .int x4)]) hx hb dX10_look_195 rfl hl (by decide) rfl (fun ls hl => ?_)
  refine lv_iinc (v := x4 + (1 : Int32)) (lv' := [(4, .int (x4 + (1 : Int32))), (3, .int ys0), (0, .ref (z + a0)), (2, .int x2)]) hx hb dX10_look_196 hl (k := 3) rfl rfl (by decide) rfl (fun ls hl => ?_)
  refine lv_goto (tgt := 102) hx hb dX10_look_199 (by decide) ?_
  exact hrc102 _ _ _ _ _ _ _ _ hk_a0 hd hS (lv_sub hl [2, 3, 1, 0] rfl) h
def f_X10_look_j182 (rc102 : Mm → Nat → Int32 → Int32 → Int32 → Option (Int32 × Mm)) (μ : Mm) (a0 : Nat) (x3 : Int32) (x4 : Int32) (x5 : Int32) (ys0 : Int32) : Option (Int32 × Mm) := if x3 ≤ x5 then (f_X10_look_j195 rc102 μ a0 ys0 x4 x3) else (f_X10_look_j195 rc102 μ a0 ys0 x4 x5)
set_option maxRecDepth 100000 in
theorem k_f_X10_look_j182 {l : Launch} {D : va_G} {cA : Nat → ClassId} {z : Nat} {av : List Value} {p : Program} {e : Env} {s : State} {m : MethodId} {below : List Frame} {meth : Method} {c : Code} {r : Int32} {μ' : Mm} (X : Fx D cA RX10 wsX10_look cX10_look 7 (some .int) p s m av.toArray meth c) {rc102 : Mm → Nat → Int32 → Int32 → Int32 → Option (Int32 × Mm)} (hrc102 : HL_X10_look_102 l D cA z av r μ' p e s m below meth c rc102) {μ : Mm} {a0 : Nat} {x3 : Int32} {x4 : Int32} {x5 : Int32} {ys0 : Int32} (hk_a0 : kd a0 = 10) {H : Heap} {locs : List Loc} {ls : Array Slot} (hd : Wd D cA z μ H) (hS : va_S (Az z) s.heap H locs) (hl : lv_has ls 7 [(0, .ref (z + a0)), (3, .int x3), (4, .int x4), (5, .int x5)]) (h : f_X10_look_j182 rc102 μ a0 x3 x4 x5 ys0 = some (r, μ')) : WG l D cA z wsX10_look 6 139 av (some (.int r)) μ' p e s m below meth c H locs (F0 m 182 ls [.int ys0]) := by
  obtain ⟨hx, hb, hr, hlk, hml, hown, hts, hK⟩ := id X
  unfold f_X10_look_j182 at h
  refine lv_istore_n (lv' := [(2, .int ys0), (0, .ref (z + a0)), (3, .int x3), (4, .int x4), (5, .int x5)]) hx hb dX10_look_182 rfl hl (by decide) rfl (fun ls hl => ?_)
  refine lv_iload hx hb dX10_look_183 (lv_at hl 4 rfl) ?_
  refine lv_iload_n hx hb dX10_look_185 rfl (lv_at hl 2 rfl) ?_
  refine lv_icmp_ge (tgt := 194) hx hb dX10_look_186 (by decide) (fun q1 => ?_) (fun q1 => ?_)
  · have h := if_y q1 h
    refine lv_iload_n hx hb dX10_look_194 rfl (lv_at hl 2 rfl) ?_
    exact k_f_X10_look_j195 X hrc102 hk_a0 hd hS (lv_sub hl [1, 0, 3] rfl) h
  · have h := if_n q1 h
    refine lv_iload hx hb dX10_look_189 (lv_at hl 4 rfl) ?_
    refine lv_goto (tgt := 195) hx hb dX10_look_191 (by decide) ?_
    exact k_f_X10_look_j195 X hrc102 hk_a0 hd hS (lv_sub hl [1, 0, 3] rfl) h
def f_X10_look_j162 (rc102 : Mm → Nat → Int32 → Int32 → Int32 → Option (Int32 × Mm)) (rc117 : Mm → Nat → Int32 → Int32 → Int32 → Int32 → Int32 → Option (Int32 × Mm)) (μ : Mm) (a0 : Nat) (x2 : Int32) (x3 : Int32) (x4 : Int32) (x6 : Int32) (ys0 : Int32) : Option (Int32 × Mm) := rc117 μ a0 x2 x3 x4 ys0 (x6 + (1 : Int32))
set_option maxRecDepth 100000 in
theorem k_f_X10_look_j162 {l : Launch} {D : va_G} {cA : Nat → ClassId} {z : Nat} {av : List Value} {p : Program} {e : Env} {s : State} {m : MethodId} {below : List Frame} {meth : Method} {c : Code} {r : Int32} {μ' : Mm} (X : Fx D cA RX10 wsX10_look cX10_look 7 (some .int) p s m av.toArray meth c) {rc102 : Mm → Nat → Int32 → Int32 → Int32 → Option (Int32 × Mm)} {rc117 : Mm → Nat → Int32 → Int32 → Int32 → Int32 → Int32 → Option (Int32 × Mm)} (hrc102 : HL_X10_look_102 l D cA z av r μ' p e s m below meth c rc102) (hrc117 : HL_X10_look_117 l D cA z av r μ' p e s m below meth c rc117) {μ : Mm} {a0 : Nat} {x2 : Int32} {x3 : Int32} {x4 : Int32} {x6 : Int32} {ys0 : Int32} (hk_a0 : kd a0 = 10) {H : Heap} {locs : List Loc} {ls : Array Slot} (hd : Wd D cA z μ H) (hS : va_S (Az z) s.heap H locs) (hl : lv_has ls 7 [(0, .ref (z + a0)), (2, .int x2), (3, .int x3), (4, .int x4), (6, .int x6)]) (h : f_X10_look_j162 rc102 rc117 μ a0 x2 x3 x4 x6 ys0 = some (r, μ')) : WG l D cA z wsX10_look 6 139 av (some (.int r)) μ' p e s m below meth c H locs (F0 m 162 ls [.int ys0]) := by
  obtain ⟨hx, hb, hr, hlk, hml, hown, hts, hK⟩ := id X
  unfold f_X10_look_j162 at h
  refine lv_istore (lv' := [(5, .int ys0), (0, .ref (z + a0)), (2, .int x2), (3, .int x3), (4, .int x4), (6, .int x6)]) hx hb dX10_look_162 hl (by decide) rfl (fun ls hl => ?_)
  refine lv_iinc (v := x6 + (1 : Int32)) (lv' := [(6, .int (x6 + (1 : Int32))), (5, .int ys0), (0, .ref (z + a0)), (2, .int x2), (3, .int x3), (4, .int x4)]) hx hb dX10_look_164 hl (k := 5) rfl rfl (by decide) rfl (fun ls hl => ?_)
  refine lv_goto (tgt := 117) hx hb dX10_look_167 (by decide) ?_
  exact hrc117 _ _ _ _ _ _ _ _ _ _ hk_a0 hd hS (lv_sub hl [2, 3, 4, 5, 1, 0] rfl) h
def f_X10_look_L117b (rc102 : Mm → Nat → Int32 → Int32 → Int32 → Option (Int32 × Mm)) (rc117 : Mm → Nat → Int32 → Int32 → Int32 → Int32 → Int32 → Option (Int32 × Mm)) (μ : Mm) (a0 : Nat) (x2 : Int32) (x3 : Int32) (x4 : Int32) (x5 : Int32) (x6 : Int32) : Option (Int32 × Mm) := bC (f_X10_cells μ a0) (fun r2 μ1 => if r2 ≤ x6 then (if x3 ≤ x5 then (f_X10_look_j182 rc102 μ1 a0 x3 x4 x5 x2) else (f_X10_look_j182 rc102 μ1 a0 x3 x4 x5 x4)) else (bR (μ1.2 a0 33) (fun b6 => gd (ckb (((20 : Int32) * x4) + x6) (ln b6)) (if (μ1.1 b6 (((20 : Int32) * x4) + x6).toNatClampNeg) ≤ x5 then (f_X10_look_j162 rc102 rc117 μ1 a0 x2 x3 x4 x6 x5) else (bR (μ1.2 a0 33) (fun b9 => gd (ckb (((20 : Int32) * x4) + x6) (ln b9)) (f_X10_look_j162 rc102 rc117 μ1 a0 x2 x3 x4 x6 (μ1.1 b9 (((20 : Int32) * x4) + x6).toNatClampNeg))))))))
set_option maxRecDepth 100000 in
theorem k_f_X10_look_L117b {l : Launch} {D : va_G} {cA : Nat → ClassId} {z : Nat} {av : List Value} {p : Program} {e : Env} {s : State} {m : MethodId} {below : List Frame} {meth : Method} {c : Code} {r : Int32} {μ' : Mm} (X : Fx D cA RX10 wsX10_look cX10_look 7 (some .int) p s m av.toArray meth c) {rc102 : Mm → Nat → Int32 → Int32 → Int32 → Option (Int32 × Mm)} {rc117 : Mm → Nat → Int32 → Int32 → Int32 → Int32 → Int32 → Option (Int32 × Mm)} (hrc102 : HL_X10_look_102 l D cA z av r μ' p e s m below meth c rc102) (hrc117 : HL_X10_look_117 l D cA z av r μ' p e s m below meth c rc117) {μ : Mm} {a0 : Nat} {x2 : Int32} {x3 : Int32} {x4 : Int32} {x5 : Int32} {x6 : Int32} (hk_a0 : kd a0 = 10) {H : Heap} {locs : List Loc} {ls : Array Slot} (hd : Wd D cA z μ H) (hS : va_S (Az z) s.heap H locs) (hl : lv_has ls 7 [(0, .ref (z + a0)), (2, .int x2), (3, .int x3), (4, .int x4), (5, .int x5), (6, .int x6)]) (h : f_X10_look_L117b rc102 rc117 μ a0 x2 x3 x4 x5 x6 = some (r, μ')) : WG l D cA z wsX10_look 6 139 av (some (.int r)) μ' p e s m below meth c H locs (F0 m 117 ls []) := by
  obtain ⟨hx, hb, hr, hlk, hml, hown, hts, hK⟩ := id X
  unfold f_X10_look_L117b at h
  refine lv_iload hx hb dX10_look_117 (lv_at hl 5 rfl) ?_
  refine lv_aload_n hx hb dX10_look_119 rfl (lv_at hl 0 rfl) ?_
  obtain ⟨r2, μ1, hc3, h⟩ := bC_e h
  refine rc_Vi (rest := [.int x6]) [] ⟨hx, hb, hml, hown, hts⟩ hK hd hS (c_X10_cells hk_a0 hc3) (cwV 0 hts gX10_look_X10_cells rfl rfl rfl hv_X10_cells ⟨Nat.le_of_ble_eq_true rfl, Nat.le_of_ble_eq_true rfl⟩) hk_a0 rfl rfl rfl rfl hl.1 rfl (Nat.le_of_ble_eq_true rfl) dX10_look_120 ⟨Nat.zero_le _, Nat.zero_le _⟩ (fun H locs hd hS => ?_)
  refine lv_icmp_ge (tgt := 170) hx hb dX10_look_123 (by decide) (fun q4 => ?_) (fun q4 => ?_)
  · have h := if_y q4 h
    refine lv_iload hx hb dX10_look_170 (lv_at hl 4 rfl) ?_
    refine lv_iload_n hx hb dX10_look_172 rfl (lv_at hl 2 rfl) ?_
    refine lv_icmp_ge (tgt := 181) hx hb dX10_look_173 (by decide) (fun q5 => ?_) (fun q5 => ?_)
    · have h := if_y q5 h
      refine lv_iload_n hx hb dX10_look_181 rfl (lv_at hl 1 rfl) ?_
      exact k_f_X10_look_j182 X hrc102 hk_a0 hd hS (lv_sub hl [0, 2, 3, 4] rfl) h
    · have h := if_n q5 h
      refine lv_iload hx hb dX10_look_176 (lv_at hl 3 rfl) ?_
      refine lv_goto (tgt := 182) hx hb dX10_look_178 (by decide) ?_
      exact k_f_X10_look_j182 X hrc102 hk_a0 hd hS (lv_sub hl [0, 2, 3, 4] rfl) h
  · have h := if_n q4 h
    refine lv_aload_n hx hb dX10_look_126 rfl (lv_at hl 0 rfl) ?_
    obtain ⟨b6, hb6, h⟩ := bR_e h
    refine r_getr hx hb hts (fun w h => List.mem_cons_of_mem _ (List.mem_append_right _ (h))) hown hK hd hk_a0 hb6 rfl fs_10_33 (hts (.fieldLink RX10 68 "LevelVotesModel" "brings" "[I") (List.mem_of_getElem? (i := 1) rfl)) dX10_look_127 (fun hq => ?_)
    have hk_b6 : kd b6 = 11 := hq
    refine lv_bipush (v := 20) hx hb dX10_look_130 (by decide) ?_
    refine lv_iload hx hb dX10_look_132 (lv_at hl 3 rfl) ?_
    refine lv_imul hx hb dX10_look_134 ?_
    refine lv_iload hx hb dX10_look_135 (lv_at hl 5 rfl) ?_
    refine lv_iadd hx hb dX10_look_137 ?_
    obtain ⟨g7, h⟩ := gd_e h
    refine r_iald hx hb hK hd hk_b6 (ckb_in g7) dX10_look_138 ?_
    refine lv_iload hx hb dX10_look_139 (lv_at hl 4 rfl) ?_
    refine lv_icmp_le (tgt := 160) hx hb dX10_look_141 (by decide) (fun q8 => ?_) (fun q8 => ?_)
    · have h := if_y q8 h
      refine lv_iload hx hb dX10_look_160 (lv_at hl 4 rfl) ?_
      exact k_f_X10_look_j162 X hrc102 hrc117 hk_a0 hd hS (lv_sub hl [0, 1, 2, 3, 5] rfl) h
    · have h := if_n q8 h
      refine lv_aload_n hx hb dX10_look_144 rfl (lv_at hl 0 rfl) ?_
      obtain ⟨b9, hb9, h⟩ := bR_e h
      refine r_getr hx hb hts (fun w h => List.mem_cons_of_mem _ (List.mem_append_right _ (h))) hown hK hd hk_a0 hb9 rfl fs_10_33 (hts (.fieldLink RX10 68 "LevelVotesModel" "brings" "[I") (List.mem_of_getElem? (i := 1) rfl)) dX10_look_145 (fun hq => ?_)
      have hk_b9 : kd b9 = 11 := hq
      refine lv_bipush (v := 20) hx hb dX10_look_148 (by decide) ?_
      refine lv_iload hx hb dX10_look_150 (lv_at hl 3 rfl) ?_
      refine lv_imul hx hb dX10_look_152 ?_
      refine lv_iload hx hb dX10_look_153 (lv_at hl 5 rfl) ?_
      refine lv_iadd hx hb dX10_look_155 ?_
      obtain ⟨g10, h⟩ := gd_e h
      refine r_iald hx hb hK hd hk_b9 (ckb_in g10) dX10_look_156 ?_
      refine lv_goto (tgt := 162) hx hb dX10_look_157 (by decide) ?_
      exact k_f_X10_look_j162 X hrc102 hrc117 hk_a0 hd hS (lv_sub hl [0, 1, 2, 3, 5] rfl) h
def f_X10_look_L117 (rc102 : Mm → Nat → Int32 → Int32 → Int32 → Option (Int32 × Mm)) : Nat → Mm → Nat → Int32 → Int32 → Int32 → Int32 → Int32 → Option (Int32 × Mm)
  | 0 => fun _ _ _ _ _ _ _ => none
  | n + 1 => fun μ a0 x2 x3 x4 x5 x6 => f_X10_look_L117b rc102 (f_X10_look_L117 rc102 n) μ a0 x2 x3 x4 x5 x6
theorem k_f_X10_look_L117 {l : Launch} {D : va_G} {cA : Nat → ClassId} {z : Nat} {av : List Value} {p : Program} {e : Env} {s : State} {m : MethodId} {below : List Frame} {meth : Method} {c : Code} {r : Int32} {μ' : Mm} (X : Fx D cA RX10 wsX10_look cX10_look 7 (some .int) p s m av.toArray meth c) {rc102 : Mm → Nat → Int32 → Int32 → Int32 → Option (Int32 × Mm)} (hrc102 : HL_X10_look_102 l D cA z av r μ' p e s m below meth c rc102) (n : Nat) : HL_X10_look_117 l D cA z av r μ' p e s m below meth c (f_X10_look_L117 rc102 n) := by
  induction n with
  | zero => intro _ _ _ _ _ _ _ _ _ _ _ _ _ _ h; have h2 : (none : Option _) = some _ := h; cases h2
  | succ n ih => intro μ H locs ls a0 x2 x3 x4 x5 x6 hk_a0 hd hS hl h; exact k_f_X10_look_L117b X hrc102 ih hk_a0 hd hS hl h
def f_X10_look_L102b (rc102 : Mm → Nat → Int32 → Int32 → Int32 → Option (Int32 × Mm)) (μ : Mm) (a0 : Nat) (x2 : Int32) (x3 : Int32) (x4 : Int32) : Option (Int32 × Mm) := bC (f_X10_cells μ a0) (fun r2 μ1 => if r2 ≤ x4 then (some (x2, μ1)) else (f_X10_look_L117 rc102 FU μ1 a0 x2 x3 x4 (0 : Int32) (0 : Int32)))
set_option maxRecDepth 100000 in
theorem k_f_X10_look_L102b {l : Launch} {D : va_G} {cA : Nat → ClassId} {z : Nat} {av : List Value} {p : Program} {e : Env} {s : State} {m : MethodId} {below : List Frame} {meth : Method} {c : Code} {r : Int32} {μ' : Mm} (X : Fx D cA RX10 wsX10_look cX10_look 7 (some .int) p s m av.toArray meth c) {rc102 : Mm → Nat → Int32 → Int32 → Int32 → Option (Int32 × Mm)} (hrc102 : HL_X10_look_102 l D cA z av r μ' p e s m below meth c rc102) {μ : Mm} {a0 : Nat} {x2 : Int32} {x3 : Int32} {x4 : Int32} (hk_a0 : kd a0 = 10) {H : Heap} {locs : List Loc} {ls : Array Slot} (hd : Wd D cA z μ H) (hS : va_S (Az z) s.heap H locs) (hl : lv_has ls 7 [(0, .ref (z + a0)), (2, .int x2), (3, .int x3), (4, .int x4)]) (h : f_X10_look_L102b rc102 μ a0 x2 x3 x4 = some (r, μ')) : WG l D cA z wsX10_look 6 139 av (some (.int r)) μ' p e s m below meth c H locs (F0 m 102 ls []) := by
  obtain ⟨hx, hb, hr, hlk, hml, hown, hts, hK⟩ := id X
  unfold f_X10_look_L102b at h
  refine lv_iload hx hb dX10_look_102 (lv_at hl 3 rfl) ?_
  refine lv_aload_n hx hb dX10_look_104 rfl (lv_at hl 0 rfl) ?_
  obtain ⟨r2, μ1, hc3, h⟩ := bC_e h
  refine rc_Vi (rest := [.int x4]) [] ⟨hx, hb, hml, hown, hts⟩ hK hd hS (c_X10_cells hk_a0 hc3) (cwV 0 hts gX10_look_X10_cells rfl rfl rfl hv_X10_cells ⟨Nat.le_of_ble_eq_true rfl, Nat.le_of_ble_eq_true rfl⟩) hk_a0 rfl rfl rfl rfl hl.1 rfl (Nat.le_of_ble_eq_true rfl) dX10_look_105 ⟨Nat.zero_le _, Nat.zero_le _⟩ (fun H locs hd hS => ?_)
  refine lv_icmp_ge (tgt := 202) hx hb dX10_look_108 (by decide) (fun q4 => ?_) (fun q4 => ?_)
  · have h := if_y q4 h
    refine lv_iload_n hx hb dX10_look_202 rfl (lv_at hl 1 rfl) ?_
    obtain ⟨rfl, rfl⟩ := so_e h
    exact rt_i hx hb hr hlk hd hS dX10_look_203
  · have h := if_n q4 h
    refine lv_iconst (v := 0) hx hb dX10_look_111 (by decide) ?_
    refine lv_istore (lv' := [(5, .int (0 : Int32)), (0, .ref (z + a0)), (2, .int x2), (3, .int x3), (4, .int x4)]) hx hb dX10_look_112 hl (by decide) rfl (fun ls hl => ?_)
    refine lv_iconst (v := 0) hx hb dX10_look_114 (by decide) ?_
    refine lv_istore (lv' := [(6, .int (0 : Int32)), (5, .int (0 : Int32)), (0, .ref (z + a0)), (2, .int x2), (3, .int x3), (4, .int x4)]) hx hb dX10_look_115 hl (by decide) rfl (fun ls hl => ?_)
    exact k_f_X10_look_L117 X hrc102 FU _ _ _ _ _ _ _ _ _ _ hk_a0 hd hS (lv_sub hl [2, 3, 4, 5, 1, 0] rfl) h
def f_X10_look_L102 : Nat → Mm → Nat → Int32 → Int32 → Int32 → Option (Int32 × Mm)
  | 0 => fun _ _ _ _ _ => none
  | n + 1 => fun μ a0 x2 x3 x4 => f_X10_look_L102b (f_X10_look_L102 n) μ a0 x2 x3 x4
theorem k_f_X10_look_L102 {l : Launch} {D : va_G} {cA : Nat → ClassId} {z : Nat} {av : List Value} {p : Program} {e : Env} {s : State} {m : MethodId} {below : List Frame} {meth : Method} {c : Code} {r : Int32} {μ' : Mm} (X : Fx D cA RX10 wsX10_look cX10_look 7 (some .int) p s m av.toArray meth c) (n : Nat) : HL_X10_look_102 l D cA z av r μ' p e s m below meth c (f_X10_look_L102 n) := by
  induction n with
  | zero => intro _ _ _ _ _ _ _ _ _ _ _ _ h; have h2 : (none : Option _) = some _ := h; cases h2
  | succ n ih => intro μ H locs ls a0 x2 x3 x4 hk_a0 hd hS hl h; exact k_f_X10_look_L102b X ih hk_a0 hd hS hl h
def f_X10_look_j89 (rc26 : Mm → Nat → Int32 → Int32 → Option (Int32 × Mm)) (μ : Mm) (a0 : Nat) (x1 : Int32) (x2 : Int32) : Option (Int32 × Mm) := rc26 μ a0 x1 (x2 + (1 : Int32))
set_option maxRecDepth 100000 in
theorem k_f_X10_look_j89 {l : Launch} {D : va_G} {cA : Nat → ClassId} {z : Nat} {av : List Value} {p : Program} {e : Env} {s : State} {m : MethodId} {below : List Frame} {meth : Method} {c : Code} {r : Int32} {μ' : Mm} (X : Fx D cA RX10 wsX10_look cX10_look 7 (some .int) p s m av.toArray meth c) {rc26 : Mm → Nat → Int32 → Int32 → Option (Int32 × Mm)} (hrc26 : HL_X10_look_26 l D cA z av r μ' p e s m below meth c rc26) {μ : Mm} {a0 : Nat} {x1 : Int32} {x2 : Int32} (hk_a0 : kd a0 = 10) {H : Heap} {locs : List Loc} {ls : Array Slot} (hd : Wd D cA z μ H) (hS : va_S (Az z) s.heap H locs) (hl : lv_has ls 7 [(0, .ref (z + a0)), (1, .int x1), (2, .int x2)]) (h : f_X10_look_j89 rc26 μ a0 x1 x2 = some (r, μ')) : WG l D cA z wsX10_look 6 139 av (some (.int r)) μ' p e s m below meth c H locs (F0 m 89 ls []) := by
  obtain ⟨hx, hb, hr, hlk, hml, hown, hts, hK⟩ := id X
  unfold f_X10_look_j89 at h
  refine lv_iinc (v := x2 + (1 : Int32)) (lv' := [(2, .int (x2 + (1 : Int32))), (0, .ref (z + a0)), (1, .int x1)]) hx hb dX10_look_89 hl (k := 2) rfl rfl (by decide) rfl (fun ls hl => ?_)
  refine lv_goto (tgt := 26) hx hb dX10_look_92 (by decide) ?_
  exact hrc26 _ _ _ _ _ _ _ hk_a0 hd hS (lv_sub hl [1, 2, 0] rfl) h
def f_X10_look_L53b (rc26 : Mm → Nat → Int32 → Int32 → Option (Int32 × Mm)) (rc53 : Mm → Nat → Int32 → Int32 → Int32 → Option (Int32 × Mm)) (μ : Mm) (a0 : Nat) (x1 : Int32) (x2 : Int32) (x4 : Int32) : Option (Int32 × Mm) := bC (f_X10_cells μ a0) (fun r2 μ1 => if r2 ≤ x4 then (f_X10_look_j89 rc26 μ1 a0 x1 x2) else (bR (μ1.2 a0 33) (fun b5 => bC (f_X10_restOf μ1 a0 x4) (fun r7 μ6 => gd (ckb (((20 : Int32) * x4) + r7) (ln b5)) (gd (ckb (((20 : Int32) * x4) + r7) (ln b5)) (bM (up2 μ6.1 b5 (((20 : Int32) * x4) + r7).toNatClampNeg ((μ6.1 b5 (((20 : Int32) * x4) + r7).toNatClampNeg) + (1 : Int32)), μ6.2) (fun μ11 => rc53 μ11 a0 x1 x2 (x4 + (1 : Int32)))))))))
set_option maxRecDepth 100000 in
theorem k_f_X10_look_L53b {l : Launch} {D : va_G} {cA : Nat → ClassId} {z : Nat} {av : List Value} {p : Program} {e : Env} {s : State} {m : MethodId} {below : List Frame} {meth : Method} {c : Code} {r : Int32} {μ' : Mm} (X : Fx D cA RX10 wsX10_look cX10_look 7 (some .int) p s m av.toArray meth c) {rc26 : Mm → Nat → Int32 → Int32 → Option (Int32 × Mm)} {rc53 : Mm → Nat → Int32 → Int32 → Int32 → Option (Int32 × Mm)} (hrc26 : HL_X10_look_26 l D cA z av r μ' p e s m below meth c rc26) (hrc53 : HL_X10_look_53 l D cA z av r μ' p e s m below meth c rc53) {μ : Mm} {a0 : Nat} {x1 : Int32} {x2 : Int32} {x4 : Int32} (hk_a0 : kd a0 = 10) {H : Heap} {locs : List Loc} {ls : Array Slot} (hd : Wd D cA z μ H) (hS : va_S (Az z) s.heap H locs) (hl : lv_has ls 7 [(0, .ref (z + a0)), (1, .int x1), (2, .int x2), (4, .int x4)]) (h : f_X10_look_L53b rc26 rc53 μ a0 x1 x2 x4 = some (r, μ')) : WG l D cA z wsX10_look 6 139 av (some (.int r)) μ' p e s m below meth c H locs (F0 m 53 ls []) := by
  obtain ⟨hx, hb, hr, hlk, hml, hown, hts, hK⟩ := id X
  unfold f_X10_look_L53b at h
  refine lv_iload hx hb dX10_look_53 (lv_at hl 3 rfl) ?_
  refine lv_aload_n hx hb dX10_look_55 rfl (lv_at hl 0 rfl) ?_
  obtain ⟨r2, μ1, hc3, h⟩ := bC_e h
  refine rc_Vi (rest := [.int x4]) [] ⟨hx, hb, hml, hown, hts⟩ hK hd hS (c_X10_cells hk_a0 hc3) (cwV 0 hts gX10_look_X10_cells rfl rfl rfl hv_X10_cells ⟨Nat.le_of_ble_eq_true rfl, Nat.le_of_ble_eq_true rfl⟩) hk_a0 rfl rfl rfl rfl hl.1 rfl (Nat.le_of_ble_eq_true rfl) dX10_look_56 ⟨Nat.zero_le _, Nat.zero_le _⟩ (fun H locs hd hS => ?_)
  refine lv_icmp_ge (tgt := 89) hx hb dX10_look_59 (by decide) (fun q4 => ?_) (fun q4 => ?_)
  · have h := if_y q4 h
    exact k_f_X10_look_j89 X hrc26 hk_a0 hd hS (lv_sub hl [0, 1, 2] rfl) h
  · have h := if_n q4 h
    refine lv_aload_n hx hb dX10_look_62 rfl (lv_at hl 0 rfl) ?_
    obtain ⟨b5, hb5, h⟩ := bR_e h
    refine r_getr hx hb hts (fun w h => List.mem_cons_of_mem _ (List.mem_append_right _ (h))) hown hK hd hk_a0 hb5 rfl fs_10_33 (hts (.fieldLink RX10 68 "LevelVotesModel" "brings" "[I") (List.mem_of_getElem? (i := 1) rfl)) dX10_look_63 (fun hq => ?_)
    have hk_b5 : kd b5 = 11 := hq
    refine lv_bipush (v := 20) hx hb dX10_look_66 (by decide) ?_
    refine lv_iload hx hb dX10_look_68 (lv_at hl 3 rfl) ?_
    refine lv_imul hx hb dX10_look_70 ?_
    refine lv_aload_n hx hb dX10_look_71 rfl (lv_at hl 0 rfl) ?_
    refine lv_iload hx hb dX10_look_72 (lv_at hl 3 rfl) ?_
    obtain ⟨r7, μ6, hc8, h⟩ := bC_e h
    refine rc_Vi (rest := [.int ((20 : Int32) * x4), .ref (z + b5)]) [.int x4] ⟨hx, hb, hml, hown, hts⟩ hK hd hS (c_X10_restOf hk_a0 hc8) (cwV 1 hts gX10_look_X10_restOf rfl rfl rfl hv_X10_restOf ⟨Nat.le_of_ble_eq_true rfl, Nat.le_of_ble_eq_true rfl⟩) hk_a0 rfl rfl rfl rfl hl.1 rfl (Nat.le_of_ble_eq_true rfl) dX10_look_74 ⟨Nat.zero_le _, Nat.zero_le _⟩ (fun H locs hd hS => ?_)
    refine lv_iadd hx hb dX10_look_77 ?_
    refine lv_dup2_11 hx hb dX10_look_78 rfl rfl ?_
    obtain ⟨g9, h⟩ := gd_e h
    refine r_iald hx hb hK hd hk_b5 (ckb_in g9) dX10_look_79 ?_
    refine lv_iconst (v := 1) hx hb dX10_look_80 (by decide) ?_
    refine lv_iadd hx hb dX10_look_81 ?_
    obtain ⟨g10, h⟩ := gd_e h
    refine r_iast hx hb hK hd hS hk_b5 (ckb_in g10) dX10_look_82 (fun μ11 eμ11 H locs hd hS => ?_)
    have h := bM_e eμ11 h
    refine lv_iinc (v := x4 + (1 : Int32)) (lv' := [(4, .int (x4 + (1 : Int32))), (0, .ref (z + a0)), (1, .int x1), (2, .int x2)]) hx hb dX10_look_83 hl (k := 3) rfl rfl (by decide) rfl (fun ls hl => ?_)
    refine lv_goto (tgt := 53) hx hb dX10_look_86 (by decide) ?_
    exact hrc53 _ _ _ _ _ _ _ _ hk_a0 hd hS (lv_sub hl [1, 2, 3, 0] rfl) h
def f_X10_look_L53 (rc26 : Mm → Nat → Int32 → Int32 → Option (Int32 × Mm)) : Nat → Mm → Nat → Int32 → Int32 → Int32 → Option (Int32 × Mm)
  | 0 => fun _ _ _ _ _ => none
  | n + 1 => fun μ a0 x1 x2 x4 => f_X10_look_L53b rc26 (f_X10_look_L53 rc26 n) μ a0 x1 x2 x4
theorem k_f_X10_look_L53 {l : Launch} {D : va_G} {cA : Nat → ClassId} {z : Nat} {av : List Value} {p : Program} {e : Env} {s : State} {m : MethodId} {below : List Frame} {meth : Method} {c : Code} {r : Int32} {μ' : Mm} (X : Fx D cA RX10 wsX10_look cX10_look 7 (some .int) p s m av.toArray meth c) {rc26 : Mm → Nat → Int32 → Int32 → Option (Int32 × Mm)} (hrc26 : HL_X10_look_26 l D cA z av r μ' p e s m below meth c rc26) (n : Nat) : HL_X10_look_53 l D cA z av r μ' p e s m below meth c (f_X10_look_L53 rc26 n) := by
  induction n with
  | zero => intro _ _ _ _ _ _ _ _ _ _ _ _ h; have h2 : (none : Option _) = some _ := h; cases h2
  | succ n ih => intro μ H locs ls a0 x1 x2 x4 hk_a0 hd hS hl h; exact k_f_X10_look_L53b X hrc26 ih hk_a0 hd hS hl h
def f_X10_look_L26b (rc26 : Mm → Nat → Int32 → Int32 → Option (Int32 × Mm)) (μ : Mm) (a0 : Nat) (x1 : Int32) (x2 : Int32) : Option (Int32 × Mm) := bC (f_X10_waysToStand μ a0) (fun r2 μ1 => if r2 ≤ x2 then (f_X10_look_L102 FU μ1 a0 (-1 : Int32) x1 (0 : Int32)) else (bC (f_X10_standBy μ1 a0 x2) (fun r6 μ5 => bC (f_X10_allSeen μ5 a0) (fun r9 μ8 => if r9 = 0 then (f_X10_look_j89 rc26 μ8 a0 x1 x2) else (f_X10_look_L53 rc26 FU μ8 a0 (x1 + (1 : Int32)) x2 (0 : Int32))))))
set_option maxRecDepth 100000 in
theorem k_f_X10_look_L26b {l : Launch} {D : va_G} {cA : Nat → ClassId} {z : Nat} {av : List Value} {p : Program} {e : Env} {s : State} {m : MethodId} {below : List Frame} {meth : Method} {c : Code} {r : Int32} {μ' : Mm} (X : Fx D cA RX10 wsX10_look cX10_look 7 (some .int) p s m av.toArray meth c) {rc26 : Mm → Nat → Int32 → Int32 → Option (Int32 × Mm)} (hrc26 : HL_X10_look_26 l D cA z av r μ' p e s m below meth c rc26) {μ : Mm} {a0 : Nat} {x1 : Int32} {x2 : Int32} (hk_a0 : kd a0 = 10) {H : Heap} {locs : List Loc} {ls : Array Slot} (hd : Wd D cA z μ H) (hS : va_S (Az z) s.heap H locs) (hl : lv_has ls 7 [(0, .ref (z + a0)), (1, .int x1), (2, .int x2)]) (h : f_X10_look_L26b rc26 μ a0 x1 x2 = some (r, μ')) : WG l D cA z wsX10_look 6 139 av (some (.int r)) μ' p e s m below meth c H locs (F0 m 26 ls []) := by
  obtain ⟨hx, hb, hr, hlk, hml, hown, hts, hK⟩ := id X
  unfold f_X10_look_L26b at h
  refine lv_iload_n hx hb dX10_look_26 rfl (lv_at hl 2 rfl) ?_
  refine lv_aload_n hx hb dX10_look_27 rfl (lv_at hl 0 rfl) ?_
  obtain ⟨r2, μ1, hc3, h⟩ := bC_e h
  refine rc_Vi (rest := [.int x2]) [] ⟨hx, hb, hml, hown, hts⟩ hK hd hS (c_X10_waysToStand hk_a0 hc3) (cwV 0 hts gX10_look_X10_waysToStand rfl rfl rfl hv_X10_waysToStand ⟨Nat.le_of_ble_eq_true rfl, Nat.le_of_ble_eq_true rfl⟩) hk_a0 rfl rfl rfl rfl hl.1 rfl (Nat.le_of_ble_eq_true rfl) dX10_look_28 ⟨Nat.zero_le _, Nat.zero_le _⟩ (fun H locs hd hS => ?_)
  refine lv_icmp_ge (tgt := 95) hx hb dX10_look_31 (by decide) (fun q4 => ?_) (fun q4 => ?_)
  · have h := if_y q4 h
    refine lv_iconst (v := -1) hx hb dX10_look_95 (by decide) ?_
    refine lv_istore_n (lv' := [(2, .int (-1 : Int32)), (0, .ref (z + a0)), (1, .int x1)]) hx hb dX10_look_96 rfl hl (by decide) rfl (fun ls hl => ?_)
    refine lv_iload_n hx hb dX10_look_97 rfl (lv_at hl 2 rfl) ?_
    refine lv_istore_n (lv' := [(3, .int x1), (2, .int (-1 : Int32)), (0, .ref (z + a0)), (1, .int x1)]) hx hb dX10_look_98 rfl hl (by decide) rfl (fun ls hl => ?_)
    refine lv_iconst (v := 0) hx hb dX10_look_99 (by decide) ?_
    refine lv_istore (lv' := [(4, .int (0 : Int32)), (3, .int x1), (2, .int (-1 : Int32)), (0, .ref (z + a0)), (1, .int x1)]) hx hb dX10_look_100 hl (by decide) rfl (fun ls hl => ?_)
    exact k_f_X10_look_L102 X FU _ _ _ _ _ _ _ _ hk_a0 hd hS (lv_sub hl [3, 2, 1, 0] rfl) h
  · have h := if_n q4 h
    refine lv_aload_n hx hb dX10_look_34 rfl (lv_at hl 0 rfl) ?_
    refine lv_iload_n hx hb dX10_look_35 rfl (lv_at hl 2 rfl) ?_
    obtain ⟨r6, μ5, hc7, h⟩ := bC_e h
    refine rc_Vi (rest := []) [.int x2] ⟨hx, hb, hml, hown, hts⟩ hK hd hS (c_X10_standBy hk_a0 hc7) (cwV 1 hts gX10_look_X10_standBy rfl rfl rfl hv_X10_standBy ⟨Nat.le_of_ble_eq_true rfl, Nat.le_of_ble_eq_true rfl⟩) hk_a0 rfl rfl rfl rfl hl.1 rfl (Nat.le_of_ble_eq_true rfl) dX10_look_36 ⟨Nat.zero_le _, Nat.zero_le _⟩ (fun H locs hd hS => ?_)
    refine lv_istore_n (lv' := [(3, .int r6), (0, .ref (z + a0)), (1, .int x1), (2, .int x2)]) hx hb dX10_look_39 rfl hl (by decide) rfl (fun ls hl => ?_)
    refine lv_aload_n hx hb dX10_look_40 rfl (lv_at hl 1 rfl) ?_
    obtain ⟨r9, μ8, hc10, h⟩ := bC_e h
    refine rc_Vi (rest := []) [] ⟨hx, hb, hml, hown, hts⟩ hK hd hS (c_X10_allSeen hk_a0 hc10) (cwV 0 hts gX10_look_X10_allSeen rfl rfl rfl hv_X10_allSeen ⟨Nat.le_of_ble_eq_true rfl, Nat.le_of_ble_eq_true rfl⟩) hk_a0 rfl rfl rfl rfl hl.1 rfl (Nat.le_of_ble_eq_true rfl) dX10_look_41 ⟨Nat.zero_le _, Nat.zero_le _⟩ (fun H locs hd hS => ?_)
    refine lv_if_eq (tgt := 89) hx hb dX10_look_44 (by decide) (fun q11 => ?_) (fun q11 => ?_)
    · have h := if_y q11 h
      exact k_f_X10_look_j89 X hrc26 hk_a0 hd hS (lv_sub hl [1, 2, 3] rfl) h
    · have h := if_n q11 h
      refine lv_iinc (v := x1 + (1 : Int32)) (lv' := [(1, .int (x1 + (1 : Int32))), (3, .int r6), (0, .ref (z + a0)), (2, .int x2)]) hx hb dX10_look_47 hl (k := 2) rfl rfl (by decide) rfl (fun ls hl => ?_)
      refine lv_iconst (v := 0) hx hb dX10_look_50 (by decide) ?_
      refine lv_istore (lv' := [(4, .int (0 : Int32)), (1, .int (x1 + (1 : Int32))), (3, .int r6), (0, .ref (z + a0)), (2, .int x2)]) hx hb dX10_look_51 hl (by decide) rfl (fun ls hl => ?_)
      exact k_f_X10_look_L53 X hrc26 FU _ _ _ _ _ _ _ _ hk_a0 hd hS (lv_sub hl [3, 1, 4, 0] rfl) h
def f_X10_look_L26 : Nat → Mm → Nat → Int32 → Int32 → Option (Int32 × Mm)
  | 0 => fun _ _ _ _ => none
  | n + 1 => fun μ a0 x1 x2 => f_X10_look_L26b (f_X10_look_L26 n) μ a0 x1 x2
theorem k_f_X10_look_L26 {l : Launch} {D : va_G} {cA : Nat → ClassId} {z : Nat} {av : List Value} {p : Program} {e : Env} {s : State} {m : MethodId} {below : List Frame} {meth : Method} {c : Code} {r : Int32} {μ' : Mm} (X : Fx D cA RX10 wsX10_look cX10_look 7 (some .int) p s m av.toArray meth c) (n : Nat) : HL_X10_look_26 l D cA z av r μ' p e s m below meth c (f_X10_look_L26 n) := by
  induction n with
  | zero => intro _ _ _ _ _ _ _ _ _ _ _ h; have h2 : (none : Option _) = some _ := h; cases h2
  | succ n ih => intro μ H locs ls a0 x1 x2 hk_a0 hd hS hl h; exact k_f_X10_look_L26b X ih hk_a0 hd hS hl h
def f_X10_look_L2b (rc2 : Mm → Nat → Int32 → Option (Int32 × Mm)) (μ : Mm) (a0 : Nat) (x1 : Int32) : Option (Int32 × Mm) := if (400 : Int32) ≤ x1 then (f_X10_look_L26 FU μ a0 (0 : Int32) (0 : Int32)) else (bR (μ.2 a0 33) (fun b2 => gd (ckb x1 (ln b2)) (bM (up2 μ.1 b2 (x1).toNatClampNeg (0 : Int32), μ.2) (fun μ4 => rc2 μ4 a0 (x1 + (1 : Int32))))))
set_option maxRecDepth 100000 in
theorem k_f_X10_look_L2b {l : Launch} {D : va_G} {cA : Nat → ClassId} {z : Nat} {av : List Value} {p : Program} {e : Env} {s : State} {m : MethodId} {below : List Frame} {meth : Method} {c : Code} {r : Int32} {μ' : Mm} (X : Fx D cA RX10 wsX10_look cX10_look 7 (some .int) p s m av.toArray meth c) {rc2 : Mm → Nat → Int32 → Option (Int32 × Mm)} (hrc2 : HL_X10_look_2 l D cA z av r μ' p e s m below meth c rc2) {μ : Mm} {a0 : Nat} {x1 : Int32} (hk_a0 : kd a0 = 10) {H : Heap} {locs : List Loc} {ls : Array Slot} (hd : Wd D cA z μ H) (hS : va_S (Az z) s.heap H locs) (hl : lv_has ls 7 [(0, .ref (z + a0)), (1, .int x1)]) (h : f_X10_look_L2b rc2 μ a0 x1 = some (r, μ')) : WG l D cA z wsX10_look 6 139 av (some (.int r)) μ' p e s m below meth c H locs (F0 m 2 ls []) := by
  obtain ⟨hx, hb, hr, hlk, hml, hown, hts, hK⟩ := id X
  unfold f_X10_look_L2b at h
  refine lv_iload_n hx hb dX10_look_2 rfl (lv_at hl 1 rfl) ?_
  refine lv_sipush (v := 400) hx hb dX10_look_3 (by decide) ?_
  refine lv_icmp_ge (tgt := 22) hx hb dX10_look_6 (by decide) (fun q1 => ?_) (fun q1 => ?_)
  · have h := if_y q1 h
    refine lv_iconst (v := 0) hx hb dX10_look_22 (by decide) ?_
    refine lv_istore_n (lv' := [(1, .int (0 : Int32)), (0, .ref (z + a0))]) hx hb dX10_look_23 rfl hl (by decide) rfl (fun ls hl => ?_)
    refine lv_iconst (v := 0) hx hb dX10_look_24 (by decide) ?_
    refine lv_istore_n (lv' := [(2, .int (0 : Int32)), (1, .int (0 : Int32)), (0, .ref (z + a0))]) hx hb dX10_look_25 rfl hl (by decide) rfl (fun ls hl => ?_)
    exact k_f_X10_look_L26 X FU _ _ _ _ _ _ _ hk_a0 hd hS (lv_sub hl [2, 1, 0] rfl) h
  · have h := if_n q1 h
    refine lv_aload_n hx hb dX10_look_9 rfl (lv_at hl 0 rfl) ?_
    obtain ⟨b2, hb2, h⟩ := bR_e h
    refine r_getr hx hb hts (fun w h => List.mem_cons_of_mem _ (List.mem_append_right _ (h))) hown hK hd hk_a0 hb2 rfl fs_10_33 (hts (.fieldLink RX10 68 "LevelVotesModel" "brings" "[I") (List.mem_of_getElem? (i := 1) rfl)) dX10_look_10 (fun hq => ?_)
    have hk_b2 : kd b2 = 11 := hq
    refine lv_iload_n hx hb dX10_look_13 rfl (lv_at hl 1 rfl) ?_
    refine lv_iconst (v := 0) hx hb dX10_look_14 (by decide) ?_
    obtain ⟨g3, h⟩ := gd_e h
    refine r_iast hx hb hK hd hS hk_b2 (ckb_in g3) dX10_look_15 (fun μ4 eμ4 H locs hd hS => ?_)
    have h := bM_e eμ4 h
    refine lv_iinc (v := x1 + (1 : Int32)) (lv' := [(1, .int (x1 + (1 : Int32))), (0, .ref (z + a0))]) hx hb dX10_look_16 hl (k := 1) rfl rfl (by decide) rfl (fun ls hl => ?_)
    refine lv_goto (tgt := 2) hx hb dX10_look_19 (by decide) ?_
    exact hrc2 _ _ _ _ _ _ hk_a0 hd hS (lv_sub hl [1, 0] rfl) h
def f_X10_look_L2 : Nat → Mm → Nat → Int32 → Option (Int32 × Mm)
  | 0 => fun _ _ _ => none
  | n + 1 => fun μ a0 x1 => f_X10_look_L2b (f_X10_look_L2 n) μ a0 x1
theorem k_f_X10_look_L2 {l : Launch} {D : va_G} {cA : Nat → ClassId} {z : Nat} {av : List Value} {p : Program} {e : Env} {s : State} {m : MethodId} {below : List Frame} {meth : Method} {c : Code} {r : Int32} {μ' : Mm} (X : Fx D cA RX10 wsX10_look cX10_look 7 (some .int) p s m av.toArray meth c) (n : Nat) : HL_X10_look_2 l D cA z av r μ' p e s m below meth c (f_X10_look_L2 n) := by
  induction n with
  | zero => intro _ _ _ _ _ _ _ _ _ _ h; have h2 : (none : Option _) = some _ := h; cases h2
  | succ n ih => intro μ H locs ls a0 x1 hk_a0 hd hS hl h; exact k_f_X10_look_L2b X ih hk_a0 hd hS hl h
def f_X10_look (μ : Mm) (a0 : Nat) : Option (Int32 × Mm) := f_X10_look_L2 FU μ a0 (0 : Int32)
set_option maxRecDepth 100000 in
theorem c_X10_look {l : Launch} {D : va_G} {cA : Nat → ClassId} {z : Nat} {μ : Mm} {a0 : Nat} {r : Int32} {μ' : Mm} (hk_a0 : kd a0 = 10) (h : f_X10_look μ a0 = some (r, μ')) : Ct l D cA z yX10_look wsX10_look 6 139 [.ref (z + a0)] μ (some (.int r)) μ' := by
  refine m_in (cc := cX10_look) (maxL := 7) (ret := (some .int)) (own := RX10) (by decide) rfl rfl (Nat.le_of_ble_eq_true rfl) ?_
  intro p e s m below meth c ls X hd hS hl
  obtain ⟨hx, hb, hr, hlk, hml, hown, hts, hK⟩ := id X
  have hl : lv_has ls 7 [(0, .ref (z + a0))] := hl
  unfold f_X10_look at h
  refine lv_iconst (v := 0) hx hb dX10_look_0 (by decide) ?_
  refine lv_istore_n (lv' := [(1, .int (0 : Int32)), (0, .ref (z + a0))]) hx hb dX10_look_1 rfl hl (by decide) rfl (fun ls hl => ?_)
  exact k_f_X10_look_L2 X FU _ _ _ _ _ _ hk_a0 hd hS (lv_sub hl [1, 0] rfl) h
theorem hv_X10_write : yX10_write.cls = RX10 ∧ yX10_write.cls ≠ "java/lang/invoke/MethodHandle" ∧ yX10_write.cls ≠ "java/lang/invoke/VarHandle" ∧ (parseMethodDescriptor yX10_write.desc).map (fun d => d.parameters.length) = some 2 := by decide +kernel
def f_X10_write (μ : Mm) (a0 : Nat) (x1 : Int32) (x2 : Int32) : Option (Int32 × Mm) := bC (f_X10_isCell μ a0 x1) (fun r2 μ1 => if r2 = 0 then (some ((-1000000001 : Int32), μ1)) else (bC (f_X10_in μ1 (x2.toInt64) (0 : Int64) (9 : Int64)) (fun r6 μ5 => if r6 = 0 then (some ((-1000000002 : Int32), μ5)) else (if (μ5.1 a0 34) = (15 : Int32) then (some ((-1000000004 : Int32), μ5)) else (bR (μ5.2 a0 35) (fun b10 => gd (ckb (μ5.1 a0 34) (ln b10)) (bM (up2 μ5.1 b10 (μ5.1 a0 34).toNatClampNeg x1, μ5.2) (fun μ12 => bR (μ12.2 a0 36) (fun b13 => gd (ckb (μ12.1 a0 34) (ln b13)) (bM (up2 μ12.1 b13 (μ12.1 a0 34).toNatClampNeg x2, μ12.2) (fun μ15 => bM (up2 μ15.1 a0 34 ((μ15.1 a0 34) + (1 : Int32)), μ15.2) (fun μ16 => some (μ16.1 a0 34, μ16)))))))))))))
set_option maxRecDepth 100000 in
theorem c_X10_write {l : Launch} {D : va_G} {cA : Nat → ClassId} {z : Nat} {μ : Mm} {a0 : Nat} {x1 : Int32} {x2 : Int32} {r : Int32} {μ' : Mm} (hk_a0 : kd a0 = 10) (h : f_X10_write μ a0 x1 x2 = some (r, μ')) : Ct l D cA z yX10_write wsX10_write 2 46 [.ref (z + a0), .int x1, .int x2] μ (some (.int r)) μ' := by
  refine m_in (cc := cX10_write) (maxL := 3) (ret := (some .int)) (own := RX10) (by decide) rfl rfl (Nat.le_of_ble_eq_true rfl) ?_
  intro p e s m below meth c ls X hd hS hl
  obtain ⟨hx, hb, hr, hlk, hml, hown, hts, hK⟩ := id X
  have hl : lv_has ls 3 [(0, .ref (z + a0)), (1, .int x1), (2, .int x2)] := hl
  unfold f_X10_write at h
  refine lv_aload_n hx hb dX10_write_0 rfl (lv_at hl 0 rfl) ?_
  refine lv_iload_n hx hb dX10_write_1 rfl (lv_at hl 1 rfl) ?_
  obtain ⟨r2, μ1, hc3, h⟩ := bC_e h
  refine rc_Vi (rest := []) [.int x1] ⟨hx, hb, hml, hown, hts⟩ hK hd hS (c_X10_isCell hk_a0 hc3) (cwV 1 hts gX10_write_X10_isCell rfl rfl rfl hv_X10_isCell ⟨Nat.le_of_ble_eq_true rfl, Nat.le_of_ble_eq_true rfl⟩) hk_a0 rfl rfl rfl rfl hl.1 rfl (Nat.le_of_ble_eq_true rfl) dX10_write_2 ⟨Nat.zero_le _, Nat.zero_le _⟩ (fun H locs hd hS => ?_)
  refine lv_if_ne (tgt := 11) hx hb dX10_write_5 (by decide) (fun q4 => ?_) (fun q4 => ?_)
  · have h := if_n q4 h
    refine lv_iload_n hx hb dX10_write_11 rfl (lv_at hl 2 rfl) ?_
    refine lv_i2l hx hb dX10_write_12 rfl ?_
    refine lv_lconst (v := 0) hx hb dX10_write_13 (by decide) ?_
    refine lv_ldc2 (v := 9) hx hb hown (hts (.constantLong RX10 292 (9)) (List.mem_of_getElem? (i := 2) rfl)) dX10_write_14 ?_
    obtain ⟨r6, μ5, hc7, h⟩ := bC_e h
    refine rc_Si (rest := []) [.long (x2.toInt64), .long (0 : Int64), .long (9 : Int64)] ⟨hx, hb, hml, hown, hts⟩ hK hd hS (c_X10_in  hc7) (va_cwS 3 hts gX10_write_X10_in rfl rfl rfl hn_X10_in ⟨Nat.le_of_ble_eq_true rfl, Nat.le_of_ble_eq_true rfl⟩) rfl hl.1 rfl (Nat.le_of_ble_eq_true rfl) dX10_write_17 ⟨Nat.zero_le _, Nat.zero_le _⟩ (fun H locs hd hS => ?_)
    refine lv_if_ne (tgt := 26) hx hb dX10_write_20 (by decide) (fun q8 => ?_) (fun q8 => ?_)
    · have h := if_n q8 h
      refine lv_aload_n hx hb dX10_write_26 rfl (lv_at hl 0 rfl) ?_
      refine r_geti hx hb hts (fun w h => List.mem_cons_of_mem _ (List.mem_append_right _ (h))) hown hK hd hk_a0 rfl 34 fs_10_34 (hts (.fieldLink RX10 169 "LevelVotesModel" "booked" "I") (List.mem_of_getElem? (i := 4) rfl)) dX10_write_27 ?_
      refine lv_bipush (v := 15) hx hb dX10_write_30 (by decide) ?_
      refine lv_icmp_ne (tgt := 38) hx hb dX10_write_32 (by decide) (fun q9 => ?_) (fun q9 => ?_)
      · have h := if_n q9 h
        refine lv_aload_n hx hb dX10_write_38 rfl (lv_at hl 0 rfl) ?_
        obtain ⟨b10, hb10, h⟩ := bR_e h
        refine r_getr hx hb hts (fun w h => List.mem_cons_of_mem _ (List.mem_append_right _ (h))) hown hK hd hk_a0 hb10 rfl fs_10_35 (hts (.fieldLink RX10 71 "LevelVotesModel" "bookAt" "[I") (List.mem_of_getElem? (i := 6) rfl)) dX10_write_39 (fun hq => ?_)
        have hk_b10 : kd b10 = 11 := hq
        refine lv_aload_n hx hb dX10_write_42 rfl (lv_at hl 0 rfl) ?_
        refine r_geti hx hb hts (fun w h => List.mem_cons_of_mem _ (List.mem_append_right _ (h))) hown hK hd hk_a0 rfl 34 fs_10_34 (hts (.fieldLink RX10 169 "LevelVotesModel" "booked" "I") (List.mem_of_getElem? (i := 4) rfl)) dX10_write_43 ?_
        refine lv_iload_n hx hb dX10_write_46 rfl (lv_at hl 1 rfl) ?_
        obtain ⟨g11, h⟩ := gd_e h
        refine r_iast hx hb hK hd hS hk_b10 (ckb_in g11) dX10_write_47 (fun μ12 eμ12 H locs hd hS => ?_)
        have h := bM_e eμ12 h
        refine lv_aload_n hx hb dX10_write_48 rfl (lv_at hl 0 rfl) ?_
        obtain ⟨b13, hb13, h⟩ := bR_e h
        refine r_getr hx hb hts (fun w h => List.mem_cons_of_mem _ (List.mem_append_right _ (h))) hown hK hd hk_a0 hb13 rfl fs_10_36 (hts (.fieldLink RX10 74 "LevelVotesModel" "bookHigh" "[I") (List.mem_of_getElem? (i := 7) rfl)) dX10_write_49 (fun hq => ?_)
        have hk_b13 : kd b13 = 11 := hq
        refine lv_aload_n hx hb dX10_write_52 rfl (lv_at hl 0 rfl) ?_
        refine r_geti hx hb hts (fun w h => List.mem_cons_of_mem _ (List.mem_append_right _ (h))) hown hK hd hk_a0 rfl 34 fs_10_34 (hts (.fieldLink RX10 169 "LevelVotesModel" "booked" "I") (List.mem_of_getElem? (i := 4) rfl)) dX10_write_53 ?_
        refine lv_iload_n hx hb dX10_write_56 rfl (lv_at hl 2 rfl) ?_
        obtain ⟨g14, h⟩ := gd_e h
        refine r_iast hx hb hK hd hS hk_b13 (ckb_in g14) dX10_write_57 (fun μ15 eμ15 H locs hd hS => ?_)
        have h := bM_e eμ15 h
        refine lv_aload_n hx hb dX10_write_58 rfl (lv_at hl 0 rfl) ?_
        refine lv_dup hx hb dX10_write_59 rfl ?_
        refine r_geti hx hb hts (fun w h => List.mem_cons_of_mem _ (List.mem_append_right _ (h))) hown hK hd hk_a0 rfl 34 fs_10_34 (hts (.fieldLink RX10 169 "LevelVotesModel" "booked" "I") (List.mem_of_getElem? (i := 4) rfl)) dX10_write_60 ?_
        refine lv_iconst (v := 1) hx hb dX10_write_63 (by decide) ?_
        refine lv_iadd hx hb dX10_write_64 ?_
        refine r_puti hx hb hts (fun w h => List.mem_cons_of_mem _ (List.mem_append_right _ (h))) tyX10 tyX10_ok nmX10 hown hK hd hS hk_a0 rfl 34 fs_10_34 rfl (hts (.fieldLink RX10 169 "LevelVotesModel" "booked" "I") (List.mem_of_getElem? (i := 4) rfl)) (vp_nar_int _) rfl dX10_write_65 (fun μ16 eμ16 H locs hd hS => ?_)
        have h := bM_e eμ16 h
        refine lv_aload_n hx hb dX10_write_68 rfl (lv_at hl 0 rfl) ?_
        refine r_geti hx hb hts (fun w h => List.mem_cons_of_mem _ (List.mem_append_right _ (h))) hown hK hd hk_a0 rfl 34 fs_10_34 (hts (.fieldLink RX10 169 "LevelVotesModel" "booked" "I") (List.mem_of_getElem? (i := 4) rfl)) dX10_write_69 ?_
        obtain ⟨rfl, rfl⟩ := so_e h
        exact rt_i hx hb hr hlk hd hS dX10_write_72
      · have h := if_y q9 h
        refine lv_ldc (v := -1000000004) hx hb hown (hts (.constant RX10 110 (-1000000004)) (List.mem_of_getElem? (i := 5) rfl)) dX10_write_35 ?_
        obtain ⟨rfl, rfl⟩ := so_e h
        exact rt_i hx hb hr hlk hd hS dX10_write_37
    · have h := if_y q8 h
      refine lv_ldc (v := -1000000002) hx hb hown (hts (.constant RX10 106 (-1000000002)) (List.mem_of_getElem? (i := 3) rfl)) dX10_write_23 ?_
      obtain ⟨rfl, rfl⟩ := so_e h
      exact rt_i hx hb hr hlk hd hS dX10_write_25
  · have h := if_y q4 h
    refine lv_ldc (v := -1000000001) hx hb hown (hts (.constant RX10 226 (-1000000001)) (List.mem_of_getElem? (i := 1) rfl)) dX10_write_8 ?_
    obtain ⟨rfl, rfl⟩ := so_e h
    exact rt_i hx hb hr hlk hd hS dX10_write_10
theorem hv_X10_tear : yX10_tear.cls = RX10 ∧ yX10_tear.cls ≠ "java/lang/invoke/MethodHandle" ∧ yX10_tear.cls ≠ "java/lang/invoke/VarHandle" ∧ (parseMethodDescriptor yX10_tear.desc).map (fun d => d.parameters.length) = some 0 := by decide +kernel
def f_X10_tear (μ : Mm) (a0 : Nat) : Option (Int32 × Mm) := bI ((μ.1 a0 30) + (μ.1 a0 34)) (fun v1 => bM (up2 μ.1 a0 30 (0 : Int32), μ.2) (fun μ2 => bM (up2 μ2.1 a0 34 (0 : Int32), μ2.2) (fun μ3 => some (v1, μ3))))
set_option maxRecDepth 100000 in
theorem c_X10_tear {l : Launch} {D : va_G} {cA : Nat → ClassId} {z : Nat} {μ : Mm} {a0 : Nat} {r : Int32} {μ' : Mm} (hk_a0 : kd a0 = 10) (h : f_X10_tear μ a0 = some (r, μ')) : Ct l D cA z yX10_tear wsX10_tear 0 0 [.ref (z + a0)] μ (some (.int r)) μ' := by
  refine m_in (cc := cX10_tear) (maxL := 2) (ret := (some .int)) (own := RX10) (by decide) rfl rfl (Nat.le_of_ble_eq_true rfl) ?_
  intro p e s m below meth c ls X hd hS hl
  obtain ⟨hx, hb, hr, hlk, hml, hown, hts, hK⟩ := id X
  have hl : lv_has ls 2 [(0, .ref (z + a0))] := hl
  unfold f_X10_tear at h
  refine lv_aload_n hx hb dX10_tear_0 rfl (lv_at hl 0 rfl) ?_
  refine r_geti hx hb hts (fun w h => List.mem_cons_of_mem _ (List.mem_append_right _ (h))) hown hK hd hk_a0 rfl 30 fs_10_30 (hts (.fieldLink RX10 166 "LevelVotesModel" "seen" "I") (List.mem_of_getElem? (i := 1) rfl)) dX10_tear_1 ?_
  refine lv_aload_n hx hb dX10_tear_4 rfl (lv_at hl 0 rfl) ?_
  refine r_geti hx hb hts (fun w h => List.mem_cons_of_mem _ (List.mem_append_right _ (h))) hown hK hd hk_a0 rfl 34 fs_10_34 (hts (.fieldLink RX10 169 "LevelVotesModel" "booked" "I") (List.mem_of_getElem? (i := 2) rfl)) dX10_tear_5 ?_
  refine lv_iadd hx hb dX10_tear_8 ?_
  refine lv_topi (fun v1 ev1 => ?_)
  have h := bI_e ev1 h
  refine lv_istore_n (lv' := [(1, .int v1), (0, .ref (z + a0))]) hx hb dX10_tear_9 rfl hl (by decide) rfl (fun ls hl => ?_)
  refine lv_aload_n hx hb dX10_tear_10 rfl (lv_at hl 1 rfl) ?_
  refine lv_iconst (v := 0) hx hb dX10_tear_11 (by decide) ?_
  refine r_puti hx hb hts (fun w h => List.mem_cons_of_mem _ (List.mem_append_right _ (h))) tyX10 tyX10_ok nmX10 hown hK hd hS hk_a0 rfl 30 fs_10_30 rfl (hts (.fieldLink RX10 166 "LevelVotesModel" "seen" "I") (List.mem_of_getElem? (i := 1) rfl)) (vp_nar_int _) rfl dX10_tear_12 (fun μ2 eμ2 H locs hd hS => ?_)
  have h := bM_e eμ2 h
  refine lv_aload_n hx hb dX10_tear_15 rfl (lv_at hl 1 rfl) ?_
  refine lv_iconst (v := 0) hx hb dX10_tear_16 (by decide) ?_
  refine r_puti hx hb hts (fun w h => List.mem_cons_of_mem _ (List.mem_append_right _ (h))) tyX10 tyX10_ok nmX10 hown hK hd hS hk_a0 rfl 34 fs_10_34 rfl (hts (.fieldLink RX10 169 "LevelVotesModel" "booked" "I") (List.mem_of_getElem? (i := 2) rfl)) (vp_nar_int _) rfl dX10_tear_17 (fun μ3 eμ3 H locs hd hS => ?_)
  have h := bM_e eμ3 h
  refine lv_iload_n hx hb dX10_tear_20 rfl (lv_at hl 0 rfl) ?_
  obtain ⟨rfl, rfl⟩ := so_e h
  exact rt_i hx hb hr hlk hd hS dX10_tear_21
theorem hv_X10_judge : yX10_judge.cls = RX10 ∧ yX10_judge.cls ≠ "java/lang/invoke/MethodHandle" ∧ yX10_judge.cls ≠ "java/lang/invoke/VarHandle" ∧ (parseMethodDescriptor yX10_judge.desc).map (fun d => d.parameters.length) = some 0 := by decide +kernel
abbrev HL_X10_judge_6 (l : Launch) (D : va_G) (cA : Nat → ClassId) (z : Nat) (av : List Value) (r : Int32) (μ' : Mm) (p : Program) (e : Env) (s : State) (m : MethodId) (below : List Frame) (meth : Method) (c : Code) (rc : Mm → Nat → Int32 → Option (Int32 × Mm)) : Prop := ∀ (μ : Mm) (H : Heap) (locs : List Loc) (ls : Array Slot) (a0 : Nat) (x1 : Int32), kd a0 = 10 → Wd D cA z μ H → va_S (Az z) s.heap H locs → lv_has ls 2 [(0, .ref (z + a0)), (1, .int x1)] → rc μ a0 x1 = some (r, μ') → WG l D cA z wsX10_judge 6 138 av (some (.int r)) μ' p e s m below meth c H locs (F0 m 6 ls [])
def f_X10_judge_L6b (rc6 : Mm → Nat → Int32 → Option (Int32 × Mm)) (μ : Mm) (a0 : Nat) (x1 : Int32) : Option (Int32 × Mm) := if (μ.1 a0 34) ≤ x1 then (some ((-1 : Int32), μ)) else (bR (μ.2 a0 26) (fun b2 => bR (μ.2 a0 35) (fun b3 => gd (ckb x1 (ln b3)) (gd (ckb (μ.1 b3 (x1).toNatClampNeg) (ln b2)) (bR (μ.2 a0 36) (fun b6 => gd (ckb x1 (ln b6)) (if (μ.1 b2 (μ.1 b3 (x1).toNatClampNeg).toNatClampNeg) = (μ.1 b6 (x1).toNatClampNeg) then (rc6 μ a0 (x1 + (1 : Int32))) else (some (x1, μ)))))))))
set_option maxRecDepth 100000 in
theorem k_f_X10_judge_L6b {l : Launch} {D : va_G} {cA : Nat → ClassId} {z : Nat} {av : List Value} {p : Program} {e : Env} {s : State} {m : MethodId} {below : List Frame} {meth : Method} {c : Code} {r : Int32} {μ' : Mm} (X : Fx D cA RX10 wsX10_judge cX10_judge 2 (some .int) p s m av.toArray meth c) {rc6 : Mm → Nat → Int32 → Option (Int32 × Mm)} (hrc6 : HL_X10_judge_6 l D cA z av r μ' p e s m below meth c rc6) {μ : Mm} {a0 : Nat} {x1 : Int32} (hk_a0 : kd a0 = 10) {H : Heap} {locs : List Loc} {ls : Array Slot} (hd : Wd D cA z μ H) (hS : va_S (Az z) s.heap H locs) (hl : lv_has ls 2 [(0, .ref (z + a0)), (1, .int x1)]) (h : f_X10_judge_L6b rc6 μ a0 x1 = some (r, μ')) : WG l D cA z wsX10_judge 6 138 av (some (.int r)) μ' p e s m below meth c H locs (F0 m 6 ls []) := by
  obtain ⟨hx, hb, hr, hlk, hml, hown, hts, hK⟩ := id X
  unfold f_X10_judge_L6b at h
  refine lv_iload_n hx hb dX10_judge_6 rfl (lv_at hl 1 rfl) ?_
  refine lv_aload_n hx hb dX10_judge_7 rfl (lv_at hl 0 rfl) ?_
  refine r_geti hx hb hts (fun w h => List.mem_cons_of_mem _ (List.mem_append_right _ (h))) hown hK hd hk_a0 rfl 34 fs_10_34 (hts (.fieldLink RX10 169 "LevelVotesModel" "booked" "I") (List.mem_of_getElem? (i := 1) rfl)) dX10_judge_8 ?_
  refine lv_icmp_ge (tgt := 42) hx hb dX10_judge_11 (by decide) (fun q1 => ?_) (fun q1 => ?_)
  · have h := if_y q1 h
    refine lv_iconst (v := -1) hx hb dX10_judge_42 (by decide) ?_
    obtain ⟨rfl, rfl⟩ := so_e h
    exact rt_i hx hb hr hlk hd hS dX10_judge_43
  · have h := if_n q1 h
    refine lv_aload_n hx hb dX10_judge_14 rfl (lv_at hl 0 rfl) ?_
    obtain ⟨b2, hb2, h⟩ := bR_e h
    refine r_getr hx hb hts (fun w h => List.mem_cons_of_mem _ (List.mem_append_right _ (h))) hown hK hd hk_a0 hb2 rfl fs_10_26 (hts (.fieldLink RX10 53 "LevelVotesModel" "heights" "[I") (List.mem_of_getElem? (i := 2) rfl)) dX10_judge_15 (fun hq => ?_)
    have hk_b2 : kd b2 = 11 := hq
    refine lv_aload_n hx hb dX10_judge_18 rfl (lv_at hl 0 rfl) ?_
    obtain ⟨b3, hb3, h⟩ := bR_e h
    refine r_getr hx hb hts (fun w h => List.mem_cons_of_mem _ (List.mem_append_right _ (h))) hown hK hd hk_a0 hb3 rfl fs_10_35 (hts (.fieldLink RX10 71 "LevelVotesModel" "bookAt" "[I") (List.mem_of_getElem? (i := 3) rfl)) dX10_judge_19 (fun hq => ?_)
    have hk_b3 : kd b3 = 11 := hq
    refine lv_iload_n hx hb dX10_judge_22 rfl (lv_at hl 1 rfl) ?_
    obtain ⟨g4, h⟩ := gd_e h
    refine r_iald hx hb hK hd hk_b3 (ckb_in g4) dX10_judge_23 ?_
    obtain ⟨g5, h⟩ := gd_e h
    refine r_iald hx hb hK hd hk_b2 (ckb_in g5) dX10_judge_24 ?_
    refine lv_aload_n hx hb dX10_judge_25 rfl (lv_at hl 0 rfl) ?_
    obtain ⟨b6, hb6, h⟩ := bR_e h
    refine r_getr hx hb hts (fun w h => List.mem_cons_of_mem _ (List.mem_append_right _ (h))) hown hK hd hk_a0 hb6 rfl fs_10_36 (hts (.fieldLink RX10 74 "LevelVotesModel" "bookHigh" "[I") (List.mem_of_getElem? (i := 4) rfl)) dX10_judge_26 (fun hq => ?_)
    have hk_b6 : kd b6 = 11 := hq
    refine lv_iload_n hx hb dX10_judge_29 rfl (lv_at hl 1 rfl) ?_
    obtain ⟨g7, h⟩ := gd_e h
    refine r_iald hx hb hK hd hk_b6 (ckb_in g7) dX10_judge_30 ?_
    refine lv_icmp_eq (tgt := 36) hx hb dX10_judge_31 (by decide) (fun q8 => ?_) (fun q8 => ?_)
    · have h := if_y q8 h
      refine lv_iinc (v := x1 + (1 : Int32)) (lv' := [(1, .int (x1 + (1 : Int32))), (0, .ref (z + a0))]) hx hb dX10_judge_36 hl (k := 1) rfl rfl (by decide) rfl (fun ls hl => ?_)
      refine lv_goto (tgt := 6) hx hb dX10_judge_39 (by decide) ?_
      exact hrc6 _ _ _ _ _ _ hk_a0 hd hS (lv_sub hl [1, 0] rfl) h
    · have h := if_n q8 h
      refine lv_iload_n hx hb dX10_judge_34 rfl (lv_at hl 1 rfl) ?_
      obtain ⟨rfl, rfl⟩ := so_e h
      exact rt_i hx hb hr hlk hd hS dX10_judge_35
def f_X10_judge_L6 : Nat → Mm → Nat → Int32 → Option (Int32 × Mm)
  | 0 => fun _ _ _ => none
  | n + 1 => fun μ a0 x1 => f_X10_judge_L6b (f_X10_judge_L6 n) μ a0 x1
theorem k_f_X10_judge_L6 {l : Launch} {D : va_G} {cA : Nat → ClassId} {z : Nat} {av : List Value} {p : Program} {e : Env} {s : State} {m : MethodId} {below : List Frame} {meth : Method} {c : Code} {r : Int32} {μ' : Mm} (X : Fx D cA RX10 wsX10_judge cX10_judge 2 (some .int) p s m av.toArray meth c) (n : Nat) : HL_X10_judge_6 l D cA z av r μ' p e s m below meth c (f_X10_judge_L6 n) := by
  induction n with
  | zero => intro _ _ _ _ _ _ _ _ _ _ h; have h2 : (none : Option _) = some _ := h; cases h2
  | succ n ih => intro μ H locs ls a0 x1 hk_a0 hd hS hl h; exact k_f_X10_judge_L6b X ih hk_a0 hd hS hl h
def f_X10_judge (μ : Mm) (a0 : Nat) : Option (Int32 × Mm) := bV (f_X10_lookNow μ a0) (fun μ1 => f_X10_judge_L6 FU μ1 a0 (0 : Int32))
set_option maxRecDepth 100000 in
theorem c_X10_judge {l : Launch} {D : va_G} {cA : Nat → ClassId} {z : Nat} {μ : Mm} {a0 : Nat} {r : Int32} {μ' : Mm} (hk_a0 : kd a0 = 10) (h : f_X10_judge μ a0 = some (r, μ')) : Ct l D cA z yX10_judge wsX10_judge 6 138 [.ref (z + a0)] μ (some (.int r)) μ' := by
  refine m_in (cc := cX10_judge) (maxL := 2) (ret := (some .int)) (own := RX10) (by decide) rfl rfl (Nat.le_of_ble_eq_true rfl) ?_
  intro p e s m below meth c ls X hd hS hl
  obtain ⟨hx, hb, hr, hlk, hml, hown, hts, hK⟩ := id X
  have hl : lv_has ls 2 [(0, .ref (z + a0))] := hl
  unfold f_X10_judge at h
  refine lv_aload_n hx hb dX10_judge_0 rfl (lv_at hl 0 rfl) ?_
  obtain ⟨μ1, hc3, h⟩ := bV_e h
  refine rc_Vv (rest := []) [] ⟨hx, hb, hml, hown, hts⟩ hK hd hS (c_X10_lookNow hk_a0 hc3) (cwV 0 hts gX10_judge_X10_lookNow rfl rfl rfl hv_X10_lookNow ⟨Nat.le_of_ble_eq_true rfl, Nat.le_of_ble_eq_true rfl⟩) hk_a0 rfl rfl rfl rfl hl.1 rfl (Nat.le_of_ble_eq_true rfl) dX10_judge_1 ⟨Nat.zero_le _, Nat.zero_le _⟩ (fun H locs hd hS => ?_)
  refine lv_iconst (v := 0) hx hb dX10_judge_4 (by decide) ?_
  refine lv_istore_n (lv' := [(1, .int (0 : Int32)), (0, .ref (z + a0))]) hx hb dX10_judge_5 rfl hl (by decide) rfl (fun ls hl => ?_)
  exact k_f_X10_judge_L6 X FU _ _ _ _ _ _ hk_a0 hd hS (lv_sub hl [1, 0] rfl) h
theorem hv_X10_seed : yX10_seed.cls = RX10 ∧ yX10_seed.cls ≠ "java/lang/invoke/MethodHandle" ∧ yX10_seed.cls ≠ "java/lang/invoke/VarHandle" ∧ (parseMethodDescriptor yX10_seed.desc).map (fun d => d.parameters.length) = some 1 := by decide +kernel
def f_X10_seed (μ : Mm) (a0 : Nat) (x1 : Int32) : Option (Int32 × Mm) := if 0 ≤ x1 then (bI (μ.1 a0 9) (fun v2 => bM (up2 μ.1 a0 9 x1, μ.2) (fun μ3 => some (v2, μ3)))) else (some ((-1000000002 : Int32), μ))
set_option maxRecDepth 100000 in
theorem c_X10_seed {l : Launch} {D : va_G} {cA : Nat → ClassId} {z : Nat} {μ : Mm} {a0 : Nat} {x1 : Int32} {r : Int32} {μ' : Mm} (hk_a0 : kd a0 = 10) (h : f_X10_seed μ a0 x1 = some (r, μ')) : Ct l D cA z yX10_seed wsX10_seed 0 0 [.ref (z + a0), .int x1] μ (some (.int r)) μ' := by
  refine m_in (cc := cX10_seed) (maxL := 3) (ret := (some .int)) (own := RX10) (by decide) rfl rfl (Nat.le_of_ble_eq_true rfl) ?_
  intro p e s m below meth c ls X hd hS hl
  obtain ⟨hx, hb, hr, hlk, hml, hown, hts, hK⟩ := id X
  have hl : lv_has ls 3 [(0, .ref (z + a0)), (1, .int x1)] := hl
  unfold f_X10_seed at h
  refine lv_iload_n hx hb dX10_seed_0 rfl (lv_at hl 1 rfl) ?_
  refine lv_if_ge (tgt := 7) hx hb dX10_seed_1 (by decide) (fun q1 => ?_) (fun q1 => ?_)
  · have h := if_y q1 h
    refine lv_aload_n hx hb dX10_seed_7 rfl (lv_at hl 0 rfl) ?_
    refine r_geti hx hb hts (fun w h => List.mem_cons_of_mem _ (List.mem_append_right _ (h))) hown hK hd hk_a0 rfl 9 fs_10_9 (hts (.fieldLink RX10 251 "LevelVotesModel" "seed" "I") (List.mem_of_getElem? (i := 2) rfl)) dX10_seed_8 ?_
    refine lv_topi (fun v2 ev2 => ?_)
    have h := bI_e ev2 h
    refine lv_istore_n (lv' := [(2, .int v2), (0, .ref (z + a0)), (1, .int x1)]) hx hb dX10_seed_11 rfl hl (by decide) rfl (fun ls hl => ?_)
    refine lv_aload_n hx hb dX10_seed_12 rfl (lv_at hl 1 rfl) ?_
    refine lv_iload_n hx hb dX10_seed_13 rfl (lv_at hl 2 rfl) ?_
    refine r_puti hx hb hts (fun w h => List.mem_cons_of_mem _ (List.mem_append_right _ (h))) tyX10 tyX10_ok nmX10 hown hK hd hS hk_a0 rfl 9 fs_10_9 rfl (hts (.fieldLink RX10 251 "LevelVotesModel" "seed" "I") (List.mem_of_getElem? (i := 2) rfl)) (vp_nar_int _) rfl dX10_seed_14 (fun μ3 eμ3 H locs hd hS => ?_)
    have h := bM_e eμ3 h
    refine lv_iload_n hx hb dX10_seed_17 rfl (lv_at hl 0 rfl) ?_
    obtain ⟨rfl, rfl⟩ := so_e h
    exact rt_i hx hb hr hlk hd hS dX10_seed_18
  · have h := if_n q1 h
    refine lv_ldc (v := -1000000002) hx hb hown (hts (.constant RX10 106 (-1000000002)) (List.mem_of_getElem? (i := 1) rfl)) dX10_seed_4 ?_
    obtain ⟨rfl, rfl⟩ := so_e h
    exact rt_i hx hb hr hlk hd hS dX10_seed_6
theorem hv_X10_keep : yX10_keep.cls = RX10 ∧ yX10_keep.cls ≠ "java/lang/invoke/MethodHandle" ∧ yX10_keep.cls ≠ "java/lang/invoke/VarHandle" ∧ (parseMethodDescriptor yX10_keep.desc).map (fun d => d.parameters.length) = some 1 := by decide +kernel
abbrev HL_X10_keep_15 (l : Launch) (D : va_G) (cA : Nat → ClassId) (z : Nat) (av : List Value) (r : Int32) (μ' : Mm) (p : Program) (e : Env) (s : State) (m : MethodId) (below : List Frame) (meth : Method) (c : Code) (rc : Mm → Nat → Int32 → Int32 → Option (Int32 × Mm)) : Prop := ∀ (μ : Mm) (H : Heap) (locs : List Loc) (ls : Array Slot) (a0 : Nat) (x1 : Int32) (x2 : Int32), kd a0 = 10 → Wd D cA z μ H → va_S (Az z) s.heap H locs → lv_has ls 3 [(0, .ref (z + a0)), (1, .int x1), (2, .int x2)] → rc μ a0 x1 x2 = some (r, μ') → WG l D cA z wsX10_keep 1 25 av (some (.int r)) μ' p e s m below meth c H locs (F0 m 15 ls [])
def f_X10_keep_L15b (rc15 : Mm → Nat → Int32 → Int32 → Option (Int32 × Mm)) (μ : Mm) (a0 : Nat) (x1 : Int32) (x2 : Int32) : Option (Int32 × Mm) := if (37 : Int32) ≤ x2 then (bR (μ.2 a0 37) (fun b2 => gd (ckb (((38 : Int32) * x1) + (37 : Int32)) (ln b2)) (bM (up2 μ.1 b2 (((38 : Int32) * x1) + (37 : Int32)).toNatClampNeg (μ.1 a0 9), μ.2) (fun μ4 => bR (μ4.2 a0 38) (fun b5 => gd (ckb x1 (ln b5)) (bM (up2 μ4.1 b5 (x1).toNatClampNeg (1 : Int32), μ4.2) (fun μ7 => bM (up2 μ7.1 a0 27 (0 : Int32), μ7.2) (fun μ8 => some ((1 : Int32), μ8))))))))) else (bR (μ.2 a0 37) (fun b9 => bR (μ.2 a0 8) (fun b10 => gd (ckb x2 (ln b10)) (gd (ckb (((38 : Int32) * x1) + x2) (ln b9)) (bM (up2 μ.1 b9 (((38 : Int32) * x1) + x2).toNatClampNeg (μ.1 b10 (x2).toNatClampNeg), μ.2) (fun μ13 => rc15 μ13 a0 x1 (x2 + (1 : Int32))))))))
set_option maxRecDepth 100000 in
theorem k_f_X10_keep_L15b {l : Launch} {D : va_G} {cA : Nat → ClassId} {z : Nat} {av : List Value} {p : Program} {e : Env} {s : State} {m : MethodId} {below : List Frame} {meth : Method} {c : Code} {r : Int32} {μ' : Mm} (X : Fx D cA RX10 wsX10_keep cX10_keep 3 (some .int) p s m av.toArray meth c) {rc15 : Mm → Nat → Int32 → Int32 → Option (Int32 × Mm)} (hrc15 : HL_X10_keep_15 l D cA z av r μ' p e s m below meth c rc15) {μ : Mm} {a0 : Nat} {x1 : Int32} {x2 : Int32} (hk_a0 : kd a0 = 10) {H : Heap} {locs : List Loc} {ls : Array Slot} (hd : Wd D cA z μ H) (hS : va_S (Az z) s.heap H locs) (hl : lv_has ls 3 [(0, .ref (z + a0)), (1, .int x1), (2, .int x2)]) (h : f_X10_keep_L15b rc15 μ a0 x1 x2 = some (r, μ')) : WG l D cA z wsX10_keep 1 25 av (some (.int r)) μ' p e s m below meth c H locs (F0 m 15 ls []) := by
  obtain ⟨hx, hb, hr, hlk, hml, hown, hts, hK⟩ := id X
  unfold f_X10_keep_L15b at h
  refine lv_iload_n hx hb dX10_keep_15 rfl (lv_at hl 2 rfl) ?_
  refine lv_bipush (v := 37) hx hb dX10_keep_16 (by decide) ?_
  refine lv_icmp_ge (tgt := 44) hx hb dX10_keep_18 (by decide) (fun q1 => ?_) (fun q1 => ?_)
  · have h := if_y q1 h
    refine lv_aload_n hx hb dX10_keep_44 rfl (lv_at hl 0 rfl) ?_
    obtain ⟨b2, hb2, h⟩ := bR_e h
    refine r_getr hx hb hts (fun w h => List.mem_cons_of_mem _ (List.mem_append_right _ (h))) hown hK hd hk_a0 hb2 rfl fs_10_37 (hts (.fieldLink RX10 77 "LevelVotesModel" "images" "[I") (List.mem_of_getElem? (i := 2) rfl)) dX10_keep_45 (fun hq => ?_)
    have hk_b2 : kd b2 = 11 := hq
    refine lv_bipush (v := 38) hx hb dX10_keep_48 (by decide) ?_
    refine lv_iload_n hx hb dX10_keep_50 rfl (lv_at hl 1 rfl) ?_
    refine lv_imul hx hb dX10_keep_51 ?_
    refine lv_bipush (v := 37) hx hb dX10_keep_52 (by decide) ?_
    refine lv_iadd hx hb dX10_keep_54 ?_
    refine lv_aload_n hx hb dX10_keep_55 rfl (lv_at hl 0 rfl) ?_
    refine r_geti hx hb hts (fun w h => List.mem_cons_of_mem _ (List.mem_append_right _ (h))) hown hK hd hk_a0 rfl 9 fs_10_9 (hts (.fieldLink RX10 251 "LevelVotesModel" "seed" "I") (List.mem_of_getElem? (i := 4) rfl)) dX10_keep_56 ?_
    obtain ⟨g3, h⟩ := gd_e h
    refine r_iast hx hb hK hd hS hk_b2 (ckb_in g3) dX10_keep_59 (fun μ4 eμ4 H locs hd hS => ?_)
    have h := bM_e eμ4 h
    refine lv_aload_n hx hb dX10_keep_60 rfl (lv_at hl 0 rfl) ?_
    obtain ⟨b5, hb5, h⟩ := bR_e h
    refine r_getr hx hb hts (fun w h => List.mem_cons_of_mem _ (List.mem_append_right _ (h))) hown hK hd hk_a0 hb5 rfl fs_10_38 (hts (.fieldLink RX10 80 "LevelVotesModel" "isKept" "[Z") (List.mem_of_getElem? (i := 5) rfl)) dX10_keep_61 (fun hq => ?_)
    have hk_b5 : kd b5 = 12 := hq
    refine lv_iload_n hx hb dX10_keep_64 rfl (lv_at hl 1 rfl) ?_
    refine lv_iconst (v := 1) hx hb dX10_keep_65 (by decide) ?_
    obtain ⟨g6, h⟩ := gd_e h
    refine r_zast hx hb hK hd hS hk_b5 (by decide) (ckb_in g6) dX10_keep_66 (fun μ7 eμ7 H locs hd hS => ?_)
    have h := bM_e eμ7 h
    refine lv_aload_n hx hb dX10_keep_67 rfl (lv_at hl 0 rfl) ?_
    refine lv_iconst (v := 0) hx hb dX10_keep_68 (by decide) ?_
    refine r_puti hx hb hts (fun w h => List.mem_cons_of_mem _ (List.mem_append_right _ (h))) tyX10 tyX10_ok nmX10 hown hK hd hS hk_a0 rfl 27 fs_10_27 rfl (hts (.fieldLink RX10 172 "LevelVotesModel" "undos" "I") (List.mem_of_getElem? (i := 6) rfl)) (vp_nar_int _) rfl dX10_keep_69 (fun μ8 eμ8 H locs hd hS => ?_)
    have h := bM_e eμ8 h
    refine lv_iconst (v := 1) hx hb dX10_keep_72 (by decide) ?_
    obtain ⟨rfl, rfl⟩ := so_e h
    exact rt_i hx hb hr hlk hd hS dX10_keep_73
  · have h := if_n q1 h
    refine lv_aload_n hx hb dX10_keep_21 rfl (lv_at hl 0 rfl) ?_
    obtain ⟨b9, hb9, h⟩ := bR_e h
    refine r_getr hx hb hts (fun w h => List.mem_cons_of_mem _ (List.mem_append_right _ (h))) hown hK hd hk_a0 hb9 rfl fs_10_37 (hts (.fieldLink RX10 77 "LevelVotesModel" "images" "[I") (List.mem_of_getElem? (i := 2) rfl)) dX10_keep_22 (fun hq => ?_)
    have hk_b9 : kd b9 = 11 := hq
    refine lv_bipush (v := 38) hx hb dX10_keep_25 (by decide) ?_
    refine lv_iload_n hx hb dX10_keep_27 rfl (lv_at hl 1 rfl) ?_
    refine lv_imul hx hb dX10_keep_28 ?_
    refine lv_iload_n hx hb dX10_keep_29 rfl (lv_at hl 2 rfl) ?_
    refine lv_iadd hx hb dX10_keep_30 ?_
    refine lv_aload_n hx hb dX10_keep_31 rfl (lv_at hl 0 rfl) ?_
    obtain ⟨b10, hb10, h⟩ := bR_e h
    refine r_getr hx hb hts (fun w h => List.mem_cons_of_mem _ (List.mem_append_right _ (h))) hown hK hd hk_a0 hb10 rfl fs_10_8 (hts (.fieldLink RX10 22 "LevelVotesModel" "now" "[I") (List.mem_of_getElem? (i := 3) rfl)) dX10_keep_32 (fun hq => ?_)
    have hk_b10 : kd b10 = 11 := hq
    refine lv_iload_n hx hb dX10_keep_35 rfl (lv_at hl 2 rfl) ?_
    obtain ⟨g11, h⟩ := gd_e h
    refine r_iald hx hb hK hd hk_b10 (ckb_in g11) dX10_keep_36 ?_
    obtain ⟨g12, h⟩ := gd_e h
    refine r_iast hx hb hK hd hS hk_b9 (ckb_in g12) dX10_keep_37 (fun μ13 eμ13 H locs hd hS => ?_)
    have h := bM_e eμ13 h
    refine lv_iinc (v := x2 + (1 : Int32)) (lv' := [(2, .int (x2 + (1 : Int32))), (0, .ref (z + a0)), (1, .int x1)]) hx hb dX10_keep_38 hl (k := 2) rfl rfl (by decide) rfl (fun ls hl => ?_)
    refine lv_goto (tgt := 15) hx hb dX10_keep_41 (by decide) ?_
    exact hrc15 _ _ _ _ _ _ _ hk_a0 hd hS (lv_sub hl [1, 2, 0] rfl) h
def f_X10_keep_L15 : Nat → Mm → Nat → Int32 → Int32 → Option (Int32 × Mm)
  | 0 => fun _ _ _ _ => none
  | n + 1 => fun μ a0 x1 x2 => f_X10_keep_L15b (f_X10_keep_L15 n) μ a0 x1 x2
theorem k_f_X10_keep_L15 {l : Launch} {D : va_G} {cA : Nat → ClassId} {z : Nat} {av : List Value} {p : Program} {e : Env} {s : State} {m : MethodId} {below : List Frame} {meth : Method} {c : Code} {r : Int32} {μ' : Mm} (X : Fx D cA RX10 wsX10_keep cX10_keep 3 (some .int) p s m av.toArray meth c) (n : Nat) : HL_X10_keep_15 l D cA z av r μ' p e s m below meth c (f_X10_keep_L15 n) := by
  induction n with
  | zero => intro _ _ _ _ _ _ _ _ _ _ _ h; have h2 : (none : Option _) = some _ := h; cases h2
  | succ n ih => intro μ H locs ls a0 x1 x2 hk_a0 hd hS hl h; exact k_f_X10_keep_L15b X ih hk_a0 hd hS hl h
def f_X10_keep (μ : Mm) (a0 : Nat) (x1 : Int32) : Option (Int32 × Mm) := bC (f_X10_in μ (x1.toInt64) (0 : Int64) (1 : Int64)) (fun r2 μ1 => if r2 = 0 then (some ((-1000000001 : Int32), μ1)) else (f_X10_keep_L15 FU μ1 a0 x1 (0 : Int32)))
set_option maxRecDepth 100000 in
theorem c_X10_keep {l : Launch} {D : va_G} {cA : Nat → ClassId} {z : Nat} {μ : Mm} {a0 : Nat} {x1 : Int32} {r : Int32} {μ' : Mm} (hk_a0 : kd a0 = 10) (h : f_X10_keep μ a0 x1 = some (r, μ')) : Ct l D cA z yX10_keep wsX10_keep 1 25 [.ref (z + a0), .int x1] μ (some (.int r)) μ' := by
  refine m_in (cc := cX10_keep) (maxL := 3) (ret := (some .int)) (own := RX10) (by decide) rfl rfl (Nat.le_of_ble_eq_true rfl) ?_
  intro p e s m below meth c ls X hd hS hl
  obtain ⟨hx, hb, hr, hlk, hml, hown, hts, hK⟩ := id X
  have hl : lv_has ls 3 [(0, .ref (z + a0)), (1, .int x1)] := hl
  unfold f_X10_keep at h
  refine lv_iload_n hx hb dX10_keep_0 rfl (lv_at hl 1 rfl) ?_
  refine lv_i2l hx hb dX10_keep_1 rfl ?_
  refine lv_lconst (v := 0) hx hb dX10_keep_2 (by decide) ?_
  refine lv_lconst (v := 1) hx hb dX10_keep_3 (by decide) ?_
  obtain ⟨r2, μ1, hc3, h⟩ := bC_e h
  refine rc_Si (rest := []) [.long (x1.toInt64), .long (0 : Int64), .long (1 : Int64)] ⟨hx, hb, hml, hown, hts⟩ hK hd hS (c_X10_in  hc3) (va_cwS 3 hts gX10_keep_X10_in rfl rfl rfl hn_X10_in ⟨Nat.le_of_ble_eq_true rfl, Nat.le_of_ble_eq_true rfl⟩) rfl hl.1 rfl (Nat.le_of_ble_eq_true rfl) dX10_keep_4 ⟨Nat.zero_le _, Nat.zero_le _⟩ (fun H locs hd hS => ?_)
  refine lv_if_ne (tgt := 13) hx hb dX10_keep_7 (by decide) (fun q4 => ?_) (fun q4 => ?_)
  · have h := if_n q4 h
    refine lv_iconst (v := 0) hx hb dX10_keep_13 (by decide) ?_
    refine lv_istore_n (lv' := [(2, .int (0 : Int32)), (0, .ref (z + a0)), (1, .int x1)]) hx hb dX10_keep_14 rfl hl (by decide) rfl (fun ls hl => ?_)
    exact k_f_X10_keep_L15 X FU _ _ _ _ _ _ _ hk_a0 hd hS (lv_sub hl [1, 2, 0] rfl) h
  · have h := if_y q4 h
    refine lv_ldc (v := -1000000001) hx hb hown (hts (.constant RX10 226 (-1000000001)) (List.mem_of_getElem? (i := 1) rfl)) dX10_keep_10 ?_
    obtain ⟨rfl, rfl⟩ := so_e h
    exact rt_i hx hb hr hlk hd hS dX10_keep_12
theorem hv_X10_goBack : yX10_goBack.cls = RX10 ∧ yX10_goBack.cls ≠ "java/lang/invoke/MethodHandle" ∧ yX10_goBack.cls ≠ "java/lang/invoke/VarHandle" ∧ (parseMethodDescriptor yX10_goBack.desc).map (fun d => d.parameters.length) = some 1 := by decide +kernel
abbrev HL_X10_goBack_27 (l : Launch) (D : va_G) (cA : Nat → ClassId) (z : Nat) (av : List Value) (r : Int32) (μ' : Mm) (p : Program) (e : Env) (s : State) (m : MethodId) (below : List Frame) (meth : Method) (c : Code) (rc : Mm → Nat → Int32 → Int32 → Option (Int32 × Mm)) : Prop := ∀ (μ : Mm) (H : Heap) (locs : List Loc) (ls : Array Slot) (a0 : Nat) (x1 : Int32) (x2 : Int32), kd a0 = 10 → Wd D cA z μ H → va_S (Az z) s.heap H locs → lv_has ls 3 [(0, .ref (z + a0)), (1, .int x1), (2, .int x2)] → rc μ a0 x1 x2 = some (r, μ') → WG l D cA z wsX10_goBack 1 25 av (some (.int r)) μ' p e s m below meth c H locs (F0 m 27 ls [])
def f_X10_goBack_L27b (rc27 : Mm → Nat → Int32 → Int32 → Option (Int32 × Mm)) (μ : Mm) (a0 : Nat) (x1 : Int32) (x2 : Int32) : Option (Int32 × Mm) := if (37 : Int32) ≤ x2 then (bR (μ.2 a0 37) (fun b2 => gd (ckb (((38 : Int32) * x1) + (37 : Int32)) (ln b2)) (bM (up2 μ.1 a0 9 (μ.1 b2 (((38 : Int32) * x1) + (37 : Int32)).toNatClampNeg), μ.2) (fun μ4 => bM (up2 μ4.1 a0 27 (0 : Int32), μ4.2) (fun μ5 => some ((1 : Int32), μ5)))))) else (bR (μ.2 a0 8) (fun b6 => bR (μ.2 a0 37) (fun b7 => gd (ckb (((38 : Int32) * x1) + x2) (ln b7)) (gd (ckb x2 (ln b6)) (bM (up2 μ.1 b6 (x2).toNatClampNeg (μ.1 b7 (((38 : Int32) * x1) + x2).toNatClampNeg), μ.2) (fun μ10 => rc27 μ10 a0 x1 (x2 + (1 : Int32))))))))
set_option maxRecDepth 100000 in
theorem k_f_X10_goBack_L27b {l : Launch} {D : va_G} {cA : Nat → ClassId} {z : Nat} {av : List Value} {p : Program} {e : Env} {s : State} {m : MethodId} {below : List Frame} {meth : Method} {c : Code} {r : Int32} {μ' : Mm} (X : Fx D cA RX10 wsX10_goBack cX10_goBack 3 (some .int) p s m av.toArray meth c) {rc27 : Mm → Nat → Int32 → Int32 → Option (Int32 × Mm)} (hrc27 : HL_X10_goBack_27 l D cA z av r μ' p e s m below meth c rc27) {μ : Mm} {a0 : Nat} {x1 : Int32} {x2 : Int32} (hk_a0 : kd a0 = 10) {H : Heap} {locs : List Loc} {ls : Array Slot} (hd : Wd D cA z μ H) (hS : va_S (Az z) s.heap H locs) (hl : lv_has ls 3 [(0, .ref (z + a0)), (1, .int x1), (2, .int x2)]) (h : f_X10_goBack_L27b rc27 μ a0 x1 x2 = some (r, μ')) : WG l D cA z wsX10_goBack 1 25 av (some (.int r)) μ' p e s m below meth c H locs (F0 m 27 ls []) := by
  obtain ⟨hx, hb, hr, hlk, hml, hown, hts, hK⟩ := id X
  unfold f_X10_goBack_L27b at h
  refine lv_iload_n hx hb dX10_goBack_27 rfl (lv_at hl 2 rfl) ?_
  refine lv_bipush (v := 37) hx hb dX10_goBack_28 (by decide) ?_
  refine lv_icmp_ge (tgt := 56) hx hb dX10_goBack_30 (by decide) (fun q1 => ?_) (fun q1 => ?_)
  · have h := if_y q1 h
    refine lv_aload_n hx hb dX10_goBack_56 rfl (lv_at hl 0 rfl) ?_
    refine lv_aload_n hx hb dX10_goBack_57 rfl (lv_at hl 0 rfl) ?_
    obtain ⟨b2, hb2, h⟩ := bR_e h
    refine r_getr hx hb hts (fun w h => List.mem_cons_of_mem _ (List.mem_append_right _ (h))) hown hK hd hk_a0 hb2 rfl fs_10_37 (hts (.fieldLink RX10 77 "LevelVotesModel" "images" "[I") (List.mem_of_getElem? (i := 5) rfl)) dX10_goBack_58 (fun hq => ?_)
    have hk_b2 : kd b2 = 11 := hq
    refine lv_bipush (v := 38) hx hb dX10_goBack_61 (by decide) ?_
    refine lv_iload_n hx hb dX10_goBack_63 rfl (lv_at hl 1 rfl) ?_
    refine lv_imul hx hb dX10_goBack_64 ?_
    refine lv_bipush (v := 37) hx hb dX10_goBack_65 (by decide) ?_
    refine lv_iadd hx hb dX10_goBack_67 ?_
    obtain ⟨g3, h⟩ := gd_e h
    refine r_iald hx hb hK hd hk_b2 (ckb_in g3) dX10_goBack_68 ?_
    refine r_puti hx hb hts (fun w h => List.mem_cons_of_mem _ (List.mem_append_right _ (h))) tyX10 tyX10_ok nmX10 hown hK hd hS hk_a0 rfl 9 fs_10_9 rfl (hts (.fieldLink RX10 251 "LevelVotesModel" "seed" "I") (List.mem_of_getElem? (i := 6) rfl)) (vp_nar_int _) rfl dX10_goBack_69 (fun μ4 eμ4 H locs hd hS => ?_)
    have h := bM_e eμ4 h
    refine lv_aload_n hx hb dX10_goBack_72 rfl (lv_at hl 0 rfl) ?_
    refine lv_iconst (v := 0) hx hb dX10_goBack_73 (by decide) ?_
    refine r_puti hx hb hts (fun w h => List.mem_cons_of_mem _ (List.mem_append_right _ (h))) tyX10 tyX10_ok nmX10 hown hK hd hS hk_a0 rfl 27 fs_10_27 rfl (hts (.fieldLink RX10 172 "LevelVotesModel" "undos" "I") (List.mem_of_getElem? (i := 7) rfl)) (vp_nar_int _) rfl dX10_goBack_74 (fun μ5 eμ5 H locs hd hS => ?_)
    have h := bM_e eμ5 h
    refine lv_iconst (v := 1) hx hb dX10_goBack_77 (by decide) ?_
    obtain ⟨rfl, rfl⟩ := so_e h
    exact rt_i hx hb hr hlk hd hS dX10_goBack_78
  · have h := if_n q1 h
    refine lv_aload_n hx hb dX10_goBack_33 rfl (lv_at hl 0 rfl) ?_
    obtain ⟨b6, hb6, h⟩ := bR_e h
    refine r_getr hx hb hts (fun w h => List.mem_cons_of_mem _ (List.mem_append_right _ (h))) hown hK hd hk_a0 hb6 rfl fs_10_8 (hts (.fieldLink RX10 22 "LevelVotesModel" "now" "[I") (List.mem_of_getElem? (i := 4) rfl)) dX10_goBack_34 (fun hq => ?_)
    have hk_b6 : kd b6 = 11 := hq
    refine lv_iload_n hx hb dX10_goBack_37 rfl (lv_at hl 2 rfl) ?_
    refine lv_aload_n hx hb dX10_goBack_38 rfl (lv_at hl 0 rfl) ?_
    obtain ⟨b7, hb7, h⟩ := bR_e h
    refine r_getr hx hb hts (fun w h => List.mem_cons_of_mem _ (List.mem_append_right _ (h))) hown hK hd hk_a0 hb7 rfl fs_10_37 (hts (.fieldLink RX10 77 "LevelVotesModel" "images" "[I") (List.mem_of_getElem? (i := 5) rfl)) dX10_goBack_39 (fun hq => ?_)
    have hk_b7 : kd b7 = 11 := hq
    refine lv_bipush (v := 38) hx hb dX10_goBack_42 (by decide) ?_
    refine lv_iload_n hx hb dX10_goBack_44 rfl (lv_at hl 1 rfl) ?_
    refine lv_imul hx hb dX10_goBack_45 ?_
    refine lv_iload_n hx hb dX10_goBack_46 rfl (lv_at hl 2 rfl) ?_
    refine lv_iadd hx hb dX10_goBack_47 ?_
    obtain ⟨g8, h⟩ := gd_e h
    refine r_iald hx hb hK hd hk_b7 (ckb_in g8) dX10_goBack_48 ?_
    obtain ⟨g9, h⟩ := gd_e h
    refine r_iast hx hb hK hd hS hk_b6 (ckb_in g9) dX10_goBack_49 (fun μ10 eμ10 H locs hd hS => ?_)
    have h := bM_e eμ10 h
    refine lv_iinc (v := x2 + (1 : Int32)) (lv' := [(2, .int (x2 + (1 : Int32))), (0, .ref (z + a0)), (1, .int x1)]) hx hb dX10_goBack_50 hl (k := 2) rfl rfl (by decide) rfl (fun ls hl => ?_)
    refine lv_goto (tgt := 27) hx hb dX10_goBack_53 (by decide) ?_
    exact hrc27 _ _ _ _ _ _ _ hk_a0 hd hS (lv_sub hl [1, 2, 0] rfl) h
def f_X10_goBack_L27 : Nat → Mm → Nat → Int32 → Int32 → Option (Int32 × Mm)
  | 0 => fun _ _ _ _ => none
  | n + 1 => fun μ a0 x1 x2 => f_X10_goBack_L27b (f_X10_goBack_L27 n) μ a0 x1 x2
theorem k_f_X10_goBack_L27 {l : Launch} {D : va_G} {cA : Nat → ClassId} {z : Nat} {av : List Value} {p : Program} {e : Env} {s : State} {m : MethodId} {below : List Frame} {meth : Method} {c : Code} {r : Int32} {μ' : Mm} (X : Fx D cA RX10 wsX10_goBack cX10_goBack 3 (some .int) p s m av.toArray meth c) (n : Nat) : HL_X10_goBack_27 l D cA z av r μ' p e s m below meth c (f_X10_goBack_L27 n) := by
  induction n with
  | zero => intro _ _ _ _ _ _ _ _ _ _ _ h; have h2 : (none : Option _) = some _ := h; cases h2
  | succ n ih => intro μ H locs ls a0 x1 x2 hk_a0 hd hS hl h; exact k_f_X10_goBack_L27b X ih hk_a0 hd hS hl h
def f_X10_goBack (μ : Mm) (a0 : Nat) (x1 : Int32) : Option (Int32 × Mm) := bC (f_X10_in μ (x1.toInt64) (0 : Int64) (1 : Int64)) (fun r2 μ1 => if r2 = 0 then (some ((-1000000001 : Int32), μ1)) else (bR (μ1.2 a0 38) (fun b5 => gd (ckb x1 (ln b5)) (if (μ1.1 b5 (x1).toNatClampNeg) = 0 then (some ((-1000000003 : Int32), μ1)) else (f_X10_goBack_L27 FU μ1 a0 x1 (0 : Int32))))))
set_option maxRecDepth 100000 in
theorem c_X10_goBack {l : Launch} {D : va_G} {cA : Nat → ClassId} {z : Nat} {μ : Mm} {a0 : Nat} {x1 : Int32} {r : Int32} {μ' : Mm} (hk_a0 : kd a0 = 10) (h : f_X10_goBack μ a0 x1 = some (r, μ')) : Ct l D cA z yX10_goBack wsX10_goBack 1 25 [.ref (z + a0), .int x1] μ (some (.int r)) μ' := by
  refine m_in (cc := cX10_goBack) (maxL := 3) (ret := (some .int)) (own := RX10) (by decide) rfl rfl (Nat.le_of_ble_eq_true rfl) ?_
  intro p e s m below meth c ls X hd hS hl
  obtain ⟨hx, hb, hr, hlk, hml, hown, hts, hK⟩ := id X
  have hl : lv_has ls 3 [(0, .ref (z + a0)), (1, .int x1)] := hl
  unfold f_X10_goBack at h
  refine lv_iload_n hx hb dX10_goBack_0 rfl (lv_at hl 1 rfl) ?_
  refine lv_i2l hx hb dX10_goBack_1 rfl ?_
  refine lv_lconst (v := 0) hx hb dX10_goBack_2 (by decide) ?_
  refine lv_lconst (v := 1) hx hb dX10_goBack_3 (by decide) ?_
  obtain ⟨r2, μ1, hc3, h⟩ := bC_e h
  refine rc_Si (rest := []) [.long (x1.toInt64), .long (0 : Int64), .long (1 : Int64)] ⟨hx, hb, hml, hown, hts⟩ hK hd hS (c_X10_in  hc3) (va_cwS 3 hts gX10_goBack_X10_in rfl rfl rfl hn_X10_in ⟨Nat.le_of_ble_eq_true rfl, Nat.le_of_ble_eq_true rfl⟩) rfl hl.1 rfl (Nat.le_of_ble_eq_true rfl) dX10_goBack_4 ⟨Nat.zero_le _, Nat.zero_le _⟩ (fun H locs hd hS => ?_)
  refine lv_if_ne (tgt := 13) hx hb dX10_goBack_7 (by decide) (fun q4 => ?_) (fun q4 => ?_)
  · have h := if_n q4 h
    refine lv_aload_n hx hb dX10_goBack_13 rfl (lv_at hl 0 rfl) ?_
    obtain ⟨b5, hb5, h⟩ := bR_e h
    refine r_getr hx hb hts (fun w h => List.mem_cons_of_mem _ (List.mem_append_right _ (h))) hown hK hd hk_a0 hb5 rfl fs_10_38 (hts (.fieldLink RX10 80 "LevelVotesModel" "isKept" "[Z") (List.mem_of_getElem? (i := 2) rfl)) dX10_goBack_14 (fun hq => ?_)
    have hk_b5 : kd b5 = 12 := hq
    refine lv_iload_n hx hb dX10_goBack_17 rfl (lv_at hl 1 rfl) ?_
    obtain ⟨g6, h⟩ := gd_e h
    refine r_zald hx hb hK hd hk_b5 (ckb_in g6) dX10_goBack_18 ?_
    refine lv_if_ne (tgt := 25) hx hb dX10_goBack_19 (by decide) (fun q7 => ?_) (fun q7 => ?_)
    · have h := if_n q7 h
      refine lv_iconst (v := 0) hx hb dX10_goBack_25 (by decide) ?_
      refine lv_istore_n (lv' := [(2, .int (0 : Int32)), (0, .ref (z + a0)), (1, .int x1)]) hx hb dX10_goBack_26 rfl hl (by decide) rfl (fun ls hl => ?_)
      exact k_f_X10_goBack_L27 X FU _ _ _ _ _ _ _ hk_a0 hd hS (lv_sub hl [1, 2, 0] rfl) h
    · have h := if_y q7 h
      refine lv_ldc (v := -1000000003) hx hb hown (hts (.constant RX10 247 (-1000000003)) (List.mem_of_getElem? (i := 3) rfl)) dX10_goBack_22 ?_
      obtain ⟨rfl, rfl⟩ := so_e h
      exact rt_i hx hb hr hlk hd hS dX10_goBack_24
  · have h := if_y q4 h
    refine lv_ldc (v := -1000000001) hx hb hown (hts (.constant RX10 226 (-1000000001)) (List.mem_of_getElem? (i := 1) rfl)) dX10_goBack_10 ?_
    obtain ⟨rfl, rfl⟩ := so_e h
    exact rt_i hx hb hr hlk hd hS dX10_goBack_12
