theorem hv_X10_takeRead : yX10_takeRead.cls = RX10 ∧ yX10_takeRead.cls ≠ "java/lang/invoke/MethodHandle" ∧ yX10_takeRead.cls ≠ "java/lang/invoke/VarHandle" ∧ (parseMethodDescriptor yX10_takeRead.desc).map (fun d => d.parameters.length) = some 0 := by decide +kernel
abbrev HL_X10_takeRead_38 (l : Launch) (D : va_G) (cA : Nat → ClassId) (z : Nat) (av : List Value) (μ' : Mm) (p : Program) (e : Env) (s : State) (m : MethodId) (below : List Frame) (meth : Method) (c : Code) (rc : Mm → Nat → Int32 → Option Mm) : Prop := ∀ (μ : Mm) (H : Heap) (locs : List Loc) (ls : Array Slot) (a0 : Nat) (x1 : Int32), kd a0 = 10 → Wd D cA z μ H → va_S (Az z) s.heap H locs → lv_has ls 2 [(0, .ref (z + a0)), (1, .int x1)] → rc μ a0 x1 = some μ' → WG l D cA z wsX10_takeRead 0 0 av none μ' p e s m below meth c H locs (F0 m 38 ls [])
abbrev HL_X10_takeRead_80 (l : Launch) (D : va_G) (cA : Nat → ClassId) (z : Nat) (av : List Value) (μ' : Mm) (p : Program) (e : Env) (s : State) (m : MethodId) (below : List Frame) (meth : Method) (c : Code) (rc : Mm → Nat → Int32 → Option Mm) : Prop := ∀ (μ : Mm) (H : Heap) (locs : List Loc) (ls : Array Slot) (a0 : Nat) (x1 : Int32), kd a0 = 10 → Wd D cA z μ H → va_S (Az z) s.heap H locs → lv_has ls 2 [(0, .ref (z + a0)), (1, .int x1)] → rc μ a0 x1 = some μ' → WG l D cA z wsX10_takeRead 0 0 av none μ' p e s m below meth c H locs (F0 m 80 ls [])
abbrev HL_X10_takeRead_132 (l : Launch) (D : va_G) (cA : Nat → ClassId) (z : Nat) (av : List Value) (μ' : Mm) (p : Program) (e : Env) (s : State) (m : MethodId) (below : List Frame) (meth : Method) (c : Code) (rc : Mm → Nat → Int32 → Option Mm) : Prop := ∀ (μ : Mm) (H : Heap) (locs : List Loc) (ls : Array Slot) (a0 : Nat) (x1 : Int32), kd a0 = 10 → Wd D cA z μ H → va_S (Az z) s.heap H locs → lv_has ls 2 [(0, .ref (z + a0)), (1, .int x1)] → rc μ a0 x1 = some μ' → WG l D cA z wsX10_takeRead 0 0 av none μ' p e s m below meth c H locs (F0 m 132 ls [])
def f_X10_takeRead_j163 (rc132 : Mm → Nat → Int32 → Option Mm) (μ : Mm) (a0 : Nat) (x1 : Int32) (ys0 : Int32) (ys1 : Int32) (bs2 : Nat) : Option Mm := gd (ckb ys1 (ln bs2)) (bM (up2 μ.1 bs2 (ys1).toNatClampNeg ys0, μ.2) (fun μ2 => rc132 μ2 a0 (x1 + (1 : Int32))))
set_option maxRecDepth 100000 in
theorem k_f_X10_takeRead_j163 {l : Launch} {D : va_G} {cA : Nat → ClassId} {z : Nat} {av : List Value} {p : Program} {e : Env} {s : State} {m : MethodId} {below : List Frame} {meth : Method} {c : Code} {μ' : Mm} (X : Fx D cA RX10 wsX10_takeRead cX10_takeRead 2 none p s m av.toArray meth c) {rc132 : Mm → Nat → Int32 → Option Mm} (hrc132 : HL_X10_takeRead_132 l D cA z av μ' p e s m below meth c rc132) {μ : Mm} {a0 : Nat} {x1 : Int32} {ys0 : Int32} {ys1 : Int32} {bs2 : Nat} (hk_a0 : kd a0 = 10) (hk_bs2 : kd bs2 = 11) {H : Heap} {locs : List Loc} {ls : Array Slot} (hd : Wd D cA z μ H) (hS : va_S (Az z) s.heap H locs) (hl : lv_has ls 2 [(0, .ref (z + a0)), (1, .int x1)]) (h : f_X10_takeRead_j163 rc132 μ a0 x1 ys0 ys1 bs2 = some μ') : WG l D cA z wsX10_takeRead 0 0 av none μ' p e s m below meth c H locs (F0 m 163 ls [.int ys0, .int ys1, .ref (z + bs2)]) := by
  obtain ⟨hx, hb, hr, hlk, hml, hown, hts, hK⟩ := id X
  unfold f_X10_takeRead_j163 at h
  obtain ⟨g1, h⟩ := gd_e h
  refine r_iast hx hb hK hd hS hk_bs2 (ckb_in g1) dX10_takeRead_163 (fun μ2 eμ2 H locs hd hS => ?_)
  have h := bM_e eμ2 h
  refine lv_iinc (v := x1 + (1 : Int32)) (lv' := [(1, .int (x1 + (1 : Int32))), (0, .ref (z + a0))]) hx hb dX10_takeRead_164 hl (k := 1) rfl rfl (by decide) rfl (fun ls hl => ?_)
  refine lv_goto (tgt := 132) hx hb dX10_takeRead_167 (by decide) ?_
  exact hrc132 _ _ _ _ _ _ hk_a0 hd hS (lv_sub hl [1, 0] rfl) h
def f_X10_takeRead_L132b (rc132 : Mm → Nat → Int32 → Option Mm) (μ : Mm) (a0 : Nat) (x1 : Int32) : Option Mm := if (35 : Int32) ≤ x1 then (bR (μ.2 a0 8) (fun b2 => gd (ckb (35 : Int32) (ln b2)) (bM (up2 μ.1 b2 ((35 : Int32)).toNatClampNeg (0 : Int32), μ.2) (fun μ4 => bR (μ4.2 a0 8) (fun b5 => gd (ckb (36 : Int32) (ln b5)) (bM (up2 μ4.1 b5 ((36 : Int32)).toNatClampNeg (-1 : Int32), μ4.2) (fun μ7 => some μ7))))))) else (bR (μ.2 a0 8) (fun b8 => if (μ.1 a0 7) ≤ (x1 / (5 : Int32)) then (f_X10_takeRead_j163 rc132 μ a0 x1 (0 : Int32) x1 b8) else (bR (μ.2 a0 24) (fun b10 => gd (ckb x1 (ln b10)) (f_X10_takeRead_j163 rc132 μ a0 x1 (μ.1 b10 (x1).toNatClampNeg) x1 b8)))))
set_option maxRecDepth 100000 in
theorem k_f_X10_takeRead_L132b {l : Launch} {D : va_G} {cA : Nat → ClassId} {z : Nat} {av : List Value} {p : Program} {e : Env} {s : State} {m : MethodId} {below : List Frame} {meth : Method} {c : Code} {μ' : Mm} (X : Fx D cA RX10 wsX10_takeRead cX10_takeRead 2 none p s m av.toArray meth c) {rc132 : Mm → Nat → Int32 → Option Mm} (hrc132 : HL_X10_takeRead_132 l D cA z av μ' p e s m below meth c rc132) {μ : Mm} {a0 : Nat} {x1 : Int32} (hk_a0 : kd a0 = 10) {H : Heap} {locs : List Loc} {ls : Array Slot} (hd : Wd D cA z μ H) (hS : va_S (Az z) s.heap H locs) (hl : lv_has ls 2 [(0, .ref (z + a0)), (1, .int x1)]) (h : f_X10_takeRead_L132b rc132 μ a0 x1 = some μ') : WG l D cA z wsX10_takeRead 0 0 av none μ' p e s m below meth c H locs (F0 m 132 ls []) := by
  obtain ⟨hx, hb, hr, hlk, hml, hown, hts, hK⟩ := id X
  unfold f_X10_takeRead_L132b at h
  refine lv_iload_n hx hb dX10_takeRead_132 rfl (lv_at hl 1 rfl) ?_
  refine lv_bipush (v := 35) hx hb dX10_takeRead_133 (by decide) ?_
  refine lv_icmp_ge (tgt := 170) hx hb dX10_takeRead_135 (by decide) (fun q1 => ?_) (fun q1 => ?_)
  · have h := if_y q1 h
    refine lv_aload_n hx hb dX10_takeRead_170 rfl (lv_at hl 0 rfl) ?_
    obtain ⟨b2, hb2, h⟩ := bR_e h
    refine r_getr hx hb hts (fun w h => List.mem_cons_of_mem _ (List.mem_append_right _ (h))) hown hK hd hk_a0 hb2 rfl fs_10_8 (hts (.fieldLink RX10 22 "LevelVotesModel" "now" "[I") (List.mem_of_getElem? (i := 17) rfl)) dX10_takeRead_171 (fun hq => ?_)
    have hk_b2 : kd b2 = 11 := hq
    refine lv_bipush (v := 35) hx hb dX10_takeRead_174 (by decide) ?_
    refine lv_iconst (v := 0) hx hb dX10_takeRead_176 (by decide) ?_
    obtain ⟨g3, h⟩ := gd_e h
    refine r_iast hx hb hK hd hS hk_b2 (ckb_in g3) dX10_takeRead_177 (fun μ4 eμ4 H locs hd hS => ?_)
    have h := bM_e eμ4 h
    refine lv_aload_n hx hb dX10_takeRead_178 rfl (lv_at hl 0 rfl) ?_
    obtain ⟨b5, hb5, h⟩ := bR_e h
    refine r_getr hx hb hts (fun w h => List.mem_cons_of_mem _ (List.mem_append_right _ (h))) hown hK hd hk_a0 hb5 rfl fs_10_8 (hts (.fieldLink RX10 22 "LevelVotesModel" "now" "[I") (List.mem_of_getElem? (i := 17) rfl)) dX10_takeRead_179 (fun hq => ?_)
    have hk_b5 : kd b5 = 11 := hq
    refine lv_bipush (v := 36) hx hb dX10_takeRead_182 (by decide) ?_
    refine lv_iconst (v := -1) hx hb dX10_takeRead_184 (by decide) ?_
    obtain ⟨g6, h⟩ := gd_e h
    refine r_iast hx hb hK hd hS hk_b5 (ckb_in g6) dX10_takeRead_185 (fun μ7 eμ7 H locs hd hS => ?_)
    have h := bM_e eμ7 h
    obtain rfl := sv_e h
    exact rt_v hx hb hr hlk hd hS dX10_takeRead_186
  · have h := if_n q1 h
    refine lv_aload_n hx hb dX10_takeRead_138 rfl (lv_at hl 0 rfl) ?_
    obtain ⟨b8, hb8, h⟩ := bR_e h
    refine r_getr hx hb hts (fun w h => List.mem_cons_of_mem _ (List.mem_append_right _ (h))) hown hK hd hk_a0 hb8 rfl fs_10_8 (hts (.fieldLink RX10 22 "LevelVotesModel" "now" "[I") (List.mem_of_getElem? (i := 17) rfl)) dX10_takeRead_139 (fun hq => ?_)
    have hk_b8 : kd b8 = 11 := hq
    refine lv_iload_n hx hb dX10_takeRead_142 rfl (lv_at hl 1 rfl) ?_
    refine lv_iload_n hx hb dX10_takeRead_143 rfl (lv_at hl 1 rfl) ?_
    refine lv_iconst (v := 5) hx hb dX10_takeRead_144 (by decide) ?_
    refine lv_idiv hx hb dX10_takeRead_145 (by decide) ?_
    refine lv_aload_n hx hb dX10_takeRead_146 rfl (lv_at hl 0 rfl) ?_
    refine r_geti hx hb hts (fun w h => List.mem_cons_of_mem _ (List.mem_append_right _ (h))) hown hK hd hk_a0 rfl 7 fs_10_7 (hts (.fieldLink RX10 101 "LevelVotesModel" "persons" "I") (List.mem_of_getElem? (i := 7) rfl)) dX10_takeRead_147 ?_
    refine lv_icmp_ge (tgt := 162) hx hb dX10_takeRead_150 (by decide) (fun q9 => ?_) (fun q9 => ?_)
    · have h := if_y q9 h
      refine lv_iconst (v := 0) hx hb dX10_takeRead_162 (by decide) ?_
      exact k_f_X10_takeRead_j163 X hrc132 hk_a0 hk_b8 hd hS (lv_sub hl [0, 1] rfl) h
    · have h := if_n q9 h
      refine lv_aload_n hx hb dX10_takeRead_153 rfl (lv_at hl 0 rfl) ?_
      obtain ⟨b10, hb10, h⟩ := bR_e h
      refine r_getr hx hb hts (fun w h => List.mem_cons_of_mem _ (List.mem_append_right _ (h))) hown hK hd hk_a0 hb10 rfl fs_10_24 (hts (.fieldLink RX10 47 "LevelVotesModel" "readVotes" "[I") (List.mem_of_getElem? (i := 18) rfl)) dX10_takeRead_154 (fun hq => ?_)
      have hk_b10 : kd b10 = 11 := hq
      refine lv_iload_n hx hb dX10_takeRead_157 rfl (lv_at hl 1 rfl) ?_
      obtain ⟨g11, h⟩ := gd_e h
      refine r_iald hx hb hK hd hk_b10 (ckb_in g11) dX10_takeRead_158 ?_
      refine lv_goto (tgt := 163) hx hb dX10_takeRead_159 (by decide) ?_
      exact k_f_X10_takeRead_j163 X hrc132 hk_a0 hk_b8 hd hS (lv_sub hl [0, 1] rfl) h
def f_X10_takeRead_L132 : Nat → Mm → Nat → Int32 → Option Mm
  | 0 => fun _ _ _ => none
  | n + 1 => fun μ a0 x1 => f_X10_takeRead_L132b (f_X10_takeRead_L132 n) μ a0 x1
theorem k_f_X10_takeRead_L132 {l : Launch} {D : va_G} {cA : Nat → ClassId} {z : Nat} {av : List Value} {p : Program} {e : Env} {s : State} {m : MethodId} {below : List Frame} {meth : Method} {c : Code} {μ' : Mm} (X : Fx D cA RX10 wsX10_takeRead cX10_takeRead 2 none p s m av.toArray meth c) (n : Nat) : HL_X10_takeRead_132 l D cA z av μ' p e s m below meth c (f_X10_takeRead_L132 n) := by
  induction n with
  | zero => intro _ _ _ _ _ _ _ _ _ _ h; have h2 : (none : Option _) = some _ := h; cases h2
  | succ n ih => intro μ H locs ls a0 x1 hk_a0 hd hS hl h; exact k_f_X10_takeRead_L132b X ih hk_a0 hd hS hl h
def f_X10_takeRead_L80b (rc80 : Mm → Nat → Int32 → Option Mm) (μ : Mm) (a0 : Nat) (x1 : Int32) : Option Mm := if (μ.1 a0 3) ≤ x1 then (f_X10_takeRead_L132 FU μ a0 (0 : Int32)) else (bR (μ.2 a0 4) (fun b2 => bR (μ.2 a0 20) (fun b3 => gd (ckb x1 (ln b3)) (gd (ckb x1 (ln b2)) (bM (up2 μ.1 b2 (x1).toNatClampNeg (μ.1 b3 (x1).toNatClampNeg), μ.2) (fun μ6 => bR (μ6.2 a0 5) (fun b7 => bR (μ6.2 a0 21) (fun b8 => gd (ckb x1 (ln b8)) (gd (ckb x1 (ln b7)) (bM (up2 μ6.1 b7 (x1).toNatClampNeg (μ6.1 b8 (x1).toNatClampNeg), μ6.2) (fun μ11 => bR (μ11.2 a0 6) (fun b12 => bR (μ11.2 a0 22) (fun b13 => gd (ckb x1 (ln b13)) (gd (ckb x1 (ln b12)) (bM (up2 μ11.1 b12 (x1).toNatClampNeg (μ11.1 b13 (x1).toNatClampNeg), μ11.2) (fun μ16 => rc80 μ16 a0 (x1 + (1 : Int32))))))))))))))))))
set_option maxRecDepth 100000 in
theorem k_f_X10_takeRead_L80b {l : Launch} {D : va_G} {cA : Nat → ClassId} {z : Nat} {av : List Value} {p : Program} {e : Env} {s : State} {m : MethodId} {below : List Frame} {meth : Method} {c : Code} {μ' : Mm} (X : Fx D cA RX10 wsX10_takeRead cX10_takeRead 2 none p s m av.toArray meth c) {rc80 : Mm → Nat → Int32 → Option Mm} (hrc80 : HL_X10_takeRead_80 l D cA z av μ' p e s m below meth c rc80) {μ : Mm} {a0 : Nat} {x1 : Int32} (hk_a0 : kd a0 = 10) {H : Heap} {locs : List Loc} {ls : Array Slot} (hd : Wd D cA z μ H) (hS : va_S (Az z) s.heap H locs) (hl : lv_has ls 2 [(0, .ref (z + a0)), (1, .int x1)]) (h : f_X10_takeRead_L80b rc80 μ a0 x1 = some μ') : WG l D cA z wsX10_takeRead 0 0 av none μ' p e s m below meth c H locs (F0 m 80 ls []) := by
  obtain ⟨hx, hb, hr, hlk, hml, hown, hts, hK⟩ := id X
  unfold f_X10_takeRead_L80b at h
  refine lv_iload_n hx hb dX10_takeRead_80 rfl (lv_at hl 1 rfl) ?_
  refine lv_aload_n hx hb dX10_takeRead_81 rfl (lv_at hl 0 rfl) ?_
  refine r_geti hx hb hts (fun w h => List.mem_cons_of_mem _ (List.mem_append_right _ (h))) hown hK hd hk_a0 rfl 3 fs_10_3 (hts (.fieldLink RX10 98 "LevelVotesModel" "items" "I") (List.mem_of_getElem? (i := 5) rfl)) dX10_takeRead_82 ?_
  refine lv_icmp_ge (tgt := 130) hx hb dX10_takeRead_85 (by decide) (fun q1 => ?_) (fun q1 => ?_)
  · have h := if_y q1 h
    refine lv_iconst (v := 0) hx hb dX10_takeRead_130 (by decide) ?_
    refine lv_istore_n (lv' := [(1, .int (0 : Int32)), (0, .ref (z + a0))]) hx hb dX10_takeRead_131 rfl hl (by decide) rfl (fun ls hl => ?_)
    exact k_f_X10_takeRead_L132 X FU _ _ _ _ _ _ hk_a0 hd hS (lv_sub hl [1, 0] rfl) h
  · have h := if_n q1 h
    refine lv_aload_n hx hb dX10_takeRead_88 rfl (lv_at hl 0 rfl) ?_
    obtain ⟨b2, hb2, h⟩ := bR_e h
    refine r_getr hx hb hts (fun w h => List.mem_cons_of_mem _ (List.mem_append_right _ (h))) hown hK hd hk_a0 hb2 rfl fs_10_4 (hts (.fieldLink RX10 13 "LevelVotesModel" "itemFrom" "[I") (List.mem_of_getElem? (i := 11) rfl)) dX10_takeRead_89 (fun hq => ?_)
    have hk_b2 : kd b2 = 11 := hq
    refine lv_iload_n hx hb dX10_takeRead_92 rfl (lv_at hl 1 rfl) ?_
    refine lv_aload_n hx hb dX10_takeRead_93 rfl (lv_at hl 0 rfl) ?_
    obtain ⟨b3, hb3, h⟩ := bR_e h
    refine r_getr hx hb hts (fun w h => List.mem_cons_of_mem _ (List.mem_append_right _ (h))) hown hK hd hk_a0 hb3 rfl fs_10_20 (hts (.fieldLink RX10 38 "LevelVotesModel" "readFrom" "[I") (List.mem_of_getElem? (i := 12) rfl)) dX10_takeRead_94 (fun hq => ?_)
    have hk_b3 : kd b3 = 11 := hq
    refine lv_iload_n hx hb dX10_takeRead_97 rfl (lv_at hl 1 rfl) ?_
    obtain ⟨g4, h⟩ := gd_e h
    refine r_iald hx hb hK hd hk_b3 (ckb_in g4) dX10_takeRead_98 ?_
    obtain ⟨g5, h⟩ := gd_e h
    refine r_iast hx hb hK hd hS hk_b2 (ckb_in g5) dX10_takeRead_99 (fun μ6 eμ6 H locs hd hS => ?_)
    have h := bM_e eμ6 h
    refine lv_aload_n hx hb dX10_takeRead_100 rfl (lv_at hl 0 rfl) ?_
    obtain ⟨b7, hb7, h⟩ := bR_e h
    refine r_getr hx hb hts (fun w h => List.mem_cons_of_mem _ (List.mem_append_right _ (h))) hown hK hd hk_a0 hb7 rfl fs_10_5 (hts (.fieldLink RX10 16 "LevelVotesModel" "itemTo" "[I") (List.mem_of_getElem? (i := 13) rfl)) dX10_takeRead_101 (fun hq => ?_)
    have hk_b7 : kd b7 = 11 := hq
    refine lv_iload_n hx hb dX10_takeRead_104 rfl (lv_at hl 1 rfl) ?_
    refine lv_aload_n hx hb dX10_takeRead_105 rfl (lv_at hl 0 rfl) ?_
    obtain ⟨b8, hb8, h⟩ := bR_e h
    refine r_getr hx hb hts (fun w h => List.mem_cons_of_mem _ (List.mem_append_right _ (h))) hown hK hd hk_a0 hb8 rfl fs_10_21 (hts (.fieldLink RX10 41 "LevelVotesModel" "readTo" "[I") (List.mem_of_getElem? (i := 14) rfl)) dX10_takeRead_106 (fun hq => ?_)
    have hk_b8 : kd b8 = 11 := hq
    refine lv_iload_n hx hb dX10_takeRead_109 rfl (lv_at hl 1 rfl) ?_
    obtain ⟨g9, h⟩ := gd_e h
    refine r_iald hx hb hK hd hk_b8 (ckb_in g9) dX10_takeRead_110 ?_
    obtain ⟨g10, h⟩ := gd_e h
    refine r_iast hx hb hK hd hS hk_b7 (ckb_in g10) dX10_takeRead_111 (fun μ11 eμ11 H locs hd hS => ?_)
    have h := bM_e eμ11 h
    refine lv_aload_n hx hb dX10_takeRead_112 rfl (lv_at hl 0 rfl) ?_
    obtain ⟨b12, hb12, h⟩ := bR_e h
    refine r_getr hx hb hts (fun w h => List.mem_cons_of_mem _ (List.mem_append_right _ (h))) hown hK hd hk_a0 hb12 rfl fs_10_6 (hts (.fieldLink RX10 19 "LevelVotesModel" "itemLevel" "[I") (List.mem_of_getElem? (i := 15) rfl)) dX10_takeRead_113 (fun hq => ?_)
    have hk_b12 : kd b12 = 11 := hq
    refine lv_iload_n hx hb dX10_takeRead_116 rfl (lv_at hl 1 rfl) ?_
    refine lv_aload_n hx hb dX10_takeRead_117 rfl (lv_at hl 0 rfl) ?_
    obtain ⟨b13, hb13, h⟩ := bR_e h
    refine r_getr hx hb hts (fun w h => List.mem_cons_of_mem _ (List.mem_append_right _ (h))) hown hK hd hk_a0 hb13 rfl fs_10_22 (hts (.fieldLink RX10 44 "LevelVotesModel" "readLevel" "[I") (List.mem_of_getElem? (i := 16) rfl)) dX10_takeRead_118 (fun hq => ?_)
    have hk_b13 : kd b13 = 11 := hq
    refine lv_iload_n hx hb dX10_takeRead_121 rfl (lv_at hl 1 rfl) ?_
    obtain ⟨g14, h⟩ := gd_e h
    refine r_iald hx hb hK hd hk_b13 (ckb_in g14) dX10_takeRead_122 ?_
    obtain ⟨g15, h⟩ := gd_e h
    refine r_iast hx hb hK hd hS hk_b12 (ckb_in g15) dX10_takeRead_123 (fun μ16 eμ16 H locs hd hS => ?_)
    have h := bM_e eμ16 h
    refine lv_iinc (v := x1 + (1 : Int32)) (lv' := [(1, .int (x1 + (1 : Int32))), (0, .ref (z + a0))]) hx hb dX10_takeRead_124 hl (k := 1) rfl rfl (by decide) rfl (fun ls hl => ?_)
    refine lv_goto (tgt := 80) hx hb dX10_takeRead_127 (by decide) ?_
    exact hrc80 _ _ _ _ _ _ hk_a0 hd hS (lv_sub hl [1, 0] rfl) h
def f_X10_takeRead_L80 : Nat → Mm → Nat → Int32 → Option Mm
  | 0 => fun _ _ _ => none
  | n + 1 => fun μ a0 x1 => f_X10_takeRead_L80b (f_X10_takeRead_L80 n) μ a0 x1
theorem k_f_X10_takeRead_L80 {l : Launch} {D : va_G} {cA : Nat → ClassId} {z : Nat} {av : List Value} {p : Program} {e : Env} {s : State} {m : MethodId} {below : List Frame} {meth : Method} {c : Code} {μ' : Mm} (X : Fx D cA RX10 wsX10_takeRead cX10_takeRead 2 none p s m av.toArray meth c) (n : Nat) : HL_X10_takeRead_80 l D cA z av μ' p e s m below meth c (f_X10_takeRead_L80 n) := by
  induction n with
  | zero => intro _ _ _ _ _ _ _ _ _ _ h; have h2 : (none : Option _) = some _ := h; cases h2
  | succ n ih => intro μ H locs ls a0 x1 hk_a0 hd hS hl h; exact k_f_X10_takeRead_L80b X ih hk_a0 hd hS hl h
def f_X10_takeRead_j71 (rc38 : Mm → Nat → Int32 → Option Mm) (μ : Mm) (a0 : Nat) (x1 : Int32) (ys0 : Int32) (ys1 : Int32) (bs2 : Nat) : Option Mm := gd (ckb ys1 (ln bs2)) (bM (up2 μ.1 bs2 (ys1).toNatClampNeg ys0, μ.2) (fun μ2 => rc38 μ2 a0 (x1 + (1 : Int32))))
set_option maxRecDepth 100000 in
theorem k_f_X10_takeRead_j71 {l : Launch} {D : va_G} {cA : Nat → ClassId} {z : Nat} {av : List Value} {p : Program} {e : Env} {s : State} {m : MethodId} {below : List Frame} {meth : Method} {c : Code} {μ' : Mm} (X : Fx D cA RX10 wsX10_takeRead cX10_takeRead 2 none p s m av.toArray meth c) {rc38 : Mm → Nat → Int32 → Option Mm} (hrc38 : HL_X10_takeRead_38 l D cA z av μ' p e s m below meth c rc38) {μ : Mm} {a0 : Nat} {x1 : Int32} {ys0 : Int32} {ys1 : Int32} {bs2 : Nat} (hk_a0 : kd a0 = 10) (hk_bs2 : kd bs2 = 11) {H : Heap} {locs : List Loc} {ls : Array Slot} (hd : Wd D cA z μ H) (hS : va_S (Az z) s.heap H locs) (hl : lv_has ls 2 [(0, .ref (z + a0)), (1, .int x1)]) (h : f_X10_takeRead_j71 rc38 μ a0 x1 ys0 ys1 bs2 = some μ') : WG l D cA z wsX10_takeRead 0 0 av none μ' p e s m below meth c H locs (F0 m 71 ls [.int ys0, .int ys1, .ref (z + bs2)]) := by
  obtain ⟨hx, hb, hr, hlk, hml, hown, hts, hK⟩ := id X
  unfold f_X10_takeRead_j71 at h
  obtain ⟨g1, h⟩ := gd_e h
  refine r_iast hx hb hK hd hS hk_bs2 (ckb_in g1) dX10_takeRead_71 (fun μ2 eμ2 H locs hd hS => ?_)
  have h := bM_e eμ2 h
  refine lv_iinc (v := x1 + (1 : Int32)) (lv' := [(1, .int (x1 + (1 : Int32))), (0, .ref (z + a0))]) hx hb dX10_takeRead_72 hl (k := 1) rfl rfl (by decide) rfl (fun ls hl => ?_)
  refine lv_goto (tgt := 38) hx hb dX10_takeRead_75 (by decide) ?_
  exact hrc38 _ _ _ _ _ _ hk_a0 hd hS (lv_sub hl [1, 0] rfl) h
def f_X10_takeRead_L38b (rc38 : Mm → Nat → Int32 → Option Mm) (μ : Mm) (a0 : Nat) (x1 : Int32) : Option Mm := if (20 : Int32) ≤ x1 then (f_X10_takeRead_L80 FU μ a0 (0 : Int32)) else (bR (μ.2 a0 2) (fun b2 => if (μ.1 a0 18) = 0 then (f_X10_takeRead_j71 rc38 μ a0 x1 (0 : Int32) x1 b2) else (bR (μ.2 a0 17) (fun b4 => gd (ck0 (μ.1 a0 18)) (gd (ckb (x1 - x1 / (μ.1 a0 18) * (μ.1 a0 18)) (ln b4)) (f_X10_takeRead_j71 rc38 μ a0 x1 (μ.1 b4 (x1 - x1 / (μ.1 a0 18) * (μ.1 a0 18)).toNatClampNeg) x1 b2))))))
set_option maxRecDepth 100000 in
theorem k_f_X10_takeRead_L38b {l : Launch} {D : va_G} {cA : Nat → ClassId} {z : Nat} {av : List Value} {p : Program} {e : Env} {s : State} {m : MethodId} {below : List Frame} {meth : Method} {c : Code} {μ' : Mm} (X : Fx D cA RX10 wsX10_takeRead cX10_takeRead 2 none p s m av.toArray meth c) {rc38 : Mm → Nat → Int32 → Option Mm} (hrc38 : HL_X10_takeRead_38 l D cA z av μ' p e s m below meth c rc38) {μ : Mm} {a0 : Nat} {x1 : Int32} (hk_a0 : kd a0 = 10) {H : Heap} {locs : List Loc} {ls : Array Slot} (hd : Wd D cA z μ H) (hS : va_S (Az z) s.heap H locs) (hl : lv_has ls 2 [(0, .ref (z + a0)), (1, .int x1)]) (h : f_X10_takeRead_L38b rc38 μ a0 x1 = some μ') : WG l D cA z wsX10_takeRead 0 0 av none μ' p e s m below meth c H locs (F0 m 38 ls []) := by
  obtain ⟨hx, hb, hr, hlk, hml, hown, hts, hK⟩ := id X
  unfold f_X10_takeRead_L38b at h
  refine lv_iload_n hx hb dX10_takeRead_38 rfl (lv_at hl 1 rfl) ?_
  refine lv_bipush (v := 20) hx hb dX10_takeRead_39 (by decide) ?_
  refine lv_icmp_ge (tgt := 78) hx hb dX10_takeRead_41 (by decide) (fun q1 => ?_) (fun q1 => ?_)
  · have h := if_y q1 h
    refine lv_iconst (v := 0) hx hb dX10_takeRead_78 (by decide) ?_
    refine lv_istore_n (lv' := [(1, .int (0 : Int32)), (0, .ref (z + a0))]) hx hb dX10_takeRead_79 rfl hl (by decide) rfl (fun ls hl => ?_)
    exact k_f_X10_takeRead_L80 X FU _ _ _ _ _ _ hk_a0 hd hS (lv_sub hl [1, 0] rfl) h
  · have h := if_n q1 h
    refine lv_aload_n hx hb dX10_takeRead_44 rfl (lv_at hl 0 rfl) ?_
    obtain ⟨b2, hb2, h⟩ := bR_e h
    refine r_getr hx hb hts (fun w h => List.mem_cons_of_mem _ (List.mem_append_right _ (h))) hown hK hd hk_a0 hb2 rfl fs_10_2 (hts (.fieldLink RX10 7 "LevelVotesModel" "ground" "[I") (List.mem_of_getElem? (i := 8) rfl)) dX10_takeRead_45 (fun hq => ?_)
    have hk_b2 : kd b2 = 11 := hq
    refine lv_iload_n hx hb dX10_takeRead_48 rfl (lv_at hl 1 rfl) ?_
    refine lv_aload_n hx hb dX10_takeRead_49 rfl (lv_at hl 0 rfl) ?_
    refine r_geti hx hb hts (fun w h => List.mem_cons_of_mem _ (List.mem_append_right _ (h))) hown hK hd hk_a0 rfl 18 fs_10_18 (hts (.fieldLink RX10 139 "LevelVotesModel" "readMany" "I") (List.mem_of_getElem? (i := 9) rfl)) dX10_takeRead_50 ?_
    refine lv_if_ne (tgt := 60) hx hb dX10_takeRead_53 (by decide) (fun q3 => ?_) (fun q3 => ?_)
    · have h := if_n q3 h
      refine lv_aload_n hx hb dX10_takeRead_60 rfl (lv_at hl 0 rfl) ?_
      obtain ⟨b4, hb4, h⟩ := bR_e h
      refine r_getr hx hb hts (fun w h => List.mem_cons_of_mem _ (List.mem_append_right _ (h))) hown hK hd hk_a0 hb4 rfl fs_10_17 (hts (.fieldLink RX10 35 "LevelVotesModel" "readGround" "[I") (List.mem_of_getElem? (i := 10) rfl)) dX10_takeRead_61 (fun hq => ?_)
      have hk_b4 : kd b4 = 11 := hq
      refine lv_iload_n hx hb dX10_takeRead_64 rfl (lv_at hl 1 rfl) ?_
      refine lv_aload_n hx hb dX10_takeRead_65 rfl (lv_at hl 0 rfl) ?_
      refine r_geti hx hb hts (fun w h => List.mem_cons_of_mem _ (List.mem_append_right _ (h))) hown hK hd hk_a0 rfl 18 fs_10_18 (hts (.fieldLink RX10 139 "LevelVotesModel" "readMany" "I") (List.mem_of_getElem? (i := 9) rfl)) dX10_takeRead_66 ?_
      obtain ⟨g5, h⟩ := gd_e h
      refine lv_irem hx hb dX10_takeRead_69 (ck0_ne g5) ?_
      obtain ⟨g6, h⟩ := gd_e h
      refine r_iald hx hb hK hd hk_b4 (ckb_in g6) dX10_takeRead_70 ?_
      exact k_f_X10_takeRead_j71 X hrc38 hk_a0 hk_b2 hd hS (lv_sub hl [0, 1] rfl) h
    · have h := if_y q3 h
      refine lv_iconst (v := 0) hx hb dX10_takeRead_56 (by decide) ?_
      refine lv_goto (tgt := 71) hx hb dX10_takeRead_57 (by decide) ?_
      exact k_f_X10_takeRead_j71 X hrc38 hk_a0 hk_b2 hd hS (lv_sub hl [0, 1] rfl) h
def f_X10_takeRead_L38 : Nat → Mm → Nat → Int32 → Option Mm
  | 0 => fun _ _ _ => none
  | n + 1 => fun μ a0 x1 => f_X10_takeRead_L38b (f_X10_takeRead_L38 n) μ a0 x1
theorem k_f_X10_takeRead_L38 {l : Launch} {D : va_G} {cA : Nat → ClassId} {z : Nat} {av : List Value} {p : Program} {e : Env} {s : State} {m : MethodId} {below : List Frame} {meth : Method} {c : Code} {μ' : Mm} (X : Fx D cA RX10 wsX10_takeRead cX10_takeRead 2 none p s m av.toArray meth c) (n : Nat) : HL_X10_takeRead_38 l D cA z av μ' p e s m below meth c (f_X10_takeRead_L38 n) := by
  induction n with
  | zero => intro _ _ _ _ _ _ _ _ _ _ h; have h2 : (none : Option _) = some _ := h; cases h2
  | succ n ih => intro μ H locs ls a0 x1 hk_a0 hd hS hl h; exact k_f_X10_takeRead_L38b X ih hk_a0 hd hS hl h
def f_X10_takeRead (μ : Mm) (a0 : Nat) : Option Mm := bR (μ.2 a0 16) (fun b1 => gd (ckb (0 : Int32) (ln b1)) (bM (up2 μ.1 a0 0 (μ.1 b1 ((0 : Int32)).toNatClampNeg), μ.2) (fun μ3 => bR (μ3.2 a0 16) (fun b4 => gd (ckb (1 : Int32) (ln b4)) (bM (up2 μ3.1 a0 1 (μ3.1 b4 ((1 : Int32)).toNatClampNeg), μ3.2) (fun μ6 => bM (up2 μ6.1 a0 3 (μ6.1 a0 19), μ6.2) (fun μ7 => bM (up2 μ7.1 a0 7 (μ7.1 a0 23), μ7.2) (fun μ8 => f_X10_takeRead_L38 FU μ8 a0 (0 : Int32)))))))))
set_option maxRecDepth 100000 in
theorem c_X10_takeRead {l : Launch} {D : va_G} {cA : Nat → ClassId} {z : Nat} {μ : Mm} {a0 : Nat} {μ' : Mm} (hk_a0 : kd a0 = 10) (h : f_X10_takeRead μ a0 = some μ') : Ct l D cA z yX10_takeRead wsX10_takeRead 0 0 [.ref (z + a0)] μ none μ' := by
  refine m_in (cc := cX10_takeRead) (maxL := 2) (ret := none) (own := RX10) (by decide) rfl rfl (Nat.le_of_ble_eq_true rfl) ?_
  intro p e s m below meth c ls X hd hS hl
  obtain ⟨hx, hb, hr, hlk, hml, hown, hts, hK⟩ := id X
  have hl : lv_has ls 2 [(0, .ref (z + a0))] := hl
  unfold f_X10_takeRead at h
  refine lv_aload_n hx hb dX10_takeRead_0 rfl (lv_at hl 0 rfl) ?_
  refine lv_aload_n hx hb dX10_takeRead_1 rfl (lv_at hl 0 rfl) ?_
  obtain ⟨b1, hb1, h⟩ := bR_e h
  refine r_getr hx hb hts (fun w h => List.mem_cons_of_mem _ (List.mem_append_right _ (h))) hown hK hd hk_a0 hb1 rfl fs_10_16 (hts (.fieldLink RX10 32 "LevelVotesModel" "readSize" "[I") (List.mem_of_getElem? (i := 1) rfl)) dX10_takeRead_2 (fun hq => ?_)
  have hk_b1 : kd b1 = 11 := hq
  refine lv_iconst (v := 0) hx hb dX10_takeRead_5 (by decide) ?_
  obtain ⟨g2, h⟩ := gd_e h
  refine r_iald hx hb hK hd hk_b1 (ckb_in g2) dX10_takeRead_6 ?_
  refine r_puti hx hb hts (fun w h => List.mem_cons_of_mem _ (List.mem_append_right _ (h))) tyX10 tyX10_ok nmX10 hown hK hd hS hk_a0 rfl 0 fs_10_0 rfl (hts (.fieldLink RX10 84 "LevelVotesModel" "columns" "I") (List.mem_of_getElem? (i := 2) rfl)) (vp_nar_int _) rfl dX10_takeRead_7 (fun μ3 eμ3 H locs hd hS => ?_)
  have h := bM_e eμ3 h
  refine lv_aload_n hx hb dX10_takeRead_10 rfl (lv_at hl 0 rfl) ?_
  refine lv_aload_n hx hb dX10_takeRead_11 rfl (lv_at hl 0 rfl) ?_
  obtain ⟨b4, hb4, h⟩ := bR_e h
  refine r_getr hx hb hts (fun w h => List.mem_cons_of_mem _ (List.mem_append_right _ (h))) hown hK hd hk_a0 hb4 rfl fs_10_16 (hts (.fieldLink RX10 32 "LevelVotesModel" "readSize" "[I") (List.mem_of_getElem? (i := 1) rfl)) dX10_takeRead_12 (fun hq => ?_)
  have hk_b4 : kd b4 = 11 := hq
  refine lv_iconst (v := 1) hx hb dX10_takeRead_15 (by decide) ?_
  obtain ⟨g5, h⟩ := gd_e h
  refine r_iald hx hb hK hd hk_b4 (ckb_in g5) dX10_takeRead_16 ?_
  refine r_puti hx hb hts (fun w h => List.mem_cons_of_mem _ (List.mem_append_right _ (h))) tyX10 tyX10_ok nmX10 hown hK hd hS hk_a0 rfl 1 fs_10_1 rfl (hts (.fieldLink RX10 87 "LevelVotesModel" "rows" "I") (List.mem_of_getElem? (i := 3) rfl)) (vp_nar_int _) rfl dX10_takeRead_17 (fun μ6 eμ6 H locs hd hS => ?_)
  have h := bM_e eμ6 h
  refine lv_aload_n hx hb dX10_takeRead_20 rfl (lv_at hl 0 rfl) ?_
  refine lv_aload_n hx hb dX10_takeRead_21 rfl (lv_at hl 0 rfl) ?_
  refine r_geti hx hb hts (fun w h => List.mem_cons_of_mem _ (List.mem_append_right _ (h))) hown hK hd hk_a0 rfl 19 fs_10_19 (hts (.fieldLink RX10 142 "LevelVotesModel" "readItems" "I") (List.mem_of_getElem? (i := 4) rfl)) dX10_takeRead_22 ?_
  refine r_puti hx hb hts (fun w h => List.mem_cons_of_mem _ (List.mem_append_right _ (h))) tyX10 tyX10_ok nmX10 hown hK hd hS hk_a0 rfl 3 fs_10_3 rfl (hts (.fieldLink RX10 98 "LevelVotesModel" "items" "I") (List.mem_of_getElem? (i := 5) rfl)) (vp_nar_int _) rfl dX10_takeRead_25 (fun μ7 eμ7 H locs hd hS => ?_)
  have h := bM_e eμ7 h
  refine lv_aload_n hx hb dX10_takeRead_28 rfl (lv_at hl 0 rfl) ?_
  refine lv_aload_n hx hb dX10_takeRead_29 rfl (lv_at hl 0 rfl) ?_
  refine r_geti hx hb hts (fun w h => List.mem_cons_of_mem _ (List.mem_append_right _ (h))) hown hK hd hk_a0 rfl 23 fs_10_23 (hts (.fieldLink RX10 145 "LevelVotesModel" "readPersons" "I") (List.mem_of_getElem? (i := 6) rfl)) dX10_takeRead_30 ?_
  refine r_puti hx hb hts (fun w h => List.mem_cons_of_mem _ (List.mem_append_right _ (h))) tyX10 tyX10_ok nmX10 hown hK hd hS hk_a0 rfl 7 fs_10_7 rfl (hts (.fieldLink RX10 101 "LevelVotesModel" "persons" "I") (List.mem_of_getElem? (i := 7) rfl)) (vp_nar_int _) rfl dX10_takeRead_33 (fun μ8 eμ8 H locs hd hS => ?_)
  have h := bM_e eμ8 h
  refine lv_iconst (v := 0) hx hb dX10_takeRead_36 (by decide) ?_
  refine lv_istore_n (lv' := [(1, .int (0 : Int32)), (0, .ref (z + a0))]) hx hb dX10_takeRead_37 rfl hl (by decide) rfl (fun ls hl => ?_)
  exact k_f_X10_takeRead_L38 X FU _ _ _ _ _ _ hk_a0 hd hS (lv_sub hl [1, 0] rfl) h
theorem hv_X10_house : yX10_house.cls = RX10 ∧ yX10_house.cls ≠ "java/lang/invoke/MethodHandle" ∧ yX10_house.cls ≠ "java/lang/invoke/VarHandle" ∧ (parseMethodDescriptor yX10_house.desc).map (fun d => d.parameters.length) = some 0 := by decide +kernel
abbrev HL_X10_house_41 (l : Launch) (D : va_G) (cA : Nat → ClassId) (z : Nat) (av : List Value) (r : Int32) (μ' : Mm) (p : Program) (e : Env) (s : State) (m : MethodId) (below : List Frame) (meth : Method) (c : Code) (rc : Mm → Nat → Int32 → Option (Int32 × Mm)) : Prop := ∀ (μ : Mm) (H : Heap) (locs : List Loc) (ls : Array Slot) (a0 : Nat) (x1 : Int32), kd a0 = 10 → Wd D cA z μ H → va_S (Az z) s.heap H locs → lv_has ls 2 [(0, .ref (z + a0)), (1, .int x1)] → rc μ a0 x1 = some (r, μ') → WG l D cA z wsX10_house 5 121 av (some (.int r)) μ' p e s m below meth c H locs (F0 m 41 ls [])
def f_X10_house_j60 (μ : Mm) (a0 : Nat) (x1 : Int32) : Option (Int32 × Mm) := bM (up2 μ.1 a0 11 (0 : Int32), μ.2) (fun μ1 => if x1 ≤ 0 then (bV (f_X10_takeRead μ1 a0) (fun μ3 => bM (up2 μ3.1 a0 30 (0 : Int32), μ3.2) (fun μ6 => bM (up2 μ6.1 a0 34 (0 : Int32), μ6.2) (fun μ7 => bM (up2 μ7.1 a0 27 (0 : Int32), μ7.2) (fun μ8 => bR (μ8.2 a0 38) (fun b9 => gd (ckb (0 : Int32) (ln b9)) (bM (up2 μ8.1 b9 ((0 : Int32)).toNatClampNeg (0 : Int32), μ8.2) (fun μ11 => bR (μ11.2 a0 38) (fun b12 => gd (ckb (1 : Int32) (ln b12)) (bM (up2 μ11.1 b12 ((1 : Int32)).toNatClampNeg (0 : Int32), μ11.2) (fun μ14 => some (μ14.1 a0 3, μ14)))))))))))) else (some ((-10 : Int32) - x1, μ1)))
set_option maxRecDepth 100000 in
theorem k_f_X10_house_j60 {l : Launch} {D : va_G} {cA : Nat → ClassId} {z : Nat} {av : List Value} {p : Program} {e : Env} {s : State} {m : MethodId} {below : List Frame} {meth : Method} {c : Code} {r : Int32} {μ' : Mm} (X : Fx D cA RX10 wsX10_house cX10_house 2 (some .int) p s m av.toArray meth c) {μ : Mm} {a0 : Nat} {x1 : Int32} (hk_a0 : kd a0 = 10) {H : Heap} {locs : List Loc} {ls : Array Slot} (hd : Wd D cA z μ H) (hS : va_S (Az z) s.heap H locs) (hl : lv_has ls 2 [(0, .ref (z + a0)), (1, .int x1)]) (h : f_X10_house_j60 μ a0 x1 = some (r, μ')) : WG l D cA z wsX10_house 5 121 av (some (.int r)) μ' p e s m below meth c H locs (F0 m 60 ls []) := by
  obtain ⟨hx, hb, hr, hlk, hml, hown, hts, hK⟩ := id X
  unfold f_X10_house_j60 at h
  refine lv_aload_n hx hb dX10_house_60 rfl (lv_at hl 0 rfl) ?_
  refine lv_iconst (v := 0) hx hb dX10_house_61 (by decide) ?_
  refine r_puti hx hb hts (fun w h => List.mem_cons_of_mem _ (List.mem_append_right _ (h))) tyX10 tyX10_ok nmX10 hown hK hd hS hk_a0 rfl 11 fs_10_11 rfl (hts (.fieldLink RX10 107 "LevelVotesModel" "texted" "I") (List.mem_of_getElem? (i := 7) rfl)) (vp_nar_int _) rfl dX10_house_62 (fun μ1 eμ1 H locs hd hS => ?_)
  have h := bM_e eμ1 h
  refine lv_iload_n hx hb dX10_house_65 rfl (lv_at hl 1 rfl) ?_
  refine lv_if_le (tgt := 74) hx hb dX10_house_66 (by decide) (fun q2 => ?_) (fun q2 => ?_)
  · have h := if_y q2 h
    refine lv_aload_n hx hb dX10_house_74 rfl (lv_at hl 0 rfl) ?_
    obtain ⟨μ3, hc5, h⟩ := bV_e h
    refine rc_Vv (rest := []) [] ⟨hx, hb, hml, hown, hts⟩ hK hd hS (c_X10_takeRead hk_a0 hc5) (cwV 0 hts gX10_house_X10_takeRead rfl rfl rfl hv_X10_takeRead ⟨Nat.le_of_ble_eq_true rfl, Nat.le_of_ble_eq_true rfl⟩) hk_a0 rfl rfl rfl rfl hl.1 rfl (Nat.le_of_ble_eq_true rfl) dX10_house_75 ⟨Nat.zero_le _, Nat.zero_le _⟩ (fun H locs hd hS => ?_)
    refine lv_aload_n hx hb dX10_house_78 rfl (lv_at hl 0 rfl) ?_
    refine lv_iconst (v := 0) hx hb dX10_house_79 (by decide) ?_
    refine r_puti hx hb hts (fun w h => List.mem_cons_of_mem _ (List.mem_append_right _ (h))) tyX10 tyX10_ok nmX10 hown hK hd hS hk_a0 rfl 30 fs_10_30 rfl (hts (.fieldLink RX10 166 "LevelVotesModel" "seen" "I") (List.mem_of_getElem? (i := 8) rfl)) (vp_nar_int _) rfl dX10_house_80 (fun μ6 eμ6 H locs hd hS => ?_)
    have h := bM_e eμ6 h
    refine lv_aload_n hx hb dX10_house_83 rfl (lv_at hl 0 rfl) ?_
    refine lv_iconst (v := 0) hx hb dX10_house_84 (by decide) ?_
    refine r_puti hx hb hts (fun w h => List.mem_cons_of_mem _ (List.mem_append_right _ (h))) tyX10 tyX10_ok nmX10 hown hK hd hS hk_a0 rfl 34 fs_10_34 rfl (hts (.fieldLink RX10 169 "LevelVotesModel" "booked" "I") (List.mem_of_getElem? (i := 9) rfl)) (vp_nar_int _) rfl dX10_house_85 (fun μ7 eμ7 H locs hd hS => ?_)
    have h := bM_e eμ7 h
    refine lv_aload_n hx hb dX10_house_88 rfl (lv_at hl 0 rfl) ?_
    refine lv_iconst (v := 0) hx hb dX10_house_89 (by decide) ?_
    refine r_puti hx hb hts (fun w h => List.mem_cons_of_mem _ (List.mem_append_right _ (h))) tyX10 tyX10_ok nmX10 hown hK hd hS hk_a0 rfl 27 fs_10_27 rfl (hts (.fieldLink RX10 172 "LevelVotesModel" "undos" "I") (List.mem_of_getElem? (i := 10) rfl)) (vp_nar_int _) rfl dX10_house_90 (fun μ8 eμ8 H locs hd hS => ?_)
    have h := bM_e eμ8 h
    refine lv_aload_n hx hb dX10_house_93 rfl (lv_at hl 0 rfl) ?_
    obtain ⟨b9, hb9, h⟩ := bR_e h
    refine r_getr hx hb hts (fun w h => List.mem_cons_of_mem _ (List.mem_append_right _ (h))) hown hK hd hk_a0 hb9 rfl fs_10_38 (hts (.fieldLink RX10 80 "LevelVotesModel" "isKept" "[Z") (List.mem_of_getElem? (i := 11) rfl)) dX10_house_94 (fun hq => ?_)
    have hk_b9 : kd b9 = 12 := hq
    refine lv_iconst (v := 0) hx hb dX10_house_97 (by decide) ?_
    refine lv_iconst (v := 0) hx hb dX10_house_98 (by decide) ?_
    obtain ⟨g10, h⟩ := gd_e h
    refine r_zast hx hb hK hd hS hk_b9 (by decide) (ckb_in g10) dX10_house_99 (fun μ11 eμ11 H locs hd hS => ?_)
    have h := bM_e eμ11 h
    refine lv_aload_n hx hb dX10_house_100 rfl (lv_at hl 0 rfl) ?_
    obtain ⟨b12, hb12, h⟩ := bR_e h
    refine r_getr hx hb hts (fun w h => List.mem_cons_of_mem _ (List.mem_append_right _ (h))) hown hK hd hk_a0 hb12 rfl fs_10_38 (hts (.fieldLink RX10 80 "LevelVotesModel" "isKept" "[Z") (List.mem_of_getElem? (i := 11) rfl)) dX10_house_101 (fun hq => ?_)
    have hk_b12 : kd b12 = 12 := hq
    refine lv_iconst (v := 1) hx hb dX10_house_104 (by decide) ?_
    refine lv_iconst (v := 0) hx hb dX10_house_105 (by decide) ?_
    obtain ⟨g13, h⟩ := gd_e h
    refine r_zast hx hb hK hd hS hk_b12 (by decide) (ckb_in g13) dX10_house_106 (fun μ14 eμ14 H locs hd hS => ?_)
    have h := bM_e eμ14 h
    refine lv_aload_n hx hb dX10_house_107 rfl (lv_at hl 0 rfl) ?_
    refine r_geti hx hb hts (fun w h => List.mem_cons_of_mem _ (List.mem_append_right _ (h))) hown hK hd hk_a0 rfl 3 fs_10_3 (hts (.fieldLink RX10 98 "LevelVotesModel" "items" "I") (List.mem_of_getElem? (i := 12) rfl)) dX10_house_108 ?_
    obtain ⟨rfl, rfl⟩ := so_e h
    exact rt_i hx hb hr hlk hd hS dX10_house_111
  · have h := if_n q2 h
    refine lv_bipush (v := -10) hx hb dX10_house_69 (by decide) ?_
    refine lv_iload_n hx hb dX10_house_71 rfl (lv_at hl 1 rfl) ?_
    refine lv_isub hx hb dX10_house_72 ?_
    obtain ⟨rfl, rfl⟩ := so_e h
    exact rt_i hx hb hr hlk hd hS dX10_house_73
def f_X10_house_L41b (rc41 : Mm → Nat → Int32 → Option (Int32 × Mm)) (μ : Mm) (a0 : Nat) (x1 : Int32) : Option (Int32 × Mm) := if x1 = 0 then (bC (f_X10_here μ a0) (fun r3 μ2 => if r3 < 0 then (f_X10_house_j60 μ2 a0 x1) else (bC (f_X10_takeClause μ2 a0) (fun r7 μ6 => rc41 μ6 a0 r7)))) else (f_X10_house_j60 μ a0 x1)
set_option maxRecDepth 100000 in
theorem k_f_X10_house_L41b {l : Launch} {D : va_G} {cA : Nat → ClassId} {z : Nat} {av : List Value} {p : Program} {e : Env} {s : State} {m : MethodId} {below : List Frame} {meth : Method} {c : Code} {r : Int32} {μ' : Mm} (X : Fx D cA RX10 wsX10_house cX10_house 2 (some .int) p s m av.toArray meth c) {rc41 : Mm → Nat → Int32 → Option (Int32 × Mm)} (hrc41 : HL_X10_house_41 l D cA z av r μ' p e s m below meth c rc41) {μ : Mm} {a0 : Nat} {x1 : Int32} (hk_a0 : kd a0 = 10) {H : Heap} {locs : List Loc} {ls : Array Slot} (hd : Wd D cA z μ H) (hS : va_S (Az z) s.heap H locs) (hl : lv_has ls 2 [(0, .ref (z + a0)), (1, .int x1)]) (h : f_X10_house_L41b rc41 μ a0 x1 = some (r, μ')) : WG l D cA z wsX10_house 5 121 av (some (.int r)) μ' p e s m below meth c H locs (F0 m 41 ls []) := by
  obtain ⟨hx, hb, hr, hlk, hml, hown, hts, hK⟩ := id X
  unfold f_X10_house_L41b at h
  refine lv_iload_n hx hb dX10_house_41 rfl (lv_at hl 1 rfl) ?_
  refine lv_if_ne (tgt := 60) hx hb dX10_house_42 (by decide) (fun q1 => ?_) (fun q1 => ?_)
  · have h := if_n q1 h
    exact k_f_X10_house_j60 X hk_a0 hd hS (lv_sub hl [0, 1] rfl) h
  · have h := if_y q1 h
    refine lv_aload_n hx hb dX10_house_45 rfl (lv_at hl 0 rfl) ?_
    obtain ⟨r3, μ2, hc4, h⟩ := bC_e h
    refine rc_Vi (rest := []) [] ⟨hx, hb, hml, hown, hts⟩ hK hd hS (c_X10_here hk_a0 hc4) (cwV 0 hts gX10_house_X10_here rfl rfl rfl hv_X10_here ⟨Nat.le_of_ble_eq_true rfl, Nat.le_of_ble_eq_true rfl⟩) hk_a0 rfl rfl rfl rfl hl.1 rfl (Nat.le_of_ble_eq_true rfl) dX10_house_46 ⟨Nat.zero_le _, Nat.zero_le _⟩ (fun H locs hd hS => ?_)
    refine lv_if_lt (tgt := 60) hx hb dX10_house_49 (by decide) (fun q5 => ?_) (fun q5 => ?_)
    · have h := if_y q5 h
      exact k_f_X10_house_j60 X hk_a0 hd hS (lv_sub hl [0, 1] rfl) h
    · have h := if_n q5 h
      refine lv_aload_n hx hb dX10_house_52 rfl (lv_at hl 0 rfl) ?_
      obtain ⟨r7, μ6, hc8, h⟩ := bC_e h
      refine rc_Vi (rest := []) [] ⟨hx, hb, hml, hown, hts⟩ hK hd hS (c_X10_takeClause hk_a0 hc8) (cwV 0 hts gX10_house_X10_takeClause rfl rfl rfl hv_X10_takeClause ⟨Nat.le_of_ble_eq_true rfl, Nat.le_of_ble_eq_true rfl⟩) hk_a0 rfl rfl rfl rfl hl.1 rfl (Nat.le_of_ble_eq_true rfl) dX10_house_53 ⟨Nat.zero_le _, Nat.zero_le _⟩ (fun H locs hd hS => ?_)
      refine lv_istore_n (lv' := [(1, .int r7), (0, .ref (z + a0))]) hx hb dX10_house_56 rfl hl (by decide) rfl (fun ls hl => ?_)
      refine lv_goto (tgt := 41) hx hb dX10_house_57 (by decide) ?_
      exact hrc41 _ _ _ _ _ _ hk_a0 hd hS (lv_sub hl [1, 0] rfl) h
def f_X10_house_L41 : Nat → Mm → Nat → Int32 → Option (Int32 × Mm)
  | 0 => fun _ _ _ => none
  | n + 1 => fun μ a0 x1 => f_X10_house_L41b (f_X10_house_L41 n) μ a0 x1
theorem k_f_X10_house_L41 {l : Launch} {D : va_G} {cA : Nat → ClassId} {z : Nat} {av : List Value} {p : Program} {e : Env} {s : State} {m : MethodId} {below : List Frame} {meth : Method} {c : Code} {r : Int32} {μ' : Mm} (X : Fx D cA RX10 wsX10_house cX10_house 2 (some .int) p s m av.toArray meth c) (n : Nat) : HL_X10_house_41 l D cA z av r μ' p e s m below meth c (f_X10_house_L41 n) := by
  induction n with
  | zero => intro _ _ _ _ _ _ _ _ _ _ h; have h2 : (none : Option _) = some _ := h; cases h2
  | succ n ih => intro μ H locs ls a0 x1 hk_a0 hd hS hl h; exact k_f_X10_house_L41b X ih hk_a0 hd hS hl h
def f_X10_house (μ : Mm) (a0 : Nat) : Option (Int32 × Mm) := bM (up2 μ.1 a0 12 (-1 : Int32), μ.2) (fun μ1 => bM (up2 μ1.1 a0 13 (0 : Int32), μ1.2) (fun μ2 => bR (μ2.2 a0 16) (fun b3 => gd (ckb (0 : Int32) (ln b3)) (bM (up2 μ2.1 b3 ((0 : Int32)).toNatClampNeg (0 : Int32), μ2.2) (fun μ5 => bR (μ5.2 a0 16) (fun b6 => gd (ckb (1 : Int32) (ln b6)) (bM (up2 μ5.1 b6 ((1 : Int32)).toNatClampNeg (0 : Int32), μ5.2) (fun μ8 => bM (up2 μ8.1 a0 18 (0 : Int32), μ8.2) (fun μ9 => bM (up2 μ9.1 a0 19 (0 : Int32), μ9.2) (fun μ10 => bM (up2 μ10.1 a0 23 (0 : Int32), μ10.2) (fun μ11 => f_X10_house_L41 FU μ11 a0 (0 : Int32))))))))))))
set_option maxRecDepth 100000 in
theorem c_X10_house {l : Launch} {D : va_G} {cA : Nat → ClassId} {z : Nat} {μ : Mm} {a0 : Nat} {r : Int32} {μ' : Mm} (hk_a0 : kd a0 = 10) (h : f_X10_house μ a0 = some (r, μ')) : Ct l D cA z yX10_house wsX10_house 5 121 [.ref (z + a0)] μ (some (.int r)) μ' := by
  refine m_in (cc := cX10_house) (maxL := 2) (ret := (some .int)) (own := RX10) (by decide) rfl rfl (Nat.le_of_ble_eq_true rfl) ?_
  intro p e s m below meth c ls X hd hS hl
  obtain ⟨hx, hb, hr, hlk, hml, hown, hts, hK⟩ := id X
  have hl : lv_has ls 2 [(0, .ref (z + a0))] := hl
  unfold f_X10_house at h
  refine lv_aload_n hx hb dX10_house_0 rfl (lv_at hl 0 rfl) ?_
  refine lv_iconst (v := -1) hx hb dX10_house_1 (by decide) ?_
  refine r_puti hx hb hts (fun w h => List.mem_cons_of_mem _ (List.mem_append_right _ (h))) tyX10 tyX10_ok nmX10 hown hK hd hS hk_a0 rfl 12 fs_10_12 rfl (hts (.fieldLink RX10 28 "LevelVotesModel" "faultPlace" "I") (List.mem_of_getElem? (i := 1) rfl)) (vp_nar_int _) rfl dX10_house_2 (fun μ1 eμ1 H locs hd hS => ?_)
  have h := bM_e eμ1 h
  refine lv_aload_n hx hb dX10_house_5 rfl (lv_at hl 0 rfl) ?_
  refine lv_iconst (v := 0) hx hb dX10_house_6 (by decide) ?_
  refine r_puti hx hb hts (fun w h => List.mem_cons_of_mem _ (List.mem_append_right _ (h))) tyX10 tyX10_ok nmX10 hown hK hd hS hk_a0 rfl 13 fs_10_13 rfl (hts (.fieldLink RX10 111 "LevelVotesModel" "at0" "I") (List.mem_of_getElem? (i := 2) rfl)) (vp_nar_int _) rfl dX10_house_7 (fun μ2 eμ2 H locs hd hS => ?_)
  have h := bM_e eμ2 h
  refine lv_aload_n hx hb dX10_house_10 rfl (lv_at hl 0 rfl) ?_
  obtain ⟨b3, hb3, h⟩ := bR_e h
  refine r_getr hx hb hts (fun w h => List.mem_cons_of_mem _ (List.mem_append_right _ (h))) hown hK hd hk_a0 hb3 rfl fs_10_16 (hts (.fieldLink RX10 32 "LevelVotesModel" "readSize" "[I") (List.mem_of_getElem? (i := 3) rfl)) dX10_house_11 (fun hq => ?_)
  have hk_b3 : kd b3 = 11 := hq
  refine lv_iconst (v := 0) hx hb dX10_house_14 (by decide) ?_
  refine lv_iconst (v := 0) hx hb dX10_house_15 (by decide) ?_
  obtain ⟨g4, h⟩ := gd_e h
  refine r_iast hx hb hK hd hS hk_b3 (ckb_in g4) dX10_house_16 (fun μ5 eμ5 H locs hd hS => ?_)
  have h := bM_e eμ5 h
  refine lv_aload_n hx hb dX10_house_17 rfl (lv_at hl 0 rfl) ?_
  obtain ⟨b6, hb6, h⟩ := bR_e h
  refine r_getr hx hb hts (fun w h => List.mem_cons_of_mem _ (List.mem_append_right _ (h))) hown hK hd hk_a0 hb6 rfl fs_10_16 (hts (.fieldLink RX10 32 "LevelVotesModel" "readSize" "[I") (List.mem_of_getElem? (i := 3) rfl)) dX10_house_18 (fun hq => ?_)
  have hk_b6 : kd b6 = 11 := hq
  refine lv_iconst (v := 1) hx hb dX10_house_21 (by decide) ?_
  refine lv_iconst (v := 0) hx hb dX10_house_22 (by decide) ?_
  obtain ⟨g7, h⟩ := gd_e h
  refine r_iast hx hb hK hd hS hk_b6 (ckb_in g7) dX10_house_23 (fun μ8 eμ8 H locs hd hS => ?_)
  have h := bM_e eμ8 h
  refine lv_aload_n hx hb dX10_house_24 rfl (lv_at hl 0 rfl) ?_
  refine lv_iconst (v := 0) hx hb dX10_house_25 (by decide) ?_
  refine r_puti hx hb hts (fun w h => List.mem_cons_of_mem _ (List.mem_append_right _ (h))) tyX10 tyX10_ok nmX10 hown hK hd hS hk_a0 rfl 18 fs_10_18 rfl (hts (.fieldLink RX10 139 "LevelVotesModel" "readMany" "I") (List.mem_of_getElem? (i := 4) rfl)) (vp_nar_int _) rfl dX10_house_26 (fun μ9 eμ9 H locs hd hS => ?_)
  have h := bM_e eμ9 h
  refine lv_aload_n hx hb dX10_house_29 rfl (lv_at hl 0 rfl) ?_
  refine lv_iconst (v := 0) hx hb dX10_house_30 (by decide) ?_
  refine r_puti hx hb hts (fun w h => List.mem_cons_of_mem _ (List.mem_append_right _ (h))) tyX10 tyX10_ok nmX10 hown hK hd hS hk_a0 rfl 19 fs_10_19 rfl (hts (.fieldLink RX10 142 "LevelVotesModel" "readItems" "I") (List.mem_of_getElem? (i := 5) rfl)) (vp_nar_int _) rfl dX10_house_31 (fun μ10 eμ10 H locs hd hS => ?_)
  have h := bM_e eμ10 h
  refine lv_aload_n hx hb dX10_house_34 rfl (lv_at hl 0 rfl) ?_
  refine lv_iconst (v := 0) hx hb dX10_house_35 (by decide) ?_
  refine r_puti hx hb hts (fun w h => List.mem_cons_of_mem _ (List.mem_append_right _ (h))) tyX10 tyX10_ok nmX10 hown hK hd hS hk_a0 rfl 23 fs_10_23 rfl (hts (.fieldLink RX10 145 "LevelVotesModel" "readPersons" "I") (List.mem_of_getElem? (i := 6) rfl)) (vp_nar_int _) rfl dX10_house_36 (fun μ11 eμ11 H locs hd hS => ?_)
  have h := bM_e eμ11 h
  refine lv_iconst (v := 0) hx hb dX10_house_39 (by decide) ?_
  refine lv_istore_n (lv' := [(1, .int (0 : Int32)), (0, .ref (z + a0))]) hx hb dX10_house_40 rfl hl (by decide) rfl (fun ls hl => ?_)
  exact k_f_X10_house_L41 X FU _ _ _ _ _ _ hk_a0 hd hS (lv_sub hl [1, 0] rfl) h
theorem hv_X10_fault : yX10_fault.cls = RX10 ∧ yX10_fault.cls ≠ "java/lang/invoke/MethodHandle" ∧ yX10_fault.cls ≠ "java/lang/invoke/VarHandle" ∧ (parseMethodDescriptor yX10_fault.desc).map (fun d => d.parameters.length) = some 0 := by decide +kernel
def f_X10_fault (μ : Mm) (a0 : Nat) : Option (Int32 × Mm) := some (μ.1 a0 12, μ)
set_option maxRecDepth 100000 in
theorem c_X10_fault {l : Launch} {D : va_G} {cA : Nat → ClassId} {z : Nat} {μ : Mm} {a0 : Nat} {r : Int32} {μ' : Mm} (hk_a0 : kd a0 = 10) (h : f_X10_fault μ a0 = some (r, μ')) : Ct l D cA z yX10_fault wsX10_fault 0 0 [.ref (z + a0)] μ (some (.int r)) μ' := by
  refine m_in (cc := cX10_fault) (maxL := 1) (ret := (some .int)) (own := RX10) (by decide) rfl rfl (Nat.le_of_ble_eq_true rfl) ?_
  intro p e s m below meth c ls X hd hS hl
  obtain ⟨hx, hb, hr, hlk, hml, hown, hts, hK⟩ := id X
  have hl : lv_has ls 1 [(0, .ref (z + a0))] := hl
  unfold f_X10_fault at h
  refine lv_aload_n hx hb dX10_fault_0 rfl (lv_at hl 0 rfl) ?_
  refine r_geti hx hb hts (fun w h => List.mem_cons_of_mem _ (List.mem_append_right _ (h))) hown hK hd hk_a0 rfl 12 fs_10_12 (hts (.fieldLink RX10 28 "LevelVotesModel" "faultPlace" "I") (List.mem_of_getElem? (i := 1) rfl)) dX10_fault_1 ?_
  obtain ⟨rfl, rfl⟩ := so_e h
  exact rt_i hx hb hr hlk hd hS dX10_fault_4
theorem hv_X10_voters : yX10_voters.cls = RX10 ∧ yX10_voters.cls ≠ "java/lang/invoke/MethodHandle" ∧ yX10_voters.cls ≠ "java/lang/invoke/VarHandle" ∧ (parseMethodDescriptor yX10_voters.desc).map (fun d => d.parameters.length) = some 2 := by decide +kernel
abbrev HL_X10_voters_5 (l : Launch) (D : va_G) (cA : Nat → ClassId) (z : Nat) (av : List Value) (r : Int32) (μ' : Mm) (p : Program) (e : Env) (s : State) (m : MethodId) (below : List Frame) (meth : Method) (c : Code) (rc : Mm → Nat → Int32 → Int32 → Int32 → Int32 → Option (Int32 × Mm)) : Prop := ∀ (μ : Mm) (H : Heap) (locs : List Loc) (ls : Array Slot) (a0 : Nat) (x1 : Int32) (x2 : Int32) (x3 : Int32) (x4 : Int32), kd a0 = 10 → Wd D cA z μ H → va_S (Az z) s.heap H locs → lv_has ls 5 [(0, .ref (z + a0)), (1, .int x1), (2, .int x2), (3, .int x3), (4, .int x4)] → rc μ a0 x1 x2 x3 x4 = some (r, μ') → WG l D cA z wsX10_voters 0 0 av (some (.int r)) μ' p e s m below meth c H locs (F0 m 5 ls [])
def f_X10_voters_j38 (rc5 : Mm → Nat → Int32 → Int32 → Int32 → Int32 → Option (Int32 × Mm)) (μ : Mm) (a0 : Nat) (x1 : Int32) (x2 : Int32) (x4 : Int32) (ys0 : Int32) (ys1 : Int32) : Option (Int32 × Mm) := bI (ys1 ||| ys0) (fun v1 => rc5 μ a0 x1 x2 v1 (x4 + (1 : Int32)))
set_option maxRecDepth 100000 in
theorem k_f_X10_voters_j38 {l : Launch} {D : va_G} {cA : Nat → ClassId} {z : Nat} {av : List Value} {p : Program} {e : Env} {s : State} {m : MethodId} {below : List Frame} {meth : Method} {c : Code} {r : Int32} {μ' : Mm} (X : Fx D cA RX10 wsX10_voters cX10_voters 5 (some .int) p s m av.toArray meth c) {rc5 : Mm → Nat → Int32 → Int32 → Int32 → Int32 → Option (Int32 × Mm)} (hrc5 : HL_X10_voters_5 l D cA z av r μ' p e s m below meth c rc5) {μ : Mm} {a0 : Nat} {x1 : Int32} {x2 : Int32} {x4 : Int32} {ys0 : Int32} {ys1 : Int32} (hk_a0 : kd a0 = 10) {H : Heap} {locs : List Loc} {ls : Array Slot} (hd : Wd D cA z μ H) (hS : va_S (Az z) s.heap H locs) (hl : lv_has ls 5 [(0, .ref (z + a0)), (1, .int x1), (2, .int x2), (4, .int x4)]) (h : f_X10_voters_j38 rc5 μ a0 x1 x2 x4 ys0 ys1 = some (r, μ')) : WG l D cA z wsX10_voters 0 0 av (some (.int r)) μ' p e s m below meth c H locs (F0 m 38 ls [.int ys0, .int ys1]) := by
  obtain ⟨hx, hb, hr, hlk, hml, hown, hts, hK⟩ := id X
  unfold f_X10_voters_j38 at h
  refine lv_ior hx hb dX10_voters_38 ?_
  refine lv_topi (fun v1 ev1 => ?_)
  have h := bI_e ev1 h
  refine lv_istore_n (lv' := [(3, .int v1), (0, .ref (z + a0)), (1, .int x1), (2, .int x2), (4, .int x4)]) hx hb dX10_voters_39 rfl hl (by decide) rfl (fun ls hl => ?_)
  refine lv_iinc (v := x4 + (1 : Int32)) (lv' := [(4, .int (x4 + (1 : Int32))), (3, .int v1), (0, .ref (z + a0)), (1, .int x1), (2, .int x2)]) hx hb dX10_voters_40 hl (k := 4) rfl rfl (by decide) rfl (fun ls hl => ?_)
  refine lv_goto (tgt := 5) hx hb dX10_voters_43 (by decide) ?_
  exact hrc5 _ _ _ _ _ _ _ _ _ hk_a0 hd hS (lv_sub hl [2, 3, 4, 1, 0] rfl) h
def f_X10_voters_L5b (rc5 : Mm → Nat → Int32 → Int32 → Int32 → Int32 → Option (Int32 × Mm)) (μ : Mm) (a0 : Nat) (x1 : Int32) (x2 : Int32) (x3 : Int32) (x4 : Int32) : Option (Int32 × Mm) := if (μ.1 a0 7) ≤ x4 then (some (x3, μ)) else (bR (μ.2 a0 8) (fun b2 => gd (ckb (((5 : Int32) * x4) + x1) (ln b2)) (if (μ.1 b2 (((5 : Int32) * x4) + x1).toNatClampNeg) = x2 then (f_X10_voters_j38 rc5 μ a0 x1 x2 x4 ((1 : Int32) <<< (x4 &&& 31)) x3) else (f_X10_voters_j38 rc5 μ a0 x1 x2 x4 (0 : Int32) x3))))
set_option maxRecDepth 100000 in
theorem k_f_X10_voters_L5b {l : Launch} {D : va_G} {cA : Nat → ClassId} {z : Nat} {av : List Value} {p : Program} {e : Env} {s : State} {m : MethodId} {below : List Frame} {meth : Method} {c : Code} {r : Int32} {μ' : Mm} (X : Fx D cA RX10 wsX10_voters cX10_voters 5 (some .int) p s m av.toArray meth c) {rc5 : Mm → Nat → Int32 → Int32 → Int32 → Int32 → Option (Int32 × Mm)} (hrc5 : HL_X10_voters_5 l D cA z av r μ' p e s m below meth c rc5) {μ : Mm} {a0 : Nat} {x1 : Int32} {x2 : Int32} {x3 : Int32} {x4 : Int32} (hk_a0 : kd a0 = 10) {H : Heap} {locs : List Loc} {ls : Array Slot} (hd : Wd D cA z μ H) (hS : va_S (Az z) s.heap H locs) (hl : lv_has ls 5 [(0, .ref (z + a0)), (1, .int x1), (2, .int x2), (3, .int x3), (4, .int x4)]) (h : f_X10_voters_L5b rc5 μ a0 x1 x2 x3 x4 = some (r, μ')) : WG l D cA z wsX10_voters 0 0 av (some (.int r)) μ' p e s m below meth c H locs (F0 m 5 ls []) := by
  obtain ⟨hx, hb, hr, hlk, hml, hown, hts, hK⟩ := id X
  unfold f_X10_voters_L5b at h
  refine lv_iload hx hb dX10_voters_5 (lv_at hl 4 rfl) ?_
  refine lv_aload_n hx hb dX10_voters_7 rfl (lv_at hl 0 rfl) ?_
  refine r_geti hx hb hts (fun w h => List.mem_cons_of_mem _ (List.mem_append_right _ (h))) hown hK hd hk_a0 rfl 7 fs_10_7 (hts (.fieldLink RX10 101 "LevelVotesModel" "persons" "I") (List.mem_of_getElem? (i := 1) rfl)) dX10_voters_8 ?_
  refine lv_icmp_ge (tgt := 46) hx hb dX10_voters_11 (by decide) (fun q1 => ?_) (fun q1 => ?_)
  · have h := if_y q1 h
    refine lv_iload_n hx hb dX10_voters_46 rfl (lv_at hl 3 rfl) ?_
    obtain ⟨rfl, rfl⟩ := so_e h
    exact rt_i hx hb hr hlk hd hS dX10_voters_47
  · have h := if_n q1 h
    refine lv_iload_n hx hb dX10_voters_14 rfl (lv_at hl 3 rfl) ?_
    refine lv_aload_n hx hb dX10_voters_15 rfl (lv_at hl 0 rfl) ?_
    obtain ⟨b2, hb2, h⟩ := bR_e h
    refine r_getr hx hb hts (fun w h => List.mem_cons_of_mem _ (List.mem_append_right _ (h))) hown hK hd hk_a0 hb2 rfl fs_10_8 (hts (.fieldLink RX10 22 "LevelVotesModel" "now" "[I") (List.mem_of_getElem? (i := 2) rfl)) dX10_voters_16 (fun hq => ?_)
    have hk_b2 : kd b2 = 11 := hq
    refine lv_iconst (v := 5) hx hb dX10_voters_19 (by decide) ?_
    refine lv_iload hx hb dX10_voters_20 (lv_at hl 4 rfl) ?_
    refine lv_imul hx hb dX10_voters_22 ?_
    refine lv_iload_n hx hb dX10_voters_23 rfl (lv_at hl 1 rfl) ?_
    refine lv_iadd hx hb dX10_voters_24 ?_
    obtain ⟨g3, h⟩ := gd_e h
    refine r_iald hx hb hK hd hk_b2 (ckb_in g3) dX10_voters_25 ?_
    refine lv_iload_n hx hb dX10_voters_26 rfl (lv_at hl 2 rfl) ?_
    refine lv_icmp_ne (tgt := 37) hx hb dX10_voters_27 (by decide) (fun q4 => ?_) (fun q4 => ?_)
    · have h := if_n q4 h
      refine lv_iconst (v := 0) hx hb dX10_voters_37 (by decide) ?_
      exact k_f_X10_voters_j38 X hrc5 hk_a0 hd hS (lv_sub hl [0, 1, 2, 4] rfl) h
    · have h := if_y q4 h
      refine lv_iconst (v := 1) hx hb dX10_voters_30 (by decide) ?_
      refine lv_iload hx hb dX10_voters_31 (lv_at hl 4 rfl) ?_
      refine lv_ishl hx hb dX10_voters_33 ?_
      refine lv_goto (tgt := 38) hx hb dX10_voters_34 (by decide) ?_
      exact k_f_X10_voters_j38 X hrc5 hk_a0 hd hS (lv_sub hl [0, 1, 2, 4] rfl) h
def f_X10_voters_L5 : Nat → Mm → Nat → Int32 → Int32 → Int32 → Int32 → Option (Int32 × Mm)
  | 0 => fun _ _ _ _ _ _ => none
  | n + 1 => fun μ a0 x1 x2 x3 x4 => f_X10_voters_L5b (f_X10_voters_L5 n) μ a0 x1 x2 x3 x4
theorem k_f_X10_voters_L5 {l : Launch} {D : va_G} {cA : Nat → ClassId} {z : Nat} {av : List Value} {p : Program} {e : Env} {s : State} {m : MethodId} {below : List Frame} {meth : Method} {c : Code} {r : Int32} {μ' : Mm} (X : Fx D cA RX10 wsX10_voters cX10_voters 5 (some .int) p s m av.toArray meth c) (n : Nat) : HL_X10_voters_5 l D cA z av r μ' p e s m below meth c (f_X10_voters_L5 n) := by
  induction n with
  | zero => intro _ _ _ _ _ _ _ _ _ _ _ _ _ h; have h2 : (none : Option _) = some _ := h; cases h2
  | succ n ih => intro μ H locs ls a0 x1 x2 x3 x4 hk_a0 hd hS hl h; exact k_f_X10_voters_L5b X ih hk_a0 hd hS hl h
def f_X10_voters (μ : Mm) (a0 : Nat) (x1 : Int32) (x2 : Int32) : Option (Int32 × Mm) := f_X10_voters_L5 FU μ a0 x1 x2 (0 : Int32) (0 : Int32)
set_option maxRecDepth 100000 in
theorem c_X10_voters {l : Launch} {D : va_G} {cA : Nat → ClassId} {z : Nat} {μ : Mm} {a0 : Nat} {x1 : Int32} {x2 : Int32} {r : Int32} {μ' : Mm} (hk_a0 : kd a0 = 10) (h : f_X10_voters μ a0 x1 x2 = some (r, μ')) : Ct l D cA z yX10_voters wsX10_voters 0 0 [.ref (z + a0), .int x1, .int x2] μ (some (.int r)) μ' := by
  refine m_in (cc := cX10_voters) (maxL := 5) (ret := (some .int)) (own := RX10) (by decide) rfl rfl (Nat.le_of_ble_eq_true rfl) ?_
  intro p e s m below meth c ls X hd hS hl
  obtain ⟨hx, hb, hr, hlk, hml, hown, hts, hK⟩ := id X
  have hl : lv_has ls 5 [(0, .ref (z + a0)), (1, .int x1), (2, .int x2)] := hl
  unfold f_X10_voters at h
  refine lv_iconst (v := 0) hx hb dX10_voters_0 (by decide) ?_
  refine lv_istore_n (lv' := [(3, .int (0 : Int32)), (0, .ref (z + a0)), (1, .int x1), (2, .int x2)]) hx hb dX10_voters_1 rfl hl (by decide) rfl (fun ls hl => ?_)
  refine lv_iconst (v := 0) hx hb dX10_voters_2 (by decide) ?_
  refine lv_istore (lv' := [(4, .int (0 : Int32)), (3, .int (0 : Int32)), (0, .ref (z + a0)), (1, .int x1), (2, .int x2)]) hx hb dX10_voters_3 hl (by decide) rfl (fun ls hl => ?_)
  exact k_f_X10_voters_L5 X FU _ _ _ _ _ _ _ _ _ hk_a0 hd hS (lv_sub hl [2, 3, 4, 1, 0] rfl) h
theorem hn_X10_standsBy : yX10_standsBy.cls ≠ "java/lang/invoke/MethodHandle" ∧ yX10_standsBy.cls ≠ "java/lang/invoke/VarHandle" ∧ (parseMethodDescriptor yX10_standsBy.desc).map (fun d => d.parameters.length) = some 1 := by decide +kernel
def f_X10_standsBy (μ : Mm) (x0 : Int32) : Option (Int32 × Mm) := if (1 : Int32) ≤ x0 then (if x0 = (1 : Int32) then (some ((1 : Int32), μ)) else (some ((2 : Int32), μ))) else (some ((0 : Int32), μ))
set_option maxRecDepth 100000 in
theorem c_X10_standsBy {l : Launch} {D : va_G} {cA : Nat → ClassId} {z : Nat} {μ : Mm} {x0 : Int32} {r : Int32} {μ' : Mm} (h : f_X10_standsBy μ x0 = some (r, μ')) : Ct l D cA z yX10_standsBy wsX10_standsBy 0 0 [.int x0] μ (some (.int r)) μ' := by
  refine m_in (cc := cX10_standsBy) (maxL := 1) (ret := (some .int)) (own := RX10) (by decide) rfl rfl (Nat.le_of_ble_eq_true rfl) ?_
  intro p e s m below meth c ls X hd hS hl
  obtain ⟨hx, hb, hr, hlk, hml, hown, hts, hK⟩ := id X
  have hl : lv_has ls 1 [(0, .int x0)] := hl
  unfold f_X10_standsBy at h
  refine lv_iload_n hx hb dX10_standsBy_0 rfl (lv_at hl 0 rfl) ?_
  refine lv_iconst (v := 1) hx hb dX10_standsBy_1 (by decide) ?_
  refine lv_icmp_ge (tgt := 9) hx hb dX10_standsBy_2 (by decide) (fun q1 => ?_) (fun q1 => ?_)
  · have h := if_y q1 h
    refine lv_iload_n hx hb dX10_standsBy_9 rfl (lv_at hl 0 rfl) ?_
    refine lv_iconst (v := 1) hx hb dX10_standsBy_10 (by decide) ?_
    refine lv_icmp_ne (tgt := 18) hx hb dX10_standsBy_11 (by decide) (fun q2 => ?_) (fun q2 => ?_)
    · have h := if_n q2 h
      refine lv_iconst (v := 2) hx hb dX10_standsBy_18 (by decide) ?_
      obtain ⟨rfl, rfl⟩ := so_e h
      exact rt_i hx hb hr hlk hd hS dX10_standsBy_19
    · have h := if_y q2 h
      refine lv_iconst (v := 1) hx hb dX10_standsBy_14 (by decide) ?_
      refine lv_goto (tgt := 19) hx hb dX10_standsBy_15 (by decide) ?_
      obtain ⟨rfl, rfl⟩ := so_e h
      exact rt_i hx hb hr hlk hd hS dX10_standsBy_19
  · have h := if_n q1 h
    refine lv_iconst (v := 0) hx hb dX10_standsBy_5 (by decide) ?_
    refine lv_goto (tgt := 19) hx hb dX10_standsBy_6 (by decide) ?_
    obtain ⟨rfl, rfl⟩ := so_e h
    exact rt_i hx hb hr hlk hd hS dX10_standsBy_19
theorem hv_X10_standOf : yX10_standOf.cls = RX10 ∧ yX10_standOf.cls ≠ "java/lang/invoke/MethodHandle" ∧ yX10_standOf.cls ≠ "java/lang/invoke/VarHandle" ∧ (parseMethodDescriptor yX10_standOf.desc).map (fun d => d.parameters.length) = some 1 := by decide +kernel
def f_X10_standOf (μ : Mm) (a0 : Nat) (x1 : Int32) : Option (Int32 × Mm) := bC (f_X10_voters μ a0 x1 (1 : Int32)) (fun r2 μ1 => bC (f_X10_bits μ1 r2) (fun r5 μ4 => bC (f_X10_voters μ4 a0 x1 (0 : Int32)) (fun r8 μ7 => bC (f_X10_bits μ7 r8) (fun r11 μ10 => bC (f_X10_standsBy μ10 (r5 - r11)) (fun r14 μ13 => some (r14, μ13))))))
set_option maxRecDepth 100000 in
theorem c_X10_standOf {l : Launch} {D : va_G} {cA : Nat → ClassId} {z : Nat} {μ : Mm} {a0 : Nat} {x1 : Int32} {r : Int32} {μ' : Mm} (hk_a0 : kd a0 = 10) (h : f_X10_standOf μ a0 x1 = some (r, μ')) : Ct l D cA z yX10_standOf wsX10_standOf 1 24 [.ref (z + a0), .int x1] μ (some (.int r)) μ' := by
  refine m_in (cc := cX10_standOf) (maxL := 2) (ret := (some .int)) (own := RX10) (by decide) rfl rfl (Nat.le_of_ble_eq_true rfl) ?_
  intro p e s m below meth c ls X hd hS hl
  obtain ⟨hx, hb, hr, hlk, hml, hown, hts, hK⟩ := id X
  have hl : lv_has ls 2 [(0, .ref (z + a0)), (1, .int x1)] := hl
  unfold f_X10_standOf at h
  refine lv_aload_n hx hb dX10_standOf_0 rfl (lv_at hl 0 rfl) ?_
  refine lv_iload_n hx hb dX10_standOf_1 rfl (lv_at hl 1 rfl) ?_
  refine lv_iconst (v := 1) hx hb dX10_standOf_2 (by decide) ?_
  obtain ⟨r2, μ1, hc3, h⟩ := bC_e h
  refine rc_Vi (rest := []) [.int x1, .int (1 : Int32)] ⟨hx, hb, hml, hown, hts⟩ hK hd hS (c_X10_voters hk_a0 hc3) (cwV 2 hts gX10_standOf_X10_voters rfl rfl rfl hv_X10_voters ⟨Nat.le_of_ble_eq_true rfl, Nat.le_of_ble_eq_true rfl⟩) hk_a0 rfl rfl rfl rfl hl.1 rfl (Nat.le_of_ble_eq_true rfl) dX10_standOf_3 ⟨Nat.zero_le _, Nat.zero_le _⟩ (fun H locs hd hS => ?_)
  obtain ⟨r5, μ4, hc6, h⟩ := bC_e h
  refine rc_Si (rest := []) [.int r2] ⟨hx, hb, hml, hown, hts⟩ hK hd hS (c_X10_bits  hc6) (va_cwS 1 hts gX10_standOf_X10_bits rfl rfl rfl hn_X10_bits ⟨Nat.le_of_ble_eq_true rfl, Nat.le_of_ble_eq_true rfl⟩) rfl hl.1 rfl (Nat.le_of_ble_eq_true rfl) dX10_standOf_6 ⟨Nat.zero_le _, Nat.zero_le _⟩ (fun H locs hd hS => ?_)
  refine lv_aload_n hx hb dX10_standOf_9 rfl (lv_at hl 0 rfl) ?_
  refine lv_iload_n hx hb dX10_standOf_10 rfl (lv_at hl 1 rfl) ?_
  refine lv_iconst (v := 0) hx hb dX10_standOf_11 (by decide) ?_
  obtain ⟨r8, μ7, hc9, h⟩ := bC_e h
  refine rc_Vi (rest := [.int r5]) [.int x1, .int (0 : Int32)] ⟨hx, hb, hml, hown, hts⟩ hK hd hS (c_X10_voters hk_a0 hc9) (cwV 2 hts gX10_standOf_X10_voters rfl rfl rfl hv_X10_voters ⟨Nat.le_of_ble_eq_true rfl, Nat.le_of_ble_eq_true rfl⟩) hk_a0 rfl rfl rfl rfl hl.1 rfl (Nat.le_of_ble_eq_true rfl) dX10_standOf_12 ⟨Nat.zero_le _, Nat.zero_le _⟩ (fun H locs hd hS => ?_)
  obtain ⟨r11, μ10, hc12, h⟩ := bC_e h
  refine rc_Si (rest := [.int r5]) [.int r8] ⟨hx, hb, hml, hown, hts⟩ hK hd hS (c_X10_bits  hc12) (va_cwS 1 hts gX10_standOf_X10_bits rfl rfl rfl hn_X10_bits ⟨Nat.le_of_ble_eq_true rfl, Nat.le_of_ble_eq_true rfl⟩) rfl hl.1 rfl (Nat.le_of_ble_eq_true rfl) dX10_standOf_15 ⟨Nat.zero_le _, Nat.zero_le _⟩ (fun H locs hd hS => ?_)
  refine lv_isub hx hb dX10_standOf_18 ?_
  obtain ⟨r14, μ13, hc15, h⟩ := bC_e h
  refine rc_Si (rest := []) [.int (r5 - r11)] ⟨hx, hb, hml, hown, hts⟩ hK hd hS (c_X10_standsBy  hc15) (va_cwS 1 hts gX10_standOf_X10_standsBy rfl rfl rfl hn_X10_standsBy ⟨Nat.le_of_ble_eq_true rfl, Nat.le_of_ble_eq_true rfl⟩) rfl hl.1 rfl (Nat.le_of_ble_eq_true rfl) dX10_standOf_19 ⟨Nat.zero_le _, Nat.zero_le _⟩ (fun H locs hd hS => ?_)
  obtain ⟨rfl, rfl⟩ := so_e h
  exact rt_i hx hb hr hlk hd hS dX10_standOf_22
theorem hv_X10_standNow : yX10_standNow.cls = RX10 ∧ yX10_standNow.cls ≠ "java/lang/invoke/MethodHandle" ∧ yX10_standNow.cls ≠ "java/lang/invoke/VarHandle" ∧ (parseMethodDescriptor yX10_standNow.desc).map (fun d => d.parameters.length) = some 0 := by decide +kernel
abbrev HL_X10_standNow_4 (l : Launch) (D : va_G) (cA : Nat → ClassId) (z : Nat) (av : List Value) (r : Int32) (μ' : Mm) (p : Program) (e : Env) (s : State) (m : MethodId) (below : List Frame) (meth : Method) (c : Code) (rc : Mm → Nat → Int32 → Int32 → Option (Int32 × Mm)) : Prop := ∀ (μ : Mm) (H : Heap) (locs : List Loc) (ls : Array Slot) (a0 : Nat) (x1 : Int32) (x2 : Int32), kd a0 = 10 → Wd D cA z μ H → va_S (Az z) s.heap H locs → lv_has ls 3 [(0, .ref (z + a0)), (1, .int x1), (2, .int x2)] → rc μ a0 x1 x2 = some (r, μ') → WG l D cA z wsX10_standNow 2 45 av (some (.int r)) μ' p e s m below meth c H locs (F0 m 4 ls [])
def f_X10_standNow_L4b (rc4 : Mm → Nat → Int32 → Int32 → Option (Int32 × Mm)) (μ : Mm) (a0 : Nat) (x1 : Int32) (x2 : Int32) : Option (Int32 × Mm) := if (μ.1 a0 3) ≤ x2 then (some (x1, μ)) else (bR (μ.2 a0 25) (fun b2 => bC (f_X10_standOf μ a0 x2) (fun r4 μ3 => gd (ckb x2 (ln b2)) (bM (up2 μ3.1 b2 (x2).toNatClampNeg r4, μ3.2) (fun μ7 => bR (μ7.2 a0 25) (fun b8 => gd (ckb x2 (ln b8)) (bI (((10 : Int32) * x1) + (μ7.1 b8 (x2).toNatClampNeg)) (fun v10 => rc4 μ7 a0 v10 (x2 + (1 : Int32))))))))))
set_option maxRecDepth 100000 in
theorem k_f_X10_standNow_L4b {l : Launch} {D : va_G} {cA : Nat → ClassId} {z : Nat} {av : List Value} {p : Program} {e : Env} {s : State} {m : MethodId} {below : List Frame} {meth : Method} {c : Code} {r : Int32} {μ' : Mm} (X : Fx D cA RX10 wsX10_standNow cX10_standNow 3 (some .int) p s m av.toArray meth c) {rc4 : Mm → Nat → Int32 → Int32 → Option (Int32 × Mm)} (hrc4 : HL_X10_standNow_4 l D cA z av r μ' p e s m below meth c rc4) {μ : Mm} {a0 : Nat} {x1 : Int32} {x2 : Int32} (hk_a0 : kd a0 = 10) {H : Heap} {locs : List Loc} {ls : Array Slot} (hd : Wd D cA z μ H) (hS : va_S (Az z) s.heap H locs) (hl : lv_has ls 3 [(0, .ref (z + a0)), (1, .int x1), (2, .int x2)]) (h : f_X10_standNow_L4b rc4 μ a0 x1 x2 = some (r, μ')) : WG l D cA z wsX10_standNow 2 45 av (some (.int r)) μ' p e s m below meth c H locs (F0 m 4 ls []) := by
  obtain ⟨hx, hb, hr, hlk, hml, hown, hts, hK⟩ := id X
  unfold f_X10_standNow_L4b at h
  refine lv_iload_n hx hb dX10_standNow_4 rfl (lv_at hl 2 rfl) ?_
  refine lv_aload_n hx hb dX10_standNow_5 rfl (lv_at hl 0 rfl) ?_
  refine r_geti hx hb hts (fun w h => List.mem_cons_of_mem _ (List.mem_append_right _ (h))) hown hK hd hk_a0 rfl 3 fs_10_3 (hts (.fieldLink RX10 98 "LevelVotesModel" "items" "I") (List.mem_of_getElem? (i := 1) rfl)) dX10_standNow_6 ?_
  refine lv_icmp_ge (tgt := 41) hx hb dX10_standNow_9 (by decide) (fun q1 => ?_) (fun q1 => ?_)
  · have h := if_y q1 h
    refine lv_iload_n hx hb dX10_standNow_41 rfl (lv_at hl 1 rfl) ?_
    obtain ⟨rfl, rfl⟩ := so_e h
    exact rt_i hx hb hr hlk hd hS dX10_standNow_42
  · have h := if_n q1 h
    refine lv_aload_n hx hb dX10_standNow_12 rfl (lv_at hl 0 rfl) ?_
    obtain ⟨b2, hb2, h⟩ := bR_e h
    refine r_getr hx hb hts (fun w h => List.mem_cons_of_mem _ (List.mem_append_right _ (h))) hown hK hd hk_a0 hb2 rfl fs_10_25 (hts (.fieldLink RX10 50 "LevelVotesModel" "stands" "[I") (List.mem_of_getElem? (i := 2) rfl)) dX10_standNow_13 (fun hq => ?_)
    have hk_b2 : kd b2 = 11 := hq
    refine lv_iload_n hx hb dX10_standNow_16 rfl (lv_at hl 2 rfl) ?_
    refine lv_aload_n hx hb dX10_standNow_17 rfl (lv_at hl 0 rfl) ?_
    refine lv_iload_n hx hb dX10_standNow_18 rfl (lv_at hl 2 rfl) ?_
    obtain ⟨r4, μ3, hc5, h⟩ := bC_e h
    refine rc_Vi (rest := [.int x2, .ref (z + b2)]) [.int x2] ⟨hx, hb, hml, hown, hts⟩ hK hd hS (c_X10_standOf hk_a0 hc5) (cwV 1 hts gX10_standNow_X10_standOf rfl rfl rfl hv_X10_standOf ⟨Nat.le_of_ble_eq_true rfl, Nat.le_of_ble_eq_true rfl⟩) hk_a0 rfl rfl rfl rfl hl.1 rfl (Nat.le_of_ble_eq_true rfl) dX10_standNow_19 ⟨Nat.zero_le _, Nat.zero_le _⟩ (fun H locs hd hS => ?_)
    obtain ⟨g6, h⟩ := gd_e h
    refine r_iast hx hb hK hd hS hk_b2 (ckb_in g6) dX10_standNow_22 (fun μ7 eμ7 H locs hd hS => ?_)
    have h := bM_e eμ7 h
    refine lv_bipush (v := 10) hx hb dX10_standNow_23 (by decide) ?_
    refine lv_iload_n hx hb dX10_standNow_25 rfl (lv_at hl 1 rfl) ?_
    refine lv_imul hx hb dX10_standNow_26 ?_
    refine lv_aload_n hx hb dX10_standNow_27 rfl (lv_at hl 0 rfl) ?_
    obtain ⟨b8, hb8, h⟩ := bR_e h
    refine r_getr hx hb hts (fun w h => List.mem_cons_of_mem _ (List.mem_append_right _ (h))) hown hK hd hk_a0 hb8 rfl fs_10_25 (hts (.fieldLink RX10 50 "LevelVotesModel" "stands" "[I") (List.mem_of_getElem? (i := 2) rfl)) dX10_standNow_28 (fun hq => ?_)
    have hk_b8 : kd b8 = 11 := hq
    refine lv_iload_n hx hb dX10_standNow_31 rfl (lv_at hl 2 rfl) ?_
    obtain ⟨g9, h⟩ := gd_e h
    refine r_iald hx hb hK hd hk_b8 (ckb_in g9) dX10_standNow_32 ?_
    refine lv_iadd hx hb dX10_standNow_33 ?_
    refine lv_topi (fun v10 ev10 => ?_)
    have h := bI_e ev10 h
    refine lv_istore_n (lv' := [(1, .int v10), (0, .ref (z + a0)), (2, .int x2)]) hx hb dX10_standNow_34 rfl hl (by decide) rfl (fun ls hl => ?_)
    refine lv_iinc (v := x2 + (1 : Int32)) (lv' := [(2, .int (x2 + (1 : Int32))), (1, .int v10), (0, .ref (z + a0))]) hx hb dX10_standNow_35 hl (k := 2) rfl rfl (by decide) rfl (fun ls hl => ?_)
    refine lv_goto (tgt := 4) hx hb dX10_standNow_38 (by decide) ?_
    exact hrc4 _ _ _ _ _ _ _ hk_a0 hd hS (lv_sub hl [2, 1, 0] rfl) h
def f_X10_standNow_L4 : Nat → Mm → Nat → Int32 → Int32 → Option (Int32 × Mm)
  | 0 => fun _ _ _ _ => none
  | n + 1 => fun μ a0 x1 x2 => f_X10_standNow_L4b (f_X10_standNow_L4 n) μ a0 x1 x2
theorem k_f_X10_standNow_L4 {l : Launch} {D : va_G} {cA : Nat → ClassId} {z : Nat} {av : List Value} {p : Program} {e : Env} {s : State} {m : MethodId} {below : List Frame} {meth : Method} {c : Code} {r : Int32} {μ' : Mm} (X : Fx D cA RX10 wsX10_standNow cX10_standNow 3 (some .int) p s m av.toArray meth c) (n : Nat) : HL_X10_standNow_4 l D cA z av r μ' p e s m below meth c (f_X10_standNow_L4 n) := by
  induction n with
  | zero => intro _ _ _ _ _ _ _ _ _ _ _ h; have h2 : (none : Option _) = some _ := h; cases h2
  | succ n ih => intro μ H locs ls a0 x1 x2 hk_a0 hd hS hl h; exact k_f_X10_standNow_L4b X ih hk_a0 hd hS hl h
def f_X10_standNow (μ : Mm) (a0 : Nat) : Option (Int32 × Mm) := f_X10_standNow_L4 FU μ a0 (0 : Int32) (0 : Int32)
set_option maxRecDepth 100000 in
theorem c_X10_standNow {l : Launch} {D : va_G} {cA : Nat → ClassId} {z : Nat} {μ : Mm} {a0 : Nat} {r : Int32} {μ' : Mm} (hk_a0 : kd a0 = 10) (h : f_X10_standNow μ a0 = some (r, μ')) : Ct l D cA z yX10_standNow wsX10_standNow 2 45 [.ref (z + a0)] μ (some (.int r)) μ' := by
  refine m_in (cc := cX10_standNow) (maxL := 3) (ret := (some .int)) (own := RX10) (by decide) rfl rfl (Nat.le_of_ble_eq_true rfl) ?_
  intro p e s m below meth c ls X hd hS hl
  obtain ⟨hx, hb, hr, hlk, hml, hown, hts, hK⟩ := id X
  have hl : lv_has ls 3 [(0, .ref (z + a0))] := hl
  unfold f_X10_standNow at h
  refine lv_iconst (v := 0) hx hb dX10_standNow_0 (by decide) ?_
  refine lv_istore_n (lv' := [(1, .int (0 : Int32)), (0, .ref (z + a0))]) hx hb dX10_standNow_1 rfl hl (by decide) rfl (fun ls hl => ?_)
  refine lv_iconst (v := 0) hx hb dX10_standNow_2 (by decide) ?_
  refine lv_istore_n (lv' := [(2, .int (0 : Int32)), (1, .int (0 : Int32)), (0, .ref (z + a0))]) hx hb dX10_standNow_3 rfl hl (by decide) rfl (fun ls hl => ?_)
  exact k_f_X10_standNow_L4 X FU _ _ _ _ _ _ _ hk_a0 hd hS (lv_sub hl [2, 1, 0] rfl) h
theorem hv_X10_standBy : yX10_standBy.cls = RX10 ∧ yX10_standBy.cls ≠ "java/lang/invoke/MethodHandle" ∧ yX10_standBy.cls ≠ "java/lang/invoke/VarHandle" ∧ (parseMethodDescriptor yX10_standBy.desc).map (fun d => d.parameters.length) = some 1 := by decide +kernel
abbrev HL_X10_standBy_15 (l : Launch) (D : va_G) (cA : Nat → ClassId) (z : Nat) (av : List Value) (r : Int32) (μ' : Mm) (p : Program) (e : Env) (s : State) (m : MethodId) (below : List Frame) (meth : Method) (c : Code) (rc : Mm → Nat → Int32 → Int32 → Int32 → Int32 → Option (Int32 × Mm)) : Prop := ∀ (μ : Mm) (H : Heap) (locs : List Loc) (ls : Array Slot) (a0 : Nat) (x2 : Int32) (x3 : Int32) (x4 : Int32) (x5 : Int32), kd a0 = 10 → Wd D cA z μ H → va_S (Az z) s.heap H locs → lv_has ls 6 [(0, .ref (z + a0)), (2, .int x2), (3, .int x3), (4, .int x4), (5, .int x5)] → rc μ a0 x2 x3 x4 x5 = some (r, μ') → WG l D cA z wsX10_standBy 0 0 av (some (.int r)) μ' p e s m below meth c H locs (F0 m 15 ls [])
def f_X10_standBy_L15b (rc15 : Mm → Nat → Int32 → Int32 → Int32 → Int32 → Option (Int32 × Mm)) (μ : Mm) (a0 : Nat) (x2 : Int32) (x3 : Int32) (x4 : Int32) (x5 : Int32) : Option (Int32 × Mm) := if x5 < 0 then (some (x3, μ)) else (bR (μ.2 a0 25) (fun b2 => gd (ckb x5 (ln b2)) (bM (up2 μ.1 b2 (x5).toNatClampNeg (x2 - x2 / (3 : Int32) * (3 : Int32)), μ.2) (fun μ4 => bI (x2 / (3 : Int32)) (fun v5 => bR (μ4.2 a0 25) (fun b6 => gd (ckb x5 (ln b6)) (bI (x3 + (x4 * (μ4.1 b6 (x5).toNatClampNeg))) (fun v8 => bI (x4 * (10 : Int32)) (fun v9 => rc15 μ4 a0 v5 v8 v9 (x5 + (-1 : Int32)))))))))))
set_option maxRecDepth 100000 in
theorem k_f_X10_standBy_L15b {l : Launch} {D : va_G} {cA : Nat → ClassId} {z : Nat} {av : List Value} {p : Program} {e : Env} {s : State} {m : MethodId} {below : List Frame} {meth : Method} {c : Code} {r : Int32} {μ' : Mm} (X : Fx D cA RX10 wsX10_standBy cX10_standBy 6 (some .int) p s m av.toArray meth c) {rc15 : Mm → Nat → Int32 → Int32 → Int32 → Int32 → Option (Int32 × Mm)} (hrc15 : HL_X10_standBy_15 l D cA z av r μ' p e s m below meth c rc15) {μ : Mm} {a0 : Nat} {x2 : Int32} {x3 : Int32} {x4 : Int32} {x5 : Int32} (hk_a0 : kd a0 = 10) {H : Heap} {locs : List Loc} {ls : Array Slot} (hd : Wd D cA z μ H) (hS : va_S (Az z) s.heap H locs) (hl : lv_has ls 6 [(0, .ref (z + a0)), (2, .int x2), (3, .int x3), (4, .int x4), (5, .int x5)]) (h : f_X10_standBy_L15b rc15 μ a0 x2 x3 x4 x5 = some (r, μ')) : WG l D cA z wsX10_standBy 0 0 av (some (.int r)) μ' p e s m below meth c H locs (F0 m 15 ls []) := by
  obtain ⟨hx, hb, hr, hlk, hml, hown, hts, hK⟩ := id X
  unfold f_X10_standBy_L15b at h
  refine lv_iload hx hb dX10_standBy_15 (lv_at hl 4 rfl) ?_
  refine lv_if_lt (tgt := 60) hx hb dX10_standBy_17 (by decide) (fun q1 => ?_) (fun q1 => ?_)
  · have h := if_y q1 h
    refine lv_iload_n hx hb dX10_standBy_60 rfl (lv_at hl 2 rfl) ?_
    obtain ⟨rfl, rfl⟩ := so_e h
    exact rt_i hx hb hr hlk hd hS dX10_standBy_61
  · have h := if_n q1 h
    refine lv_aload_n hx hb dX10_standBy_20 rfl (lv_at hl 0 rfl) ?_
    obtain ⟨b2, hb2, h⟩ := bR_e h
    refine r_getr hx hb hts (fun w h => List.mem_cons_of_mem _ (List.mem_append_right _ (h))) hown hK hd hk_a0 hb2 rfl fs_10_25 (hts (.fieldLink RX10 50 "LevelVotesModel" "stands" "[I") (List.mem_of_getElem? (i := 2) rfl)) dX10_standBy_21 (fun hq => ?_)
    have hk_b2 : kd b2 = 11 := hq
    refine lv_iload hx hb dX10_standBy_24 (lv_at hl 4 rfl) ?_
    refine lv_iload_n hx hb dX10_standBy_26 rfl (lv_at hl 1 rfl) ?_
    refine lv_iconst (v := 3) hx hb dX10_standBy_27 (by decide) ?_
    refine lv_irem hx hb dX10_standBy_28 (by decide) ?_
    obtain ⟨g3, h⟩ := gd_e h
    refine r_iast hx hb hK hd hS hk_b2 (ckb_in g3) dX10_standBy_29 (fun μ4 eμ4 H locs hd hS => ?_)
    have h := bM_e eμ4 h
    refine lv_iload_n hx hb dX10_standBy_30 rfl (lv_at hl 1 rfl) ?_
    refine lv_iconst (v := 3) hx hb dX10_standBy_31 (by decide) ?_
    refine lv_idiv hx hb dX10_standBy_32 (by decide) ?_
    refine lv_topi (fun v5 ev5 => ?_)
    have h := bI_e ev5 h
    refine lv_istore_n (lv' := [(2, .int v5), (0, .ref (z + a0)), (3, .int x3), (4, .int x4), (5, .int x5)]) hx hb dX10_standBy_33 rfl hl (by decide) rfl (fun ls hl => ?_)
    refine lv_iload_n hx hb dX10_standBy_34 rfl (lv_at hl 2 rfl) ?_
    refine lv_iload hx hb dX10_standBy_35 (lv_at hl 3 rfl) ?_
    refine lv_aload_n hx hb dX10_standBy_37 rfl (lv_at hl 1 rfl) ?_
    obtain ⟨b6, hb6, h⟩ := bR_e h
    refine r_getr hx hb hts (fun w h => List.mem_cons_of_mem _ (List.mem_append_right _ (h))) hown hK hd hk_a0 hb6 rfl fs_10_25 (hts (.fieldLink RX10 50 "LevelVotesModel" "stands" "[I") (List.mem_of_getElem? (i := 2) rfl)) dX10_standBy_38 (fun hq => ?_)
    have hk_b6 : kd b6 = 11 := hq
    refine lv_iload hx hb dX10_standBy_41 (lv_at hl 4 rfl) ?_
    obtain ⟨g7, h⟩ := gd_e h
    refine r_iald hx hb hK hd hk_b6 (ckb_in g7) dX10_standBy_43 ?_
    refine lv_imul hx hb dX10_standBy_44 ?_
    refine lv_iadd hx hb dX10_standBy_45 ?_
    refine lv_topi (fun v8 ev8 => ?_)
    have h := bI_e ev8 h
    refine lv_istore_n (lv' := [(3, .int v8), (2, .int v5), (0, .ref (z + a0)), (4, .int x4), (5, .int x5)]) hx hb dX10_standBy_46 rfl hl (by decide) rfl (fun ls hl => ?_)
    refine lv_iload hx hb dX10_standBy_47 (lv_at hl 3 rfl) ?_
    refine lv_bipush (v := 10) hx hb dX10_standBy_49 (by decide) ?_
    refine lv_imul hx hb dX10_standBy_51 ?_
    refine lv_topi (fun v9 ev9 => ?_)
    have h := bI_e ev9 h
    refine lv_istore (lv' := [(4, .int v9), (3, .int v8), (2, .int v5), (0, .ref (z + a0)), (5, .int x5)]) hx hb dX10_standBy_52 hl (by decide) rfl (fun ls hl => ?_)
    refine lv_iinc (v := x5 + (-1 : Int32)) (lv' := [(5, .int (x5 + (-1 : Int32))), (4, .int v9), (3, .int v8), (2, .int v5), (0, .ref (z + a0))]) hx hb dX10_standBy_54 hl (k := 4) rfl rfl (by decide) rfl (fun ls hl => ?_)
    refine lv_goto (tgt := 15) hx hb dX10_standBy_57 (by decide) ?_
    exact hrc15 _ _ _ _ _ _ _ _ _ hk_a0 hd hS (lv_sub hl [4, 3, 2, 1, 0] rfl) h
def f_X10_standBy_L15 : Nat → Mm → Nat → Int32 → Int32 → Int32 → Int32 → Option (Int32 × Mm)
  | 0 => fun _ _ _ _ _ _ => none
  | n + 1 => fun μ a0 x2 x3 x4 x5 => f_X10_standBy_L15b (f_X10_standBy_L15 n) μ a0 x2 x3 x4 x5
theorem k_f_X10_standBy_L15 {l : Launch} {D : va_G} {cA : Nat → ClassId} {z : Nat} {av : List Value} {p : Program} {e : Env} {s : State} {m : MethodId} {below : List Frame} {meth : Method} {c : Code} {r : Int32} {μ' : Mm} (X : Fx D cA RX10 wsX10_standBy cX10_standBy 6 (some .int) p s m av.toArray meth c) (n : Nat) : HL_X10_standBy_15 l D cA z av r μ' p e s m below meth c (f_X10_standBy_L15 n) := by
  induction n with
  | zero => intro _ _ _ _ _ _ _ _ _ _ _ _ _ h; have h2 : (none : Option _) = some _ := h; cases h2
  | succ n ih => intro μ H locs ls a0 x2 x3 x4 x5 hk_a0 hd hS hl h; exact k_f_X10_standBy_L15b X ih hk_a0 hd hS hl h
def f_X10_standBy (μ : Mm) (a0 : Nat) (x1 : Int32) : Option (Int32 × Mm) := bI ((μ.1 a0 3) - (1 : Int32)) (fun v1 => f_X10_standBy_L15 FU μ a0 x1 (0 : Int32) (1 : Int32) v1)
set_option maxRecDepth 100000 in
theorem c_X10_standBy {l : Launch} {D : va_G} {cA : Nat → ClassId} {z : Nat} {μ : Mm} {a0 : Nat} {x1 : Int32} {r : Int32} {μ' : Mm} (hk_a0 : kd a0 = 10) (h : f_X10_standBy μ a0 x1 = some (r, μ')) : Ct l D cA z yX10_standBy wsX10_standBy 0 0 [.ref (z + a0), .int x1] μ (some (.int r)) μ' := by
  refine m_in (cc := cX10_standBy) (maxL := 6) (ret := (some .int)) (own := RX10) (by decide) rfl rfl (Nat.le_of_ble_eq_true rfl) ?_
  intro p e s m below meth c ls X hd hS hl
  obtain ⟨hx, hb, hr, hlk, hml, hown, hts, hK⟩ := id X
  have hl : lv_has ls 6 [(0, .ref (z + a0)), (1, .int x1)] := hl
  unfold f_X10_standBy at h
  refine lv_iload_n hx hb dX10_standBy_0 rfl (lv_at hl 1 rfl) ?_
  refine lv_istore_n (lv' := [(2, .int x1), (0, .ref (z + a0)), (1, .int x1)]) hx hb dX10_standBy_1 rfl hl (by decide) rfl (fun ls hl => ?_)
  refine lv_iconst (v := 0) hx hb dX10_standBy_2 (by decide) ?_
  refine lv_istore_n (lv' := [(3, .int (0 : Int32)), (2, .int x1), (0, .ref (z + a0)), (1, .int x1)]) hx hb dX10_standBy_3 rfl hl (by decide) rfl (fun ls hl => ?_)
  refine lv_iconst (v := 1) hx hb dX10_standBy_4 (by decide) ?_
  refine lv_istore (lv' := [(4, .int (1 : Int32)), (3, .int (0 : Int32)), (2, .int x1), (0, .ref (z + a0)), (1, .int x1)]) hx hb dX10_standBy_5 hl (by decide) rfl (fun ls hl => ?_)
  refine lv_aload_n hx hb dX10_standBy_7 rfl (lv_at hl 3 rfl) ?_
  refine r_geti hx hb hts (fun w h => List.mem_cons_of_mem _ (List.mem_append_right _ (h))) hown hK hd hk_a0 rfl 3 fs_10_3 (hts (.fieldLink RX10 98 "LevelVotesModel" "items" "I") (List.mem_of_getElem? (i := 1) rfl)) dX10_standBy_8 ?_
  refine lv_iconst (v := 1) hx hb dX10_standBy_11 (by decide) ?_
  refine lv_isub hx hb dX10_standBy_12 ?_
  refine lv_topi (fun v1 ev1 => ?_)
  have h := bI_e ev1 h
  refine lv_istore (lv' := [(5, .int v1), (4, .int (1 : Int32)), (3, .int (0 : Int32)), (2, .int x1), (0, .ref (z + a0)), (1, .int x1)]) hx hb dX10_standBy_13 hl (by decide) rfl (fun ls hl => ?_)
  exact k_f_X10_standBy_L15 X FU _ _ _ _ _ _ _ _ _ hk_a0 hd hS (lv_sub hl [4, 3, 2, 1, 0] rfl) h
theorem hv_X10_waysToStand : yX10_waysToStand.cls = RX10 ∧ yX10_waysToStand.cls ≠ "java/lang/invoke/MethodHandle" ∧ yX10_waysToStand.cls ≠ "java/lang/invoke/VarHandle" ∧ (parseMethodDescriptor yX10_waysToStand.desc).map (fun d => d.parameters.length) = some 0 := by decide +kernel
abbrev HL_X10_waysToStand_4 (l : Launch) (D : va_G) (cA : Nat → ClassId) (z : Nat) (av : List Value) (r : Int32) (μ' : Mm) (p : Program) (e : Env) (s : State) (m : MethodId) (below : List Frame) (meth : Method) (c : Code) (rc : Mm → Nat → Int32 → Int32 → Option (Int32 × Mm)) : Prop := ∀ (μ : Mm) (H : Heap) (locs : List Loc) (ls : Array Slot) (a0 : Nat) (x1 : Int32) (x2 : Int32), kd a0 = 10 → Wd D cA z μ H → va_S (Az z) s.heap H locs → lv_has ls 3 [(0, .ref (z + a0)), (1, .int x1), (2, .int x2)] → rc μ a0 x1 x2 = some (r, μ') → WG l D cA z wsX10_waysToStand 0 0 av (some (.int r)) μ' p e s m below meth c H locs (F0 m 4 ls [])
def f_X10_waysToStand_L4b (rc4 : Mm → Nat → Int32 → Int32 → Option (Int32 × Mm)) (μ : Mm) (a0 : Nat) (x1 : Int32) (x2 : Int32) : Option (Int32 × Mm) := if (μ.1 a0 3) ≤ x2 then (some (x1, μ)) else (bI (x1 * (3 : Int32)) (fun v2 => rc4 μ a0 v2 (x2 + (1 : Int32))))
set_option maxRecDepth 100000 in
theorem k_f_X10_waysToStand_L4b {l : Launch} {D : va_G} {cA : Nat → ClassId} {z : Nat} {av : List Value} {p : Program} {e : Env} {s : State} {m : MethodId} {below : List Frame} {meth : Method} {c : Code} {r : Int32} {μ' : Mm} (X : Fx D cA RX10 wsX10_waysToStand cX10_waysToStand 3 (some .int) p s m av.toArray meth c) {rc4 : Mm → Nat → Int32 → Int32 → Option (Int32 × Mm)} (hrc4 : HL_X10_waysToStand_4 l D cA z av r μ' p e s m below meth c rc4) {μ : Mm} {a0 : Nat} {x1 : Int32} {x2 : Int32} (hk_a0 : kd a0 = 10) {H : Heap} {locs : List Loc} {ls : Array Slot} (hd : Wd D cA z μ H) (hS : va_S (Az z) s.heap H locs) (hl : lv_has ls 3 [(0, .ref (z + a0)), (1, .int x1), (2, .int x2)]) (h : f_X10_waysToStand_L4b rc4 μ a0 x1 x2 = some (r, μ')) : WG l D cA z wsX10_waysToStand 0 0 av (some (.int r)) μ' p e s m below meth c H locs (F0 m 4 ls []) := by
  obtain ⟨hx, hb, hr, hlk, hml, hown, hts, hK⟩ := id X
  unfold f_X10_waysToStand_L4b at h
  refine lv_iload_n hx hb dX10_waysToStand_4 rfl (lv_at hl 2 rfl) ?_
  refine lv_aload_n hx hb dX10_waysToStand_5 rfl (lv_at hl 0 rfl) ?_
  refine r_geti hx hb hts (fun w h => List.mem_cons_of_mem _ (List.mem_append_right _ (h))) hown hK hd hk_a0 rfl 3 fs_10_3 (hts (.fieldLink RX10 98 "LevelVotesModel" "items" "I") (List.mem_of_getElem? (i := 1) rfl)) dX10_waysToStand_6 ?_
  refine lv_icmp_ge (tgt := 22) hx hb dX10_waysToStand_9 (by decide) (fun q1 => ?_) (fun q1 => ?_)
  · have h := if_y q1 h
    refine lv_iload_n hx hb dX10_waysToStand_22 rfl (lv_at hl 1 rfl) ?_
    obtain ⟨rfl, rfl⟩ := so_e h
    exact rt_i hx hb hr hlk hd hS dX10_waysToStand_23
  · have h := if_n q1 h
    refine lv_iload_n hx hb dX10_waysToStand_12 rfl (lv_at hl 1 rfl) ?_
    refine lv_iconst (v := 3) hx hb dX10_waysToStand_13 (by decide) ?_
    refine lv_imul hx hb dX10_waysToStand_14 ?_
    refine lv_topi (fun v2 ev2 => ?_)
    have h := bI_e ev2 h
    refine lv_istore_n (lv' := [(1, .int v2), (0, .ref (z + a0)), (2, .int x2)]) hx hb dX10_waysToStand_15 rfl hl (by decide) rfl (fun ls hl => ?_)
    refine lv_iinc (v := x2 + (1 : Int32)) (lv' := [(2, .int (x2 + (1 : Int32))), (1, .int v2), (0, .ref (z + a0))]) hx hb dX10_waysToStand_16 hl (k := 2) rfl rfl (by decide) rfl (fun ls hl => ?_)
    refine lv_goto (tgt := 4) hx hb dX10_waysToStand_19 (by decide) ?_
    exact hrc4 _ _ _ _ _ _ _ hk_a0 hd hS (lv_sub hl [2, 1, 0] rfl) h
def f_X10_waysToStand_L4 : Nat → Mm → Nat → Int32 → Int32 → Option (Int32 × Mm)
  | 0 => fun _ _ _ _ => none
  | n + 1 => fun μ a0 x1 x2 => f_X10_waysToStand_L4b (f_X10_waysToStand_L4 n) μ a0 x1 x2
theorem k_f_X10_waysToStand_L4 {l : Launch} {D : va_G} {cA : Nat → ClassId} {z : Nat} {av : List Value} {p : Program} {e : Env} {s : State} {m : MethodId} {below : List Frame} {meth : Method} {c : Code} {r : Int32} {μ' : Mm} (X : Fx D cA RX10 wsX10_waysToStand cX10_waysToStand 3 (some .int) p s m av.toArray meth c) (n : Nat) : HL_X10_waysToStand_4 l D cA z av r μ' p e s m below meth c (f_X10_waysToStand_L4 n) := by
  induction n with
  | zero => intro _ _ _ _ _ _ _ _ _ _ _ h; have h2 : (none : Option _) = some _ := h; cases h2
  | succ n ih => intro μ H locs ls a0 x1 x2 hk_a0 hd hS hl h; exact k_f_X10_waysToStand_L4b X ih hk_a0 hd hS hl h
def f_X10_waysToStand (μ : Mm) (a0 : Nat) : Option (Int32 × Mm) := f_X10_waysToStand_L4 FU μ a0 (1 : Int32) (0 : Int32)
set_option maxRecDepth 100000 in
theorem c_X10_waysToStand {l : Launch} {D : va_G} {cA : Nat → ClassId} {z : Nat} {μ : Mm} {a0 : Nat} {r : Int32} {μ' : Mm} (hk_a0 : kd a0 = 10) (h : f_X10_waysToStand μ a0 = some (r, μ')) : Ct l D cA z yX10_waysToStand wsX10_waysToStand 0 0 [.ref (z + a0)] μ (some (.int r)) μ' := by
  refine m_in (cc := cX10_waysToStand) (maxL := 3) (ret := (some .int)) (own := RX10) (by decide) rfl rfl (Nat.le_of_ble_eq_true rfl) ?_
  intro p e s m below meth c ls X hd hS hl
  obtain ⟨hx, hb, hr, hlk, hml, hown, hts, hK⟩ := id X
  have hl : lv_has ls 3 [(0, .ref (z + a0))] := hl
  unfold f_X10_waysToStand at h
  refine lv_iconst (v := 1) hx hb dX10_waysToStand_0 (by decide) ?_
  refine lv_istore_n (lv' := [(1, .int (1 : Int32)), (0, .ref (z + a0))]) hx hb dX10_waysToStand_1 rfl hl (by decide) rfl (fun ls hl => ?_)
  refine lv_iconst (v := 0) hx hb dX10_waysToStand_2 (by decide) ?_
  refine lv_istore_n (lv' := [(2, .int (0 : Int32)), (1, .int (1 : Int32)), (0, .ref (z + a0))]) hx hb dX10_waysToStand_3 rfl hl (by decide) rfl (fun ls hl => ?_)
  exact k_f_X10_waysToStand_L4 X FU _ _ _ _ _ _ _ hk_a0 hd hS (lv_sub hl [2, 1, 0] rfl) h
theorem hv_X10_isOf : yX10_isOf.cls = RX10 ∧ yX10_isOf.cls ≠ "java/lang/invoke/MethodHandle" ∧ yX10_isOf.cls ≠ "java/lang/invoke/VarHandle" ∧ (parseMethodDescriptor yX10_isOf.desc).map (fun d => d.parameters.length) = some 2 := by decide +kernel
def f_X10_isOf (μ : Mm) (a0 : Nat) (x1 : Int32) (x2 : Int32) : Option (Int32 × Mm) := gd (ck0 (μ.1 a0 0)) (bI (x2 / (μ.1 a0 0)) (fun v2 => gd (ck0 (μ.1 a0 0)) (bI (x2 - x2 / (μ.1 a0 0) * (μ.1 a0 0)) (fun v4 => bR (μ.2 a0 4) (fun b5 => gd (ckb x1 (ln b5)) (gd (ck0 (μ.1 a0 0)) (bR (μ.2 a0 5) (fun b8 => gd (ckb x1 (ln b8)) (gd (ck0 (μ.1 a0 0)) (bC (f_X10_in μ (v2.toInt64) (((μ.1 b5 (x1).toNatClampNeg) / (μ.1 a0 0)).toInt64) (((μ.1 b8 (x1).toNatClampNeg) / (μ.1 a0 0)).toInt64)) (fun r12 μ11 => if r12 = 0 then (some ((0 : Int32), μ11)) else (bR (μ11.2 a0 4) (fun b15 => gd (ckb x1 (ln b15)) (gd (ck0 (μ11.1 a0 0)) (bR (μ11.2 a0 5) (fun b18 => gd (ckb x1 (ln b18)) (gd (ck0 (μ11.1 a0 0)) (bC (f_X10_in μ11 (v4.toInt64) (((μ11.1 b15 (x1).toNatClampNeg) - (μ11.1 b15 (x1).toNatClampNeg) / (μ11.1 a0 0) * (μ11.1 a0 0)).toInt64) (((μ11.1 b18 (x1).toNatClampNeg) - (μ11.1 b18 (x1).toNatClampNeg) / (μ11.1 a0 0) * (μ11.1 a0 0)).toInt64)) (fun r22 μ21 => if r22 = 0 then (some ((0 : Int32), μ21)) else (some ((1 : Int32), μ21)))))))))))))))))))))
set_option maxRecDepth 100000 in
theorem c_X10_isOf {l : Launch} {D : va_G} {cA : Nat → ClassId} {z : Nat} {μ : Mm} {a0 : Nat} {x1 : Int32} {x2 : Int32} {r : Int32} {μ' : Mm} (hk_a0 : kd a0 = 10) (h : f_X10_isOf μ a0 x1 x2 = some (r, μ')) : Ct l D cA z yX10_isOf wsX10_isOf 1 25 [.ref (z + a0), .int x1, .int x2] μ (some (.int r)) μ' := by
  refine m_in (cc := cX10_isOf) (maxL := 6) (ret := (some .boolean)) (own := RX10) (by decide) rfl rfl (Nat.le_of_ble_eq_true rfl) ?_
  intro p e s m below meth c ls X hd hS hl
  obtain ⟨hx, hb, hr, hlk, hml, hown, hts, hK⟩ := id X
  have hl : lv_has ls 6 [(0, .ref (z + a0)), (1, .int x1), (2, .int x2)] := hl
  unfold f_X10_isOf at h
  refine lv_iload_n hx hb dX10_isOf_0 rfl (lv_at hl 2 rfl) ?_
  refine lv_aload_n hx hb dX10_isOf_1 rfl (lv_at hl 0 rfl) ?_
  refine r_geti hx hb hts (fun w h => List.mem_cons_of_mem _ (List.mem_append_right _ (h))) hown hK hd hk_a0 rfl 0 fs_10_0 (hts (.fieldLink RX10 84 "LevelVotesModel" "columns" "I") (List.mem_of_getElem? (i := 1) rfl)) dX10_isOf_2 ?_
  obtain ⟨g1, h⟩ := gd_e h
  refine lv_idiv hx hb dX10_isOf_5 (ck0_ne g1) ?_
  refine lv_topi (fun v2 ev2 => ?_)
  have h := bI_e ev2 h
  refine lv_istore_n (lv' := [(3, .int v2), (0, .ref (z + a0)), (1, .int x1), (2, .int x2)]) hx hb dX10_isOf_6 rfl hl (by decide) rfl (fun ls hl => ?_)
  refine lv_iload_n hx hb dX10_isOf_7 rfl (lv_at hl 3 rfl) ?_
  refine lv_aload_n hx hb dX10_isOf_8 rfl (lv_at hl 1 rfl) ?_
  refine r_geti hx hb hts (fun w h => List.mem_cons_of_mem _ (List.mem_append_right _ (h))) hown hK hd hk_a0 rfl 0 fs_10_0 (hts (.fieldLink RX10 84 "LevelVotesModel" "columns" "I") (List.mem_of_getElem? (i := 1) rfl)) dX10_isOf_9 ?_
  obtain ⟨g3, h⟩ := gd_e h
  refine lv_irem hx hb dX10_isOf_12 (ck0_ne g3) ?_
  refine lv_topi (fun v4 ev4 => ?_)
  have h := bI_e ev4 h
  refine lv_istore (lv' := [(4, .int v4), (3, .int v2), (0, .ref (z + a0)), (1, .int x1), (2, .int x2)]) hx hb dX10_isOf_13 hl (by decide) rfl (fun ls hl => ?_)
  refine lv_iload_n hx hb dX10_isOf_15 rfl (lv_at hl 1 rfl) ?_
  refine lv_i2l hx hb dX10_isOf_16 rfl ?_
  refine lv_aload_n hx hb dX10_isOf_17 rfl (lv_at hl 2 rfl) ?_
  obtain ⟨b5, hb5, h⟩ := bR_e h
  refine r_getr hx hb hts (fun w h => List.mem_cons_of_mem _ (List.mem_append_right _ (h))) hown hK hd hk_a0 hb5 rfl fs_10_4 (hts (.fieldLink RX10 13 "LevelVotesModel" "itemFrom" "[I") (List.mem_of_getElem? (i := 2) rfl)) dX10_isOf_18 (fun hq => ?_)
  have hk_b5 : kd b5 = 11 := hq
  refine lv_iload_n hx hb dX10_isOf_21 rfl (lv_at hl 3 rfl) ?_
  obtain ⟨g6, h⟩ := gd_e h
  refine r_iald hx hb hK hd hk_b5 (ckb_in g6) dX10_isOf_22 ?_
  refine lv_aload_n hx hb dX10_isOf_23 rfl (lv_at hl 2 rfl) ?_
  refine r_geti hx hb hts (fun w h => List.mem_cons_of_mem _ (List.mem_append_right _ (h))) hown hK hd hk_a0 rfl 0 fs_10_0 (hts (.fieldLink RX10 84 "LevelVotesModel" "columns" "I") (List.mem_of_getElem? (i := 1) rfl)) dX10_isOf_24 ?_
  obtain ⟨g7, h⟩ := gd_e h
  refine lv_idiv hx hb dX10_isOf_27 (ck0_ne g7) ?_
  refine lv_i2l hx hb dX10_isOf_28 rfl ?_
  refine lv_aload_n hx hb dX10_isOf_29 rfl (lv_at hl 2 rfl) ?_
  obtain ⟨b8, hb8, h⟩ := bR_e h
  refine r_getr hx hb hts (fun w h => List.mem_cons_of_mem _ (List.mem_append_right _ (h))) hown hK hd hk_a0 hb8 rfl fs_10_5 (hts (.fieldLink RX10 16 "LevelVotesModel" "itemTo" "[I") (List.mem_of_getElem? (i := 3) rfl)) dX10_isOf_30 (fun hq => ?_)
  have hk_b8 : kd b8 = 11 := hq
  refine lv_iload_n hx hb dX10_isOf_33 rfl (lv_at hl 3 rfl) ?_
  obtain ⟨g9, h⟩ := gd_e h
  refine r_iald hx hb hK hd hk_b8 (ckb_in g9) dX10_isOf_34 ?_
  refine lv_aload_n hx hb dX10_isOf_35 rfl (lv_at hl 2 rfl) ?_
  refine r_geti hx hb hts (fun w h => List.mem_cons_of_mem _ (List.mem_append_right _ (h))) hown hK hd hk_a0 rfl 0 fs_10_0 (hts (.fieldLink RX10 84 "LevelVotesModel" "columns" "I") (List.mem_of_getElem? (i := 1) rfl)) dX10_isOf_36 ?_
  obtain ⟨g10, h⟩ := gd_e h
  refine lv_idiv hx hb dX10_isOf_39 (ck0_ne g10) ?_
  refine lv_i2l hx hb dX10_isOf_40 rfl ?_
  obtain ⟨r12, μ11, hc13, h⟩ := bC_e h
  refine rc_Si (rest := []) [.long (v2.toInt64), .long (((μ.1 b5 (x1).toNatClampNeg) / (μ.1 a0 0)).toInt64), .long (((μ.1 b8 (x1).toNatClampNeg) / (μ.1 a0 0)).toInt64)] ⟨hx, hb, hml, hown, hts⟩ hK hd hS (c_X10_in  hc13) (va_cwS 3 hts gX10_isOf_X10_in rfl rfl rfl hn_X10_in ⟨Nat.le_of_ble_eq_true rfl, Nat.le_of_ble_eq_true rfl⟩) rfl hl.1 rfl (Nat.le_of_ble_eq_true rfl) dX10_isOf_41 ⟨Nat.zero_le _, Nat.zero_le _⟩ (fun H locs hd hS => ?_)
  refine lv_istore (lv' := [(5, .int r12), (4, .int v4), (3, .int v2), (0, .ref (z + a0)), (1, .int x1), (2, .int x2)]) hx hb dX10_isOf_44 hl (by decide) rfl (fun ls hl => ?_)
  refine lv_iload hx hb dX10_isOf_46 (lv_at hl 0 rfl) ?_
  refine lv_if_eq (tgt := 88) hx hb dX10_isOf_48 (by decide) (fun q14 => ?_) (fun q14 => ?_)
  · have h := if_y q14 h
    refine lv_iconst (v := 0) hx hb dX10_isOf_88 (by decide) ?_
    obtain ⟨rfl, rfl⟩ := so_e h
    exact rt_z hx hb hr rfl hlk hd hS dX10_isOf_89
  · have h := if_n q14 h
    refine lv_iload hx hb dX10_isOf_51 (lv_at hl 1 rfl) ?_
    refine lv_i2l hx hb dX10_isOf_53 rfl ?_
    refine lv_aload_n hx hb dX10_isOf_54 rfl (lv_at hl 3 rfl) ?_
    obtain ⟨b15, hb15, h⟩ := bR_e h
    refine r_getr hx hb hts (fun w h => List.mem_cons_of_mem _ (List.mem_append_right _ (h))) hown hK hd hk_a0 hb15 rfl fs_10_4 (hts (.fieldLink RX10 13 "LevelVotesModel" "itemFrom" "[I") (List.mem_of_getElem? (i := 2) rfl)) dX10_isOf_55 (fun hq => ?_)
    have hk_b15 : kd b15 = 11 := hq
    refine lv_iload_n hx hb dX10_isOf_58 rfl (lv_at hl 4 rfl) ?_
    obtain ⟨g16, h⟩ := gd_e h
    refine r_iald hx hb hK hd hk_b15 (ckb_in g16) dX10_isOf_59 ?_
    refine lv_aload_n hx hb dX10_isOf_60 rfl (lv_at hl 3 rfl) ?_
    refine r_geti hx hb hts (fun w h => List.mem_cons_of_mem _ (List.mem_append_right _ (h))) hown hK hd hk_a0 rfl 0 fs_10_0 (hts (.fieldLink RX10 84 "LevelVotesModel" "columns" "I") (List.mem_of_getElem? (i := 1) rfl)) dX10_isOf_61 ?_
    obtain ⟨g17, h⟩ := gd_e h
    refine lv_irem hx hb dX10_isOf_64 (ck0_ne g17) ?_
    refine lv_i2l hx hb dX10_isOf_65 rfl ?_
    refine lv_aload_n hx hb dX10_isOf_66 rfl (lv_at hl 3 rfl) ?_
    obtain ⟨b18, hb18, h⟩ := bR_e h
    refine r_getr hx hb hts (fun w h => List.mem_cons_of_mem _ (List.mem_append_right _ (h))) hown hK hd hk_a0 hb18 rfl fs_10_5 (hts (.fieldLink RX10 16 "LevelVotesModel" "itemTo" "[I") (List.mem_of_getElem? (i := 3) rfl)) dX10_isOf_67 (fun hq => ?_)
    have hk_b18 : kd b18 = 11 := hq
    refine lv_iload_n hx hb dX10_isOf_70 rfl (lv_at hl 4 rfl) ?_
    obtain ⟨g19, h⟩ := gd_e h
    refine r_iald hx hb hK hd hk_b18 (ckb_in g19) dX10_isOf_71 ?_
    refine lv_aload_n hx hb dX10_isOf_72 rfl (lv_at hl 3 rfl) ?_
    refine r_geti hx hb hts (fun w h => List.mem_cons_of_mem _ (List.mem_append_right _ (h))) hown hK hd hk_a0 rfl 0 fs_10_0 (hts (.fieldLink RX10 84 "LevelVotesModel" "columns" "I") (List.mem_of_getElem? (i := 1) rfl)) dX10_isOf_73 ?_
    obtain ⟨g20, h⟩ := gd_e h
    refine lv_irem hx hb dX10_isOf_76 (ck0_ne g20) ?_
    refine lv_i2l hx hb dX10_isOf_77 rfl ?_
    obtain ⟨r22, μ21, hc23, h⟩ := bC_e h
    refine rc_Si (rest := []) [.long (v4.toInt64), .long (((μ11.1 b15 (x1).toNatClampNeg) - (μ11.1 b15 (x1).toNatClampNeg) / (μ11.1 a0 0) * (μ11.1 a0 0)).toInt64), .long (((μ11.1 b18 (x1).toNatClampNeg) - (μ11.1 b18 (x1).toNatClampNeg) / (μ11.1 a0 0) * (μ11.1 a0 0)).toInt64)] ⟨hx, hb, hml, hown, hts⟩ hK hd hS (c_X10_in  hc23) (va_cwS 3 hts gX10_isOf_X10_in rfl rfl rfl hn_X10_in ⟨Nat.le_of_ble_eq_true rfl, Nat.le_of_ble_eq_true rfl⟩) rfl hl.1 rfl (Nat.le_of_ble_eq_true rfl) dX10_isOf_78 ⟨Nat.zero_le _, Nat.zero_le _⟩ (fun H locs hd hS => ?_)
    refine lv_if_eq (tgt := 88) hx hb dX10_isOf_81 (by decide) (fun q24 => ?_) (fun q24 => ?_)
    · have h := if_y q24 h
      refine lv_iconst (v := 0) hx hb dX10_isOf_88 (by decide) ?_
      obtain ⟨rfl, rfl⟩ := so_e h
      exact rt_z hx hb hr rfl hlk hd hS dX10_isOf_89
    · have h := if_n q24 h
      refine lv_iconst (v := 1) hx hb dX10_isOf_84 (by decide) ?_
      refine lv_goto (tgt := 89) hx hb dX10_isOf_85 (by decide) ?_
      obtain ⟨rfl, rfl⟩ := so_e h
      exact rt_z hx hb hr rfl hlk hd hS dX10_isOf_89
theorem hv_X10_itemOf : yX10_itemOf.cls = RX10 ∧ yX10_itemOf.cls ≠ "java/lang/invoke/MethodHandle" ∧ yX10_itemOf.cls ≠ "java/lang/invoke/VarHandle" ∧ (parseMethodDescriptor yX10_itemOf.desc).map (fun d => d.parameters.length) = some 1 := by decide +kernel
abbrev HL_X10_itemOf_4 (l : Launch) (D : va_G) (cA : Nat → ClassId) (z : Nat) (av : List Value) (r : Int32) (μ' : Mm) (p : Program) (e : Env) (s : State) (m : MethodId) (below : List Frame) (meth : Method) (c : Code) (rc : Mm → Nat → Int32 → Int32 → Int32 → Option (Int32 × Mm)) : Prop := ∀ (μ : Mm) (H : Heap) (locs : List Loc) (ls : Array Slot) (a0 : Nat) (x1 : Int32) (x2 : Int32) (x3 : Int32), kd a0 = 10 → Wd D cA z μ H → va_S (Az z) s.heap H locs → lv_has ls 4 [(0, .ref (z + a0)), (1, .int x1), (2, .int x2), (3, .int x3)] → rc μ a0 x1 x2 x3 = some (r, μ') → WG l D cA z wsX10_itemOf 2 50 av (some (.int r)) μ' p e s m below meth c H locs (F0 m 4 ls [])
def f_X10_itemOf_j35 (rc4 : Mm → Nat → Int32 → Int32 → Int32 → Option (Int32 × Mm)) (μ : Mm) (a0 : Nat) (x1 : Int32) (x3 : Int32) (ys0 : Int32) : Option (Int32 × Mm) := rc4 μ a0 x1 ys0 (x3 + (1 : Int32))
set_option maxRecDepth 100000 in
theorem k_f_X10_itemOf_j35 {l : Launch} {D : va_G} {cA : Nat → ClassId} {z : Nat} {av : List Value} {p : Program} {e : Env} {s : State} {m : MethodId} {below : List Frame} {meth : Method} {c : Code} {r : Int32} {μ' : Mm} (X : Fx D cA RX10 wsX10_itemOf cX10_itemOf 4 (some .int) p s m av.toArray meth c) {rc4 : Mm → Nat → Int32 → Int32 → Int32 → Option (Int32 × Mm)} (hrc4 : HL_X10_itemOf_4 l D cA z av r μ' p e s m below meth c rc4) {μ : Mm} {a0 : Nat} {x1 : Int32} {x3 : Int32} {ys0 : Int32} (hk_a0 : kd a0 = 10) {H : Heap} {locs : List Loc} {ls : Array Slot} (hd : Wd D cA z μ H) (hS : va_S (Az z) s.heap H locs) (hl : lv_has ls 4 [(0, .ref (z + a0)), (1, .int x1), (3, .int x3)]) (h : f_X10_itemOf_j35 rc4 μ a0 x1 x3 ys0 = some (r, μ')) : WG l D cA z wsX10_itemOf 2 50 av (some (.int r)) μ' p e s m below meth c H locs (F0 m 35 ls [.int ys0]) := by
  obtain ⟨hx, hb, hr, hlk, hml, hown, hts, hK⟩ := id X
  unfold f_X10_itemOf_j35 at h
  refine lv_istore_n (lv' := [(2, .int ys0), (0, .ref (z + a0)), (1, .int x1), (3, .int x3)]) hx hb dX10_itemOf_35 rfl hl (by decide) rfl (fun ls hl => ?_)
  refine lv_iinc (v := x3 + (1 : Int32)) (lv' := [(3, .int (x3 + (1 : Int32))), (2, .int ys0), (0, .ref (z + a0)), (1, .int x1)]) hx hb dX10_itemOf_36 hl (k := 3) rfl rfl (by decide) rfl (fun ls hl => ?_)
  refine lv_goto (tgt := 4) hx hb dX10_itemOf_39 (by decide) ?_
  exact hrc4 _ _ _ _ _ _ _ _ hk_a0 hd hS (lv_sub hl [2, 3, 1, 0] rfl) h
def f_X10_itemOf_j34 (rc4 : Mm → Nat → Int32 → Int32 → Int32 → Option (Int32 × Mm)) (μ : Mm) (a0 : Nat) (x1 : Int32) (x2 : Int32) (x3 : Int32) : Option (Int32 × Mm) := f_X10_itemOf_j35 rc4 μ a0 x1 x3 x2
set_option maxRecDepth 100000 in
theorem k_f_X10_itemOf_j34 {l : Launch} {D : va_G} {cA : Nat → ClassId} {z : Nat} {av : List Value} {p : Program} {e : Env} {s : State} {m : MethodId} {below : List Frame} {meth : Method} {c : Code} {r : Int32} {μ' : Mm} (X : Fx D cA RX10 wsX10_itemOf cX10_itemOf 4 (some .int) p s m av.toArray meth c) {rc4 : Mm → Nat → Int32 → Int32 → Int32 → Option (Int32 × Mm)} (hrc4 : HL_X10_itemOf_4 l D cA z av r μ' p e s m below meth c rc4) {μ : Mm} {a0 : Nat} {x1 : Int32} {x2 : Int32} {x3 : Int32} (hk_a0 : kd a0 = 10) {H : Heap} {locs : List Loc} {ls : Array Slot} (hd : Wd D cA z μ H) (hS : va_S (Az z) s.heap H locs) (hl : lv_has ls 4 [(0, .ref (z + a0)), (1, .int x1), (2, .int x2), (3, .int x3)]) (h : f_X10_itemOf_j34 rc4 μ a0 x1 x2 x3 = some (r, μ')) : WG l D cA z wsX10_itemOf 2 50 av (some (.int r)) μ' p e s m below meth c H locs (F0 m 34 ls []) := by
  obtain ⟨hx, hb, hr, hlk, hml, hown, hts, hK⟩ := id X
  unfold f_X10_itemOf_j34 at h
  refine lv_iload_n hx hb dX10_itemOf_34 rfl (lv_at hl 2 rfl) ?_
  exact k_f_X10_itemOf_j35 X hrc4 hk_a0 hd hS (lv_sub hl [0, 1, 3] rfl) h
def f_X10_itemOf_L4b (rc4 : Mm → Nat → Int32 → Int32 → Int32 → Option (Int32 × Mm)) (μ : Mm) (a0 : Nat) (x1 : Int32) (x2 : Int32) (x3 : Int32) : Option (Int32 × Mm) := if (μ.1 a0 3) ≤ x3 then (some (x2, μ)) else (bR (μ.2 a0 25) (fun b2 => gd (ckb x3 (ln b2)) (if (μ.1 b2 (x3).toNatClampNeg) ≤ 0 then (f_X10_itemOf_j34 rc4 μ a0 x1 x2 x3) else (bC (f_X10_isOf μ a0 x3 x1) (fun r6 μ5 => if r6 = 0 then (f_X10_itemOf_j34 rc4 μ5 a0 x1 x2 x3) else (f_X10_itemOf_j35 rc4 μ5 a0 x1 x3 x3))))))
set_option maxRecDepth 100000 in
theorem k_f_X10_itemOf_L4b {l : Launch} {D : va_G} {cA : Nat → ClassId} {z : Nat} {av : List Value} {p : Program} {e : Env} {s : State} {m : MethodId} {below : List Frame} {meth : Method} {c : Code} {r : Int32} {μ' : Mm} (X : Fx D cA RX10 wsX10_itemOf cX10_itemOf 4 (some .int) p s m av.toArray meth c) {rc4 : Mm → Nat → Int32 → Int32 → Int32 → Option (Int32 × Mm)} (hrc4 : HL_X10_itemOf_4 l D cA z av r μ' p e s m below meth c rc4) {μ : Mm} {a0 : Nat} {x1 : Int32} {x2 : Int32} {x3 : Int32} (hk_a0 : kd a0 = 10) {H : Heap} {locs : List Loc} {ls : Array Slot} (hd : Wd D cA z μ H) (hS : va_S (Az z) s.heap H locs) (hl : lv_has ls 4 [(0, .ref (z + a0)), (1, .int x1), (2, .int x2), (3, .int x3)]) (h : f_X10_itemOf_L4b rc4 μ a0 x1 x2 x3 = some (r, μ')) : WG l D cA z wsX10_itemOf 2 50 av (some (.int r)) μ' p e s m below meth c H locs (F0 m 4 ls []) := by
  obtain ⟨hx, hb, hr, hlk, hml, hown, hts, hK⟩ := id X
  unfold f_X10_itemOf_L4b at h
  refine lv_iload_n hx hb dX10_itemOf_4 rfl (lv_at hl 3 rfl) ?_
  refine lv_aload_n hx hb dX10_itemOf_5 rfl (lv_at hl 0 rfl) ?_
  refine r_geti hx hb hts (fun w h => List.mem_cons_of_mem _ (List.mem_append_right _ (h))) hown hK hd hk_a0 rfl 3 fs_10_3 (hts (.fieldLink RX10 98 "LevelVotesModel" "items" "I") (List.mem_of_getElem? (i := 1) rfl)) dX10_itemOf_6 ?_
  refine lv_icmp_ge (tgt := 42) hx hb dX10_itemOf_9 (by decide) (fun q1 => ?_) (fun q1 => ?_)
  · have h := if_y q1 h
    refine lv_iload_n hx hb dX10_itemOf_42 rfl (lv_at hl 2 rfl) ?_
    obtain ⟨rfl, rfl⟩ := so_e h
    exact rt_i hx hb hr hlk hd hS dX10_itemOf_43
  · have h := if_n q1 h
    refine lv_aload_n hx hb dX10_itemOf_12 rfl (lv_at hl 0 rfl) ?_
    obtain ⟨b2, hb2, h⟩ := bR_e h
    refine r_getr hx hb hts (fun w h => List.mem_cons_of_mem _ (List.mem_append_right _ (h))) hown hK hd hk_a0 hb2 rfl fs_10_25 (hts (.fieldLink RX10 50 "LevelVotesModel" "stands" "[I") (List.mem_of_getElem? (i := 2) rfl)) dX10_itemOf_13 (fun hq => ?_)
    have hk_b2 : kd b2 = 11 := hq
    refine lv_iload_n hx hb dX10_itemOf_16 rfl (lv_at hl 3 rfl) ?_
    obtain ⟨g3, h⟩ := gd_e h
    refine r_iald hx hb hK hd hk_b2 (ckb_in g3) dX10_itemOf_17 ?_
    refine lv_if_le (tgt := 34) hx hb dX10_itemOf_18 (by decide) (fun q4 => ?_) (fun q4 => ?_)
    · have h := if_y q4 h
      exact k_f_X10_itemOf_j34 X hrc4 hk_a0 hd hS (lv_sub hl [0, 1, 2, 3] rfl) h
    · have h := if_n q4 h
      refine lv_aload_n hx hb dX10_itemOf_21 rfl (lv_at hl 0 rfl) ?_
      refine lv_iload_n hx hb dX10_itemOf_22 rfl (lv_at hl 3 rfl) ?_
      refine lv_iload_n hx hb dX10_itemOf_23 rfl (lv_at hl 1 rfl) ?_
      obtain ⟨r6, μ5, hc7, h⟩ := bC_e h
      refine rc_Vi (rest := []) [.int x3, .int x1] ⟨hx, hb, hml, hown, hts⟩ hK hd hS (c_X10_isOf hk_a0 hc7) (cwV 2 hts gX10_itemOf_X10_isOf rfl rfl rfl hv_X10_isOf ⟨Nat.le_of_ble_eq_true rfl, Nat.le_of_ble_eq_true rfl⟩) hk_a0 rfl rfl rfl rfl hl.1 rfl (Nat.le_of_ble_eq_true rfl) dX10_itemOf_24 ⟨Nat.zero_le _, Nat.zero_le _⟩ (fun H locs hd hS => ?_)
      refine lv_if_eq (tgt := 34) hx hb dX10_itemOf_27 (by decide) (fun q8 => ?_) (fun q8 => ?_)
      · have h := if_y q8 h
        exact k_f_X10_itemOf_j34 X hrc4 hk_a0 hd hS (lv_sub hl [0, 1, 2, 3] rfl) h
      · have h := if_n q8 h
        refine lv_iload_n hx hb dX10_itemOf_30 rfl (lv_at hl 3 rfl) ?_
        refine lv_goto (tgt := 35) hx hb dX10_itemOf_31 (by decide) ?_
        exact k_f_X10_itemOf_j35 X hrc4 hk_a0 hd hS (lv_sub hl [0, 1, 3] rfl) h
def f_X10_itemOf_L4 : Nat → Mm → Nat → Int32 → Int32 → Int32 → Option (Int32 × Mm)
  | 0 => fun _ _ _ _ _ => none
  | n + 1 => fun μ a0 x1 x2 x3 => f_X10_itemOf_L4b (f_X10_itemOf_L4 n) μ a0 x1 x2 x3
theorem k_f_X10_itemOf_L4 {l : Launch} {D : va_G} {cA : Nat → ClassId} {z : Nat} {av : List Value} {p : Program} {e : Env} {s : State} {m : MethodId} {below : List Frame} {meth : Method} {c : Code} {r : Int32} {μ' : Mm} (X : Fx D cA RX10 wsX10_itemOf cX10_itemOf 4 (some .int) p s m av.toArray meth c) (n : Nat) : HL_X10_itemOf_4 l D cA z av r μ' p e s m below meth c (f_X10_itemOf_L4 n) := by
  induction n with
  | zero => intro _ _ _ _ _ _ _ _ _ _ _ _ h; have h2 : (none : Option _) = some _ := h; cases h2
  | succ n ih => intro μ H locs ls a0 x1 x2 x3 hk_a0 hd hS hl h; exact k_f_X10_itemOf_L4b X ih hk_a0 hd hS hl h
def f_X10_itemOf (μ : Mm) (a0 : Nat) (x1 : Int32) : Option (Int32 × Mm) := f_X10_itemOf_L4 FU μ a0 x1 (-1 : Int32) (0 : Int32)
set_option maxRecDepth 100000 in
theorem c_X10_itemOf {l : Launch} {D : va_G} {cA : Nat → ClassId} {z : Nat} {μ : Mm} {a0 : Nat} {x1 : Int32} {r : Int32} {μ' : Mm} (hk_a0 : kd a0 = 10) (h : f_X10_itemOf μ a0 x1 = some (r, μ')) : Ct l D cA z yX10_itemOf wsX10_itemOf 2 50 [.ref (z + a0), .int x1] μ (some (.int r)) μ' := by
  refine m_in (cc := cX10_itemOf) (maxL := 4) (ret := (some .int)) (own := RX10) (by decide) rfl rfl (Nat.le_of_ble_eq_true rfl) ?_
  intro p e s m below meth c ls X hd hS hl
  obtain ⟨hx, hb, hr, hlk, hml, hown, hts, hK⟩ := id X
  have hl : lv_has ls 4 [(0, .ref (z + a0)), (1, .int x1)] := hl
  unfold f_X10_itemOf at h
  refine lv_iconst (v := -1) hx hb dX10_itemOf_0 (by decide) ?_
  refine lv_istore_n (lv' := [(2, .int (-1 : Int32)), (0, .ref (z + a0)), (1, .int x1)]) hx hb dX10_itemOf_1 rfl hl (by decide) rfl (fun ls hl => ?_)
  refine lv_iconst (v := 0) hx hb dX10_itemOf_2 (by decide) ?_
  refine lv_istore_n (lv' := [(3, .int (0 : Int32)), (2, .int (-1 : Int32)), (0, .ref (z + a0)), (1, .int x1)]) hx hb dX10_itemOf_3 rfl hl (by decide) rfl (fun ls hl => ?_)
  exact k_f_X10_itemOf_L4 X FU _ _ _ _ _ _ _ _ hk_a0 hd hS (lv_sub hl [2, 3, 1, 0] rfl) h
theorem hv_X10_heightOf : yX10_heightOf.cls = RX10 ∧ yX10_heightOf.cls ≠ "java/lang/invoke/MethodHandle" ∧ yX10_heightOf.cls ≠ "java/lang/invoke/VarHandle" ∧ (parseMethodDescriptor yX10_heightOf.desc).map (fun d => d.parameters.length) = some 1 := by decide +kernel
def f_X10_heightOf_j77 (μ : Mm) (a0 : Nat) (x2 : Int32) : Option (Int32 × Mm) := bR (μ.2 a0 6) (fun b1 => gd (ckb x2 (ln b1)) (some (μ.1 b1 (x2).toNatClampNeg, μ)))
set_option maxRecDepth 100000 in
theorem k_f_X10_heightOf_j77 {l : Launch} {D : va_G} {cA : Nat → ClassId} {z : Nat} {av : List Value} {p : Program} {e : Env} {s : State} {m : MethodId} {below : List Frame} {meth : Method} {c : Code} {r : Int32} {μ' : Mm} (X : Fx D cA RX10 wsX10_heightOf cX10_heightOf 4 (some .int) p s m av.toArray meth c) {μ : Mm} {a0 : Nat} {x2 : Int32} (hk_a0 : kd a0 = 10) {H : Heap} {locs : List Loc} {ls : Array Slot} (hd : Wd D cA z μ H) (hS : va_S (Az z) s.heap H locs) (hl : lv_has ls 4 [(0, .ref (z + a0)), (2, .int x2)]) (h : f_X10_heightOf_j77 μ a0 x2 = some (r, μ')) : WG l D cA z wsX10_heightOf 3 73 av (some (.int r)) μ' p e s m below meth c H locs (F0 m 77 ls []) := by
  obtain ⟨hx, hb, hr, hlk, hml, hown, hts, hK⟩ := id X
  unfold f_X10_heightOf_j77 at h
  refine lv_aload_n hx hb dX10_heightOf_77 rfl (lv_at hl 0 rfl) ?_
  obtain ⟨b1, hb1, h⟩ := bR_e h
  refine r_getr hx hb hts (fun w h => List.mem_cons_of_mem _ (List.mem_append_right _ (h))) hown hK hd hk_a0 hb1 rfl fs_10_6 (hts (.fieldLink RX10 19 "LevelVotesModel" "itemLevel" "[I") (List.mem_of_getElem? (i := 5) rfl)) dX10_heightOf_78 (fun hq => ?_)
  have hk_b1 : kd b1 = 11 := hq
  refine lv_iload_n hx hb dX10_heightOf_81 rfl (lv_at hl 1 rfl) ?_
  obtain ⟨g2, h⟩ := gd_e h
  refine r_iald hx hb hK hd hk_b1 (ckb_in g2) dX10_heightOf_82 ?_
  obtain ⟨rfl, rfl⟩ := so_e h
  exact rt_i hx hb hr hlk hd hS dX10_heightOf_83
def f_X10_heightOf_j52 (μ : Mm) (a0 : Nat) (x2 : Int32) (ys0 : Int32) : Option (Int32 × Mm) := if ys0 = 0 then (f_X10_heightOf_j77 μ a0 x2) else (bR (μ.2 a0 6) (fun b2 => gd (ckb x2 (ln b2)) (if (μ.1 b2 (x2).toNatClampNeg) ≤ 0 then (f_X10_heightOf_j77 μ a0 x2) else (bR (μ.2 a0 6) (fun b5 => gd (ckb x2 (ln b5)) (some ((μ.1 b5 (x2).toNatClampNeg) - (1 : Int32), μ)))))))
set_option maxRecDepth 100000 in
theorem k_f_X10_heightOf_j52 {l : Launch} {D : va_G} {cA : Nat → ClassId} {z : Nat} {av : List Value} {p : Program} {e : Env} {s : State} {m : MethodId} {below : List Frame} {meth : Method} {c : Code} {r : Int32} {μ' : Mm} (X : Fx D cA RX10 wsX10_heightOf cX10_heightOf 4 (some .int) p s m av.toArray meth c) {μ : Mm} {a0 : Nat} {x2 : Int32} {ys0 : Int32} (hk_a0 : kd a0 = 10) {H : Heap} {locs : List Loc} {ls : Array Slot} (hd : Wd D cA z μ H) (hS : va_S (Az z) s.heap H locs) (hl : lv_has ls 4 [(0, .ref (z + a0)), (2, .int x2)]) (h : f_X10_heightOf_j52 μ a0 x2 ys0 = some (r, μ')) : WG l D cA z wsX10_heightOf 3 73 av (some (.int r)) μ' p e s m below meth c H locs (F0 m 52 ls [.int ys0]) := by
  obtain ⟨hx, hb, hr, hlk, hml, hown, hts, hK⟩ := id X
  unfold f_X10_heightOf_j52 at h
  refine lv_istore_n (lv' := [(3, .int ys0), (0, .ref (z + a0)), (2, .int x2)]) hx hb dX10_heightOf_52 rfl hl (by decide) rfl (fun ls hl => ?_)
  refine lv_iload_n hx hb dX10_heightOf_53 rfl (lv_at hl 0 rfl) ?_
  refine lv_if_eq (tgt := 77) hx hb dX10_heightOf_54 (by decide) (fun q1 => ?_) (fun q1 => ?_)
  · have h := if_y q1 h
    exact k_f_X10_heightOf_j77 X hk_a0 hd hS (lv_sub hl [1, 2] rfl) h
  · have h := if_n q1 h
    refine lv_aload_n hx hb dX10_heightOf_57 rfl (lv_at hl 1 rfl) ?_
    obtain ⟨b2, hb2, h⟩ := bR_e h
    refine r_getr hx hb hts (fun w h => List.mem_cons_of_mem _ (List.mem_append_right _ (h))) hown hK hd hk_a0 hb2 rfl fs_10_6 (hts (.fieldLink RX10 19 "LevelVotesModel" "itemLevel" "[I") (List.mem_of_getElem? (i := 5) rfl)) dX10_heightOf_58 (fun hq => ?_)
    have hk_b2 : kd b2 = 11 := hq
    refine lv_iload_n hx hb dX10_heightOf_61 rfl (lv_at hl 2 rfl) ?_
    obtain ⟨g3, h⟩ := gd_e h
    refine r_iald hx hb hK hd hk_b2 (ckb_in g3) dX10_heightOf_62 ?_
    refine lv_if_le (tgt := 77) hx hb dX10_heightOf_63 (by decide) (fun q4 => ?_) (fun q4 => ?_)
    · have h := if_y q4 h
      exact k_f_X10_heightOf_j77 X hk_a0 hd hS (lv_sub hl [1, 2] rfl) h
    · have h := if_n q4 h
      refine lv_aload_n hx hb dX10_heightOf_66 rfl (lv_at hl 1 rfl) ?_
      obtain ⟨b5, hb5, h⟩ := bR_e h
      refine r_getr hx hb hts (fun w h => List.mem_cons_of_mem _ (List.mem_append_right _ (h))) hown hK hd hk_a0 hb5 rfl fs_10_6 (hts (.fieldLink RX10 19 "LevelVotesModel" "itemLevel" "[I") (List.mem_of_getElem? (i := 5) rfl)) dX10_heightOf_67 (fun hq => ?_)
      have hk_b5 : kd b5 = 11 := hq
      refine lv_iload_n hx hb dX10_heightOf_70 rfl (lv_at hl 2 rfl) ?_
      obtain ⟨g6, h⟩ := gd_e h
      refine r_iald hx hb hK hd hk_b5 (ckb_in g6) dX10_heightOf_71 ?_
      refine lv_iconst (v := 1) hx hb dX10_heightOf_72 (by decide) ?_
      refine lv_isub hx hb dX10_heightOf_73 ?_
      refine lv_goto (tgt := 83) hx hb dX10_heightOf_74 (by decide) ?_
      obtain ⟨rfl, rfl⟩ := so_e h
      exact rt_i hx hb hr hlk hd hS dX10_heightOf_83
def f_X10_heightOf_j51 (μ : Mm) (a0 : Nat) (x2 : Int32) : Option (Int32 × Mm) := f_X10_heightOf_j52 μ a0 x2 (0 : Int32)
set_option maxRecDepth 100000 in
theorem k_f_X10_heightOf_j51 {l : Launch} {D : va_G} {cA : Nat → ClassId} {z : Nat} {av : List Value} {p : Program} {e : Env} {s : State} {m : MethodId} {below : List Frame} {meth : Method} {c : Code} {r : Int32} {μ' : Mm} (X : Fx D cA RX10 wsX10_heightOf cX10_heightOf 4 (some .int) p s m av.toArray meth c) {μ : Mm} {a0 : Nat} {x2 : Int32} (hk_a0 : kd a0 = 10) {H : Heap} {locs : List Loc} {ls : Array Slot} (hd : Wd D cA z μ H) (hS : va_S (Az z) s.heap H locs) (hl : lv_has ls 4 [(0, .ref (z + a0)), (2, .int x2)]) (h : f_X10_heightOf_j51 μ a0 x2 = some (r, μ')) : WG l D cA z wsX10_heightOf 3 73 av (some (.int r)) μ' p e s m below meth c H locs (F0 m 51 ls []) := by
  obtain ⟨hx, hb, hr, hlk, hml, hown, hts, hK⟩ := id X
  unfold f_X10_heightOf_j51 at h
  refine lv_iconst (v := 0) hx hb dX10_heightOf_51 (by decide) ?_
  exact k_f_X10_heightOf_j52 X hk_a0 hd hS (lv_sub hl [0, 1] rfl) h
def f_X10_heightOf (μ : Mm) (a0 : Nat) (x1 : Int32) : Option (Int32 × Mm) := bC (f_X10_itemOf μ a0 x1) (fun r2 μ1 => if 0 ≤ r2 then (bR (μ1.2 a0 25) (fun b5 => gd (ckb r2 (ln b5)) (if (μ1.1 b5 (r2).toNatClampNeg) = (1 : Int32) then (gd (ck0 (μ1.1 a0 0)) (bR (μ1.2 a0 4) (fun b9 => gd (ckb r2 (ln b9)) (gd (ck0 (μ1.1 a0 0)) (if (x1 - x1 / (μ1.1 a0 0) * (μ1.1 a0 0)) = ((μ1.1 b9 (r2).toNatClampNeg) - (μ1.1 b9 (r2).toNatClampNeg) / (μ1.1 a0 0) * (μ1.1 a0 0)) then (f_X10_heightOf_j51 μ1 a0 r2) else (f_X10_heightOf_j52 μ1 a0 r2 (1 : Int32))))))) else (f_X10_heightOf_j51 μ1 a0 r2)))) else (bR (μ1.2 a0 2) (fun b13 => gd (ckb x1 (ln b13)) (some (μ1.1 b13 (x1).toNatClampNeg, μ1)))))
set_option maxRecDepth 100000 in
theorem c_X10_heightOf {l : Launch} {D : va_G} {cA : Nat → ClassId} {z : Nat} {μ : Mm} {a0 : Nat} {x1 : Int32} {r : Int32} {μ' : Mm} (hk_a0 : kd a0 = 10) (h : f_X10_heightOf μ a0 x1 = some (r, μ')) : Ct l D cA z yX10_heightOf wsX10_heightOf 3 73 [.ref (z + a0), .int x1] μ (some (.int r)) μ' := by
  refine m_in (cc := cX10_heightOf) (maxL := 4) (ret := (some .int)) (own := RX10) (by decide) rfl rfl (Nat.le_of_ble_eq_true rfl) ?_
  intro p e s m below meth c ls X hd hS hl
  obtain ⟨hx, hb, hr, hlk, hml, hown, hts, hK⟩ := id X
  have hl : lv_has ls 4 [(0, .ref (z + a0)), (1, .int x1)] := hl
  unfold f_X10_heightOf at h
  refine lv_aload_n hx hb dX10_heightOf_0 rfl (lv_at hl 0 rfl) ?_
  refine lv_iload_n hx hb dX10_heightOf_1 rfl (lv_at hl 1 rfl) ?_
  obtain ⟨r2, μ1, hc3, h⟩ := bC_e h
  refine rc_Vi (rest := []) [.int x1] ⟨hx, hb, hml, hown, hts⟩ hK hd hS (c_X10_itemOf hk_a0 hc3) (cwV 1 hts gX10_heightOf_X10_itemOf rfl rfl rfl hv_X10_itemOf ⟨Nat.le_of_ble_eq_true rfl, Nat.le_of_ble_eq_true rfl⟩) hk_a0 rfl rfl rfl rfl hl.1 rfl (Nat.le_of_ble_eq_true rfl) dX10_heightOf_2 ⟨Nat.zero_le _, Nat.zero_le _⟩ (fun H locs hd hS => ?_)
  refine lv_istore_n (lv' := [(2, .int r2), (0, .ref (z + a0)), (1, .int x1)]) hx hb dX10_heightOf_5 rfl hl (by decide) rfl (fun ls hl => ?_)
  refine lv_iload_n hx hb dX10_heightOf_6 rfl (lv_at hl 0 rfl) ?_
  refine lv_if_ge (tgt := 17) hx hb dX10_heightOf_7 (by decide) (fun q4 => ?_) (fun q4 => ?_)
  · have h := if_y q4 h
    refine lv_aload_n hx hb dX10_heightOf_17 rfl (lv_at hl 1 rfl) ?_
    obtain ⟨b5, hb5, h⟩ := bR_e h
    refine r_getr hx hb hts (fun w h => List.mem_cons_of_mem _ (List.mem_append_right _ (h))) hown hK hd hk_a0 hb5 rfl fs_10_25 (hts (.fieldLink RX10 50 "LevelVotesModel" "stands" "[I") (List.mem_of_getElem? (i := 2) rfl)) dX10_heightOf_18 (fun hq => ?_)
    have hk_b5 : kd b5 = 11 := hq
    refine lv_iload_n hx hb dX10_heightOf_21 rfl (lv_at hl 0 rfl) ?_
    obtain ⟨g6, h⟩ := gd_e h
    refine r_iald hx hb hK hd hk_b5 (ckb_in g6) dX10_heightOf_22 ?_
    refine lv_iconst (v := 1) hx hb dX10_heightOf_23 (by decide) ?_
    refine lv_icmp_ne (tgt := 51) hx hb dX10_heightOf_24 (by decide) (fun q7 => ?_) (fun q7 => ?_)
    · have h := if_n q7 h
      exact k_f_X10_heightOf_j51 X hk_a0 hd hS (lv_sub hl [1, 0] rfl) h
    · have h := if_y q7 h
      refine lv_iload_n hx hb dX10_heightOf_27 rfl (lv_at hl 2 rfl) ?_
      refine lv_aload_n hx hb dX10_heightOf_28 rfl (lv_at hl 1 rfl) ?_
      refine r_geti hx hb hts (fun w h => List.mem_cons_of_mem _ (List.mem_append_right _ (h))) hown hK hd hk_a0 rfl 0 fs_10_0 (hts (.fieldLink RX10 84 "LevelVotesModel" "columns" "I") (List.mem_of_getElem? (i := 3) rfl)) dX10_heightOf_29 ?_
      obtain ⟨g8, h⟩ := gd_e h
      refine lv_irem hx hb dX10_heightOf_32 (ck0_ne g8) ?_
      refine lv_aload_n hx hb dX10_heightOf_33 rfl (lv_at hl 1 rfl) ?_
      obtain ⟨b9, hb9, h⟩ := bR_e h
      refine r_getr hx hb hts (fun w h => List.mem_cons_of_mem _ (List.mem_append_right _ (h))) hown hK hd hk_a0 hb9 rfl fs_10_4 (hts (.fieldLink RX10 13 "LevelVotesModel" "itemFrom" "[I") (List.mem_of_getElem? (i := 4) rfl)) dX10_heightOf_34 (fun hq => ?_)
      have hk_b9 : kd b9 = 11 := hq
      refine lv_iload_n hx hb dX10_heightOf_37 rfl (lv_at hl 0 rfl) ?_
      obtain ⟨g10, h⟩ := gd_e h
      refine r_iald hx hb hK hd hk_b9 (ckb_in g10) dX10_heightOf_38 ?_
      refine lv_aload_n hx hb dX10_heightOf_39 rfl (lv_at hl 1 rfl) ?_
      refine r_geti hx hb hts (fun w h => List.mem_cons_of_mem _ (List.mem_append_right _ (h))) hown hK hd hk_a0 rfl 0 fs_10_0 (hts (.fieldLink RX10 84 "LevelVotesModel" "columns" "I") (List.mem_of_getElem? (i := 3) rfl)) dX10_heightOf_40 ?_
      obtain ⟨g11, h⟩ := gd_e h
      refine lv_irem hx hb dX10_heightOf_43 (ck0_ne g11) ?_
      refine lv_icmp_eq (tgt := 51) hx hb dX10_heightOf_44 (by decide) (fun q12 => ?_) (fun q12 => ?_)
      · have h := if_y q12 h
        exact k_f_X10_heightOf_j51 X hk_a0 hd hS (lv_sub hl [1, 0] rfl) h
      · have h := if_n q12 h
        refine lv_iconst (v := 1) hx hb dX10_heightOf_47 (by decide) ?_
        refine lv_goto (tgt := 52) hx hb dX10_heightOf_48 (by decide) ?_
        exact k_f_X10_heightOf_j52 X hk_a0 hd hS (lv_sub hl [1, 0] rfl) h
  · have h := if_n q4 h
    refine lv_aload_n hx hb dX10_heightOf_10 rfl (lv_at hl 1 rfl) ?_
    obtain ⟨b13, hb13, h⟩ := bR_e h
    refine r_getr hx hb hts (fun w h => List.mem_cons_of_mem _ (List.mem_append_right _ (h))) hown hK hd hk_a0 hb13 rfl fs_10_2 (hts (.fieldLink RX10 7 "LevelVotesModel" "ground" "[I") (List.mem_of_getElem? (i := 1) rfl)) dX10_heightOf_11 (fun hq => ?_)
    have hk_b13 : kd b13 = 11 := hq
    refine lv_iload_n hx hb dX10_heightOf_14 rfl (lv_at hl 2 rfl) ?_
    obtain ⟨g14, h⟩ := gd_e h
    refine r_iald hx hb hK hd hk_b13 (ckb_in g14) dX10_heightOf_15 ?_
    obtain ⟨rfl, rfl⟩ := so_e h
    exact rt_i hx hb hr hlk hd hS dX10_heightOf_16
theorem hv_X10_findHeights : yX10_findHeights.cls = RX10 ∧ yX10_findHeights.cls ≠ "java/lang/invoke/MethodHandle" ∧ yX10_findHeights.cls ≠ "java/lang/invoke/VarHandle" ∧ (parseMethodDescriptor yX10_findHeights.desc).map (fun d => d.parameters.length) = some 0 := by decide +kernel
abbrev HL_X10_findHeights_2 (l : Launch) (D : va_G) (cA : Nat → ClassId) (z : Nat) (av : List Value) (μ' : Mm) (p : Program) (e : Env) (s : State) (m : MethodId) (below : List Frame) (meth : Method) (c : Code) (rc : Mm → Nat → Int32 → Option Mm) : Prop := ∀ (μ : Mm) (H : Heap) (locs : List Loc) (ls : Array Slot) (a0 : Nat) (x1 : Int32), kd a0 = 10 → Wd D cA z μ H → va_S (Az z) s.heap H locs → lv_has ls 2 [(0, .ref (z + a0)), (1, .int x1)] → rc μ a0 x1 = some μ' → WG l D cA z wsX10_findHeights 4 96 av none μ' p e s m below meth c H locs (F0 m 2 ls [])
def f_X10_findHeights_L2b (rc2 : Mm → Nat → Int32 → Option Mm) (μ : Mm) (a0 : Nat) (x1 : Int32) : Option Mm := bC (f_X10_cells μ a0) (fun r2 μ1 => if r2 ≤ x1 then (some μ1) else (bR (μ1.2 a0 26) (fun b5 => bC (f_X10_heightOf μ1 a0 x1) (fun r7 μ6 => gd (ckb x1 (ln b5)) (bM (up2 μ6.1 b5 (x1).toNatClampNeg r7, μ6.2) (fun μ10 => rc2 μ10 a0 (x1 + (1 : Int32))))))))
set_option maxRecDepth 100000 in
theorem k_f_X10_findHeights_L2b {l : Launch} {D : va_G} {cA : Nat → ClassId} {z : Nat} {av : List Value} {p : Program} {e : Env} {s : State} {m : MethodId} {below : List Frame} {meth : Method} {c : Code} {μ' : Mm} (X : Fx D cA RX10 wsX10_findHeights cX10_findHeights 2 none p s m av.toArray meth c) {rc2 : Mm → Nat → Int32 → Option Mm} (hrc2 : HL_X10_findHeights_2 l D cA z av μ' p e s m below meth c rc2) {μ : Mm} {a0 : Nat} {x1 : Int32} (hk_a0 : kd a0 = 10) {H : Heap} {locs : List Loc} {ls : Array Slot} (hd : Wd D cA z μ H) (hS : va_S (Az z) s.heap H locs) (hl : lv_has ls 2 [(0, .ref (z + a0)), (1, .int x1)]) (h : f_X10_findHeights_L2b rc2 μ a0 x1 = some μ') : WG l D cA z wsX10_findHeights 4 96 av none μ' p e s m below meth c H locs (F0 m 2 ls []) := by
  obtain ⟨hx, hb, hr, hlk, hml, hown, hts, hK⟩ := id X
  unfold f_X10_findHeights_L2b at h
  refine lv_iload_n hx hb dX10_findHeights_2 rfl (lv_at hl 1 rfl) ?_
  refine lv_aload_n hx hb dX10_findHeights_3 rfl (lv_at hl 0 rfl) ?_
  obtain ⟨r2, μ1, hc3, h⟩ := bC_e h
  refine rc_Vi (rest := [.int x1]) [] ⟨hx, hb, hml, hown, hts⟩ hK hd hS (c_X10_cells hk_a0 hc3) (cwV 0 hts gX10_findHeights_X10_cells rfl rfl rfl hv_X10_cells ⟨Nat.le_of_ble_eq_true rfl, Nat.le_of_ble_eq_true rfl⟩) hk_a0 rfl rfl rfl rfl hl.1 rfl (Nat.le_of_ble_eq_true rfl) dX10_findHeights_4 ⟨Nat.zero_le _, Nat.zero_le _⟩ (fun H locs hd hS => ?_)
  refine lv_icmp_ge (tgt := 27) hx hb dX10_findHeights_7 (by decide) (fun q4 => ?_) (fun q4 => ?_)
  · have h := if_y q4 h
    obtain rfl := sv_e h
    exact rt_v hx hb hr hlk hd hS dX10_findHeights_27
  · have h := if_n q4 h
    refine lv_aload_n hx hb dX10_findHeights_10 rfl (lv_at hl 0 rfl) ?_
    obtain ⟨b5, hb5, h⟩ := bR_e h
    refine r_getr hx hb hts (fun w h => List.mem_cons_of_mem _ (List.mem_append_right _ (h))) hown hK hd hk_a0 hb5 rfl fs_10_26 (hts (.fieldLink RX10 53 "LevelVotesModel" "heights" "[I") (List.mem_of_getElem? (i := 1) rfl)) dX10_findHeights_11 (fun hq => ?_)
    have hk_b5 : kd b5 = 11 := hq
    refine lv_iload_n hx hb dX10_findHeights_14 rfl (lv_at hl 1 rfl) ?_
    refine lv_aload_n hx hb dX10_findHeights_15 rfl (lv_at hl 0 rfl) ?_
    refine lv_iload_n hx hb dX10_findHeights_16 rfl (lv_at hl 1 rfl) ?_
    obtain ⟨r7, μ6, hc8, h⟩ := bC_e h
    refine rc_Vi (rest := [.int x1, .ref (z + b5)]) [.int x1] ⟨hx, hb, hml, hown, hts⟩ hK hd hS (c_X10_heightOf hk_a0 hc8) (cwV 1 hts gX10_findHeights_X10_heightOf rfl rfl rfl hv_X10_heightOf ⟨Nat.le_of_ble_eq_true rfl, Nat.le_of_ble_eq_true rfl⟩) hk_a0 rfl rfl rfl rfl hl.1 rfl (Nat.le_of_ble_eq_true rfl) dX10_findHeights_17 ⟨Nat.zero_le _, Nat.zero_le _⟩ (fun H locs hd hS => ?_)
    obtain ⟨g9, h⟩ := gd_e h
    refine r_iast hx hb hK hd hS hk_b5 (ckb_in g9) dX10_findHeights_20 (fun μ10 eμ10 H locs hd hS => ?_)
    have h := bM_e eμ10 h
    refine lv_iinc (v := x1 + (1 : Int32)) (lv' := [(1, .int (x1 + (1 : Int32))), (0, .ref (z + a0))]) hx hb dX10_findHeights_21 hl (k := 1) rfl rfl (by decide) rfl (fun ls hl => ?_)
    refine lv_goto (tgt := 2) hx hb dX10_findHeights_24 (by decide) ?_
    exact hrc2 _ _ _ _ _ _ hk_a0 hd hS (lv_sub hl [1, 0] rfl) h
def f_X10_findHeights_L2 : Nat → Mm → Nat → Int32 → Option Mm
  | 0 => fun _ _ _ => none
  | n + 1 => fun μ a0 x1 => f_X10_findHeights_L2b (f_X10_findHeights_L2 n) μ a0 x1
theorem k_f_X10_findHeights_L2 {l : Launch} {D : va_G} {cA : Nat → ClassId} {z : Nat} {av : List Value} {p : Program} {e : Env} {s : State} {m : MethodId} {below : List Frame} {meth : Method} {c : Code} {μ' : Mm} (X : Fx D cA RX10 wsX10_findHeights cX10_findHeights 2 none p s m av.toArray meth c) (n : Nat) : HL_X10_findHeights_2 l D cA z av μ' p e s m below meth c (f_X10_findHeights_L2 n) := by
  induction n with
  | zero => intro _ _ _ _ _ _ _ _ _ _ h; have h2 : (none : Option _) = some _ := h; cases h2
  | succ n ih => intro μ H locs ls a0 x1 hk_a0 hd hS hl h; exact k_f_X10_findHeights_L2b X ih hk_a0 hd hS hl h
def f_X10_findHeights (μ : Mm) (a0 : Nat) : Option Mm := f_X10_findHeights_L2 FU μ a0 (0 : Int32)
set_option maxRecDepth 100000 in
theorem c_X10_findHeights {l : Launch} {D : va_G} {cA : Nat → ClassId} {z : Nat} {μ : Mm} {a0 : Nat} {μ' : Mm} (hk_a0 : kd a0 = 10) (h : f_X10_findHeights μ a0 = some μ') : Ct l D cA z yX10_findHeights wsX10_findHeights 4 96 [.ref (z + a0)] μ none μ' := by
  refine m_in (cc := cX10_findHeights) (maxL := 2) (ret := none) (own := RX10) (by decide) rfl rfl (Nat.le_of_ble_eq_true rfl) ?_
  intro p e s m below meth c ls X hd hS hl
  obtain ⟨hx, hb, hr, hlk, hml, hown, hts, hK⟩ := id X
  have hl : lv_has ls 2 [(0, .ref (z + a0))] := hl
  unfold f_X10_findHeights at h
  refine lv_iconst (v := 0) hx hb dX10_findHeights_0 (by decide) ?_
  refine lv_istore_n (lv' := [(1, .int (0 : Int32)), (0, .ref (z + a0))]) hx hb dX10_findHeights_1 rfl hl (by decide) rfl (fun ls hl => ?_)
  exact k_f_X10_findHeights_L2 X FU _ _ _ _ _ _ hk_a0 hd hS (lv_sub hl [1, 0] rfl) h
theorem hv_X10_areNear : yX10_areNear.cls = RX10 ∧ yX10_areNear.cls ≠ "java/lang/invoke/MethodHandle" ∧ yX10_areNear.cls ≠ "java/lang/invoke/VarHandle" ∧ (parseMethodDescriptor yX10_areNear.desc).map (fun d => d.parameters.length) = some 2 := by decide +kernel
def f_X10_areNear (μ : Mm) (a0 : Nat) (x1 : Int32) (x2 : Int32) : Option (Int32 × Mm) := gd (ck0 (μ.1 a0 0)) (gd (ck0 (μ.1 a0 0)) (bI ((x1 / (μ.1 a0 0)) - (x2 / (μ.1 a0 0))) (fun v3 => gd (ck0 (μ.1 a0 0)) (gd (ck0 (μ.1 a0 0)) (bI ((x1 - x1 / (μ.1 a0 0) * (μ.1 a0 0)) - (x2 - x2 / (μ.1 a0 0) * (μ.1 a0 0))) (fun v6 => if ((v3 * v3) + (v6 * v6)) = (1 : Int32) then (some ((1 : Int32), μ)) else (some ((0 : Int32), μ))))))))
set_option maxRecDepth 100000 in
theorem c_X10_areNear {l : Launch} {D : va_G} {cA : Nat → ClassId} {z : Nat} {μ : Mm} {a0 : Nat} {x1 : Int32} {x2 : Int32} {r : Int32} {μ' : Mm} (hk_a0 : kd a0 = 10) (h : f_X10_areNear μ a0 x1 x2 = some (r, μ')) : Ct l D cA z yX10_areNear wsX10_areNear 0 0 [.ref (z + a0), .int x1, .int x2] μ (some (.int r)) μ' := by
  refine m_in (cc := cX10_areNear) (maxL := 5) (ret := (some .boolean)) (own := RX10) (by decide) rfl rfl (Nat.le_of_ble_eq_true rfl) ?_
  intro p e s m below meth c ls X hd hS hl
  obtain ⟨hx, hb, hr, hlk, hml, hown, hts, hK⟩ := id X
  have hl : lv_has ls 5 [(0, .ref (z + a0)), (1, .int x1), (2, .int x2)] := hl
  unfold f_X10_areNear at h
  refine lv_iload_n hx hb dX10_areNear_0 rfl (lv_at hl 1 rfl) ?_
  refine lv_aload_n hx hb dX10_areNear_1 rfl (lv_at hl 0 rfl) ?_
  refine r_geti hx hb hts (fun w h => List.mem_cons_of_mem _ (List.mem_append_right _ (h))) hown hK hd hk_a0 rfl 0 fs_10_0 (hts (.fieldLink RX10 84 "LevelVotesModel" "columns" "I") (List.mem_of_getElem? (i := 1) rfl)) dX10_areNear_2 ?_
  obtain ⟨g1, h⟩ := gd_e h
  refine lv_idiv hx hb dX10_areNear_5 (ck0_ne g1) ?_
  refine lv_iload_n hx hb dX10_areNear_6 rfl (lv_at hl 2 rfl) ?_
  refine lv_aload_n hx hb dX10_areNear_7 rfl (lv_at hl 0 rfl) ?_
  refine r_geti hx hb hts (fun w h => List.mem_cons_of_mem _ (List.mem_append_right _ (h))) hown hK hd hk_a0 rfl 0 fs_10_0 (hts (.fieldLink RX10 84 "LevelVotesModel" "columns" "I") (List.mem_of_getElem? (i := 1) rfl)) dX10_areNear_8 ?_
  obtain ⟨g2, h⟩ := gd_e h
  refine lv_idiv hx hb dX10_areNear_11 (ck0_ne g2) ?_
  refine lv_isub hx hb dX10_areNear_12 ?_
  refine lv_topi (fun v3 ev3 => ?_)
  have h := bI_e ev3 h
  refine lv_istore_n (lv' := [(3, .int v3), (0, .ref (z + a0)), (1, .int x1), (2, .int x2)]) hx hb dX10_areNear_13 rfl hl (by decide) rfl (fun ls hl => ?_)
  refine lv_iload_n hx hb dX10_areNear_14 rfl (lv_at hl 2 rfl) ?_
  refine lv_aload_n hx hb dX10_areNear_15 rfl (lv_at hl 1 rfl) ?_
  refine r_geti hx hb hts (fun w h => List.mem_cons_of_mem _ (List.mem_append_right _ (h))) hown hK hd hk_a0 rfl 0 fs_10_0 (hts (.fieldLink RX10 84 "LevelVotesModel" "columns" "I") (List.mem_of_getElem? (i := 1) rfl)) dX10_areNear_16 ?_
  obtain ⟨g4, h⟩ := gd_e h
  refine lv_irem hx hb dX10_areNear_19 (ck0_ne g4) ?_
  refine lv_iload_n hx hb dX10_areNear_20 rfl (lv_at hl 3 rfl) ?_
  refine lv_aload_n hx hb dX10_areNear_21 rfl (lv_at hl 1 rfl) ?_
  refine r_geti hx hb hts (fun w h => List.mem_cons_of_mem _ (List.mem_append_right _ (h))) hown hK hd hk_a0 rfl 0 fs_10_0 (hts (.fieldLink RX10 84 "LevelVotesModel" "columns" "I") (List.mem_of_getElem? (i := 1) rfl)) dX10_areNear_22 ?_
  obtain ⟨g5, h⟩ := gd_e h
  refine lv_irem hx hb dX10_areNear_25 (ck0_ne g5) ?_
  refine lv_isub hx hb dX10_areNear_26 ?_
  refine lv_topi (fun v6 ev6 => ?_)
  have h := bI_e ev6 h
  refine lv_istore (lv' := [(4, .int v6), (3, .int v3), (0, .ref (z + a0)), (1, .int x1), (2, .int x2)]) hx hb dX10_areNear_27 hl (by decide) rfl (fun ls hl => ?_)
  refine lv_iload_n hx hb dX10_areNear_29 rfl (lv_at hl 1 rfl) ?_
  refine lv_iload_n hx hb dX10_areNear_30 rfl (lv_at hl 1 rfl) ?_
  refine lv_imul hx hb dX10_areNear_31 ?_
  refine lv_iload hx hb dX10_areNear_32 (lv_at hl 0 rfl) ?_
  refine lv_iload hx hb dX10_areNear_34 (lv_at hl 0 rfl) ?_
  refine lv_imul hx hb dX10_areNear_36 ?_
  refine lv_iadd hx hb dX10_areNear_37 ?_
  refine lv_iconst (v := 1) hx hb dX10_areNear_38 (by decide) ?_
  refine lv_icmp_ne (tgt := 46) hx hb dX10_areNear_39 (by decide) (fun q7 => ?_) (fun q7 => ?_)
  · have h := if_n q7 h
    refine lv_iconst (v := 0) hx hb dX10_areNear_46 (by decide) ?_
    obtain ⟨rfl, rfl⟩ := so_e h
    exact rt_z hx hb hr rfl hlk hd hS dX10_areNear_47
  · have h := if_y q7 h
    refine lv_iconst (v := 1) hx hb dX10_areNear_42 (by decide) ?_
    refine lv_goto (tgt := 47) hx hb dX10_areNear_43 (by decide) ?_
    obtain ⟨rfl, rfl⟩ := so_e h
    exact rt_z hx hb hr rfl hlk hd hS dX10_areNear_47
theorem hv_X10_rollsTo : yX10_rollsTo.cls = RX10 ∧ yX10_rollsTo.cls ≠ "java/lang/invoke/MethodHandle" ∧ yX10_rollsTo.cls ≠ "java/lang/invoke/VarHandle" ∧ (parseMethodDescriptor yX10_rollsTo.desc).map (fun d => d.parameters.length) = some 1 := by decide +kernel
abbrev HL_X10_rollsTo_4 (l : Launch) (D : va_G) (cA : Nat → ClassId) (z : Nat) (av : List Value) (r : Int32) (μ' : Mm) (p : Program) (e : Env) (s : State) (m : MethodId) (below : List Frame) (meth : Method) (c : Code) (rc : Mm → Nat → Int32 → Int32 → Int32 → Option (Int32 × Mm)) : Prop := ∀ (μ : Mm) (H : Heap) (locs : List Loc) (ls : Array Slot) (a0 : Nat) (x1 : Int32) (x2 : Int32) (x3 : Int32), kd a0 = 10 → Wd D cA z μ H → va_S (Az z) s.heap H locs → lv_has ls 4 [(0, .ref (z + a0)), (1, .int x1), (2, .int x2), (3, .int x3)] → rc μ a0 x1 x2 x3 = some (r, μ') → WG l D cA z wsX10_rollsTo 1 24 av (some (.int r)) μ' p e s m below meth c H locs (F0 m 4 ls [])
def f_X10_rollsTo_j41 (rc4 : Mm → Nat → Int32 → Int32 → Int32 → Option (Int32 × Mm)) (μ : Mm) (a0 : Nat) (x1 : Int32) (x3 : Int32) (ys0 : Int32) : Option (Int32 × Mm) := rc4 μ a0 x1 ys0 (x3 + (1 : Int32))
set_option maxRecDepth 100000 in
theorem k_f_X10_rollsTo_j41 {l : Launch} {D : va_G} {cA : Nat → ClassId} {z : Nat} {av : List Value} {p : Program} {e : Env} {s : State} {m : MethodId} {below : List Frame} {meth : Method} {c : Code} {r : Int32} {μ' : Mm} (X : Fx D cA RX10 wsX10_rollsTo cX10_rollsTo 4 (some .int) p s m av.toArray meth c) {rc4 : Mm → Nat → Int32 → Int32 → Int32 → Option (Int32 × Mm)} (hrc4 : HL_X10_rollsTo_4 l D cA z av r μ' p e s m below meth c rc4) {μ : Mm} {a0 : Nat} {x1 : Int32} {x3 : Int32} {ys0 : Int32} (hk_a0 : kd a0 = 10) {H : Heap} {locs : List Loc} {ls : Array Slot} (hd : Wd D cA z μ H) (hS : va_S (Az z) s.heap H locs) (hl : lv_has ls 4 [(0, .ref (z + a0)), (1, .int x1), (3, .int x3)]) (h : f_X10_rollsTo_j41 rc4 μ a0 x1 x3 ys0 = some (r, μ')) : WG l D cA z wsX10_rollsTo 1 24 av (some (.int r)) μ' p e s m below meth c H locs (F0 m 41 ls [.int ys0]) := by
  obtain ⟨hx, hb, hr, hlk, hml, hown, hts, hK⟩ := id X
  unfold f_X10_rollsTo_j41 at h
  refine lv_istore_n (lv' := [(2, .int ys0), (0, .ref (z + a0)), (1, .int x1), (3, .int x3)]) hx hb dX10_rollsTo_41 rfl hl (by decide) rfl (fun ls hl => ?_)
  refine lv_iinc (v := x3 + (1 : Int32)) (lv' := [(3, .int (x3 + (1 : Int32))), (2, .int ys0), (0, .ref (z + a0)), (1, .int x1)]) hx hb dX10_rollsTo_42 hl (k := 3) rfl rfl (by decide) rfl (fun ls hl => ?_)
  refine lv_goto (tgt := 4) hx hb dX10_rollsTo_45 (by decide) ?_
  exact hrc4 _ _ _ _ _ _ _ _ hk_a0 hd hS (lv_sub hl [2, 3, 1, 0] rfl) h
def f_X10_rollsTo_j40 (rc4 : Mm → Nat → Int32 → Int32 → Int32 → Option (Int32 × Mm)) (μ : Mm) (a0 : Nat) (x1 : Int32) (x2 : Int32) (x3 : Int32) : Option (Int32 × Mm) := f_X10_rollsTo_j41 rc4 μ a0 x1 x3 x2
set_option maxRecDepth 100000 in
theorem k_f_X10_rollsTo_j40 {l : Launch} {D : va_G} {cA : Nat → ClassId} {z : Nat} {av : List Value} {p : Program} {e : Env} {s : State} {m : MethodId} {below : List Frame} {meth : Method} {c : Code} {r : Int32} {μ' : Mm} (X : Fx D cA RX10 wsX10_rollsTo cX10_rollsTo 4 (some .int) p s m av.toArray meth c) {rc4 : Mm → Nat → Int32 → Int32 → Int32 → Option (Int32 × Mm)} (hrc4 : HL_X10_rollsTo_4 l D cA z av r μ' p e s m below meth c rc4) {μ : Mm} {a0 : Nat} {x1 : Int32} {x2 : Int32} {x3 : Int32} (hk_a0 : kd a0 = 10) {H : Heap} {locs : List Loc} {ls : Array Slot} (hd : Wd D cA z μ H) (hS : va_S (Az z) s.heap H locs) (hl : lv_has ls 4 [(0, .ref (z + a0)), (1, .int x1), (2, .int x2), (3, .int x3)]) (h : f_X10_rollsTo_j40 rc4 μ a0 x1 x2 x3 = some (r, μ')) : WG l D cA z wsX10_rollsTo 1 24 av (some (.int r)) μ' p e s m below meth c H locs (F0 m 40 ls []) := by
  obtain ⟨hx, hb, hr, hlk, hml, hown, hts, hK⟩ := id X
  unfold f_X10_rollsTo_j40 at h
  refine lv_iload_n hx hb dX10_rollsTo_40 rfl (lv_at hl 2 rfl) ?_
  exact k_f_X10_rollsTo_j41 X hrc4 hk_a0 hd hS (lv_sub hl [0, 1, 3] rfl) h
def f_X10_rollsTo_L4b (rc4 : Mm → Nat → Int32 → Int32 → Int32 → Option (Int32 × Mm)) (μ : Mm) (a0 : Nat) (x1 : Int32) (x2 : Int32) (x3 : Int32) : Option (Int32 × Mm) := bC (f_X10_cells μ a0) (fun r2 μ1 => if r2 ≤ x3 then (some (x2, μ1)) else (bC (f_X10_areNear μ1 a0 x1 x3) (fun r6 μ5 => if r6 = 0 then (f_X10_rollsTo_j40 rc4 μ5 a0 x1 x2 x3) else (bR (μ5.2 a0 26) (fun b9 => gd (ckb x3 (ln b9)) (bR (μ5.2 a0 26) (fun b11 => gd (ckb x2 (ln b11)) (if (μ5.1 b11 (x2).toNatClampNeg) ≤ (μ5.1 b9 (x3).toNatClampNeg) then (f_X10_rollsTo_j40 rc4 μ5 a0 x1 x2 x3) else (f_X10_rollsTo_j41 rc4 μ5 a0 x1 x3 x3)))))))))
set_option maxRecDepth 100000 in
theorem k_f_X10_rollsTo_L4b {l : Launch} {D : va_G} {cA : Nat → ClassId} {z : Nat} {av : List Value} {p : Program} {e : Env} {s : State} {m : MethodId} {below : List Frame} {meth : Method} {c : Code} {r : Int32} {μ' : Mm} (X : Fx D cA RX10 wsX10_rollsTo cX10_rollsTo 4 (some .int) p s m av.toArray meth c) {rc4 : Mm → Nat → Int32 → Int32 → Int32 → Option (Int32 × Mm)} (hrc4 : HL_X10_rollsTo_4 l D cA z av r μ' p e s m below meth c rc4) {μ : Mm} {a0 : Nat} {x1 : Int32} {x2 : Int32} {x3 : Int32} (hk_a0 : kd a0 = 10) {H : Heap} {locs : List Loc} {ls : Array Slot} (hd : Wd D cA z μ H) (hS : va_S (Az z) s.heap H locs) (hl : lv_has ls 4 [(0, .ref (z + a0)), (1, .int x1), (2, .int x2), (3, .int x3)]) (h : f_X10_rollsTo_L4b rc4 μ a0 x1 x2 x3 = some (r, μ')) : WG l D cA z wsX10_rollsTo 1 24 av (some (.int r)) μ' p e s m below meth c H locs (F0 m 4 ls []) := by
  obtain ⟨hx, hb, hr, hlk, hml, hown, hts, hK⟩ := id X
  unfold f_X10_rollsTo_L4b at h
  refine lv_iload_n hx hb dX10_rollsTo_4 rfl (lv_at hl 3 rfl) ?_
  refine lv_aload_n hx hb dX10_rollsTo_5 rfl (lv_at hl 0 rfl) ?_
  obtain ⟨r2, μ1, hc3, h⟩ := bC_e h
  refine rc_Vi (rest := [.int x3]) [] ⟨hx, hb, hml, hown, hts⟩ hK hd hS (c_X10_cells hk_a0 hc3) (cwV 0 hts gX10_rollsTo_X10_cells rfl rfl rfl hv_X10_cells ⟨Nat.le_of_ble_eq_true rfl, Nat.le_of_ble_eq_true rfl⟩) hk_a0 rfl rfl rfl rfl hl.1 rfl (Nat.le_of_ble_eq_true rfl) dX10_rollsTo_6 ⟨Nat.zero_le _, Nat.zero_le _⟩ (fun H locs hd hS => ?_)
  refine lv_icmp_ge (tgt := 48) hx hb dX10_rollsTo_9 (by decide) (fun q4 => ?_) (fun q4 => ?_)
  · have h := if_y q4 h
    refine lv_iload_n hx hb dX10_rollsTo_48 rfl (lv_at hl 2 rfl) ?_
    obtain ⟨rfl, rfl⟩ := so_e h
    exact rt_i hx hb hr hlk hd hS dX10_rollsTo_49
  · have h := if_n q4 h
    refine lv_aload_n hx hb dX10_rollsTo_12 rfl (lv_at hl 0 rfl) ?_
    refine lv_iload_n hx hb dX10_rollsTo_13 rfl (lv_at hl 1 rfl) ?_
    refine lv_iload_n hx hb dX10_rollsTo_14 rfl (lv_at hl 3 rfl) ?_
    obtain ⟨r6, μ5, hc7, h⟩ := bC_e h
    refine rc_Vi (rest := []) [.int x1, .int x3] ⟨hx, hb, hml, hown, hts⟩ hK hd hS (c_X10_areNear hk_a0 hc7) (cwV 2 hts gX10_rollsTo_X10_areNear rfl rfl rfl hv_X10_areNear ⟨Nat.le_of_ble_eq_true rfl, Nat.le_of_ble_eq_true rfl⟩) hk_a0 rfl rfl rfl rfl hl.1 rfl (Nat.le_of_ble_eq_true rfl) dX10_rollsTo_15 ⟨Nat.zero_le _, Nat.zero_le _⟩ (fun H locs hd hS => ?_)
    refine lv_if_eq (tgt := 40) hx hb dX10_rollsTo_18 (by decide) (fun q8 => ?_) (fun q8 => ?_)
    · have h := if_y q8 h
      exact k_f_X10_rollsTo_j40 X hrc4 hk_a0 hd hS (lv_sub hl [0, 1, 2, 3] rfl) h
    · have h := if_n q8 h
      refine lv_aload_n hx hb dX10_rollsTo_21 rfl (lv_at hl 0 rfl) ?_
      obtain ⟨b9, hb9, h⟩ := bR_e h
      refine r_getr hx hb hts (fun w h => List.mem_cons_of_mem _ (List.mem_append_right _ (h))) hown hK hd hk_a0 hb9 rfl fs_10_26 (hts (.fieldLink RX10 53 "LevelVotesModel" "heights" "[I") (List.mem_of_getElem? (i := 1) rfl)) dX10_rollsTo_22 (fun hq => ?_)
      have hk_b9 : kd b9 = 11 := hq
      refine lv_iload_n hx hb dX10_rollsTo_25 rfl (lv_at hl 3 rfl) ?_
      obtain ⟨g10, h⟩ := gd_e h
      refine r_iald hx hb hK hd hk_b9 (ckb_in g10) dX10_rollsTo_26 ?_
      refine lv_aload_n hx hb dX10_rollsTo_27 rfl (lv_at hl 0 rfl) ?_
      obtain ⟨b11, hb11, h⟩ := bR_e h
      refine r_getr hx hb hts (fun w h => List.mem_cons_of_mem _ (List.mem_append_right _ (h))) hown hK hd hk_a0 hb11 rfl fs_10_26 (hts (.fieldLink RX10 53 "LevelVotesModel" "heights" "[I") (List.mem_of_getElem? (i := 1) rfl)) dX10_rollsTo_28 (fun hq => ?_)
      have hk_b11 : kd b11 = 11 := hq
      refine lv_iload_n hx hb dX10_rollsTo_31 rfl (lv_at hl 2 rfl) ?_
      obtain ⟨g12, h⟩ := gd_e h
      refine r_iald hx hb hK hd hk_b11 (ckb_in g12) dX10_rollsTo_32 ?_
      refine lv_icmp_ge (tgt := 40) hx hb dX10_rollsTo_33 (by decide) (fun q13 => ?_) (fun q13 => ?_)
      · have h := if_y q13 h
        exact k_f_X10_rollsTo_j40 X hrc4 hk_a0 hd hS (lv_sub hl [0, 1, 2, 3] rfl) h
      · have h := if_n q13 h
        refine lv_iload_n hx hb dX10_rollsTo_36 rfl (lv_at hl 3 rfl) ?_
        refine lv_goto (tgt := 41) hx hb dX10_rollsTo_37 (by decide) ?_
        exact k_f_X10_rollsTo_j41 X hrc4 hk_a0 hd hS (lv_sub hl [0, 1, 3] rfl) h
def f_X10_rollsTo_L4 : Nat → Mm → Nat → Int32 → Int32 → Int32 → Option (Int32 × Mm)
  | 0 => fun _ _ _ _ _ => none
  | n + 1 => fun μ a0 x1 x2 x3 => f_X10_rollsTo_L4b (f_X10_rollsTo_L4 n) μ a0 x1 x2 x3
theorem k_f_X10_rollsTo_L4 {l : Launch} {D : va_G} {cA : Nat → ClassId} {z : Nat} {av : List Value} {p : Program} {e : Env} {s : State} {m : MethodId} {below : List Frame} {meth : Method} {c : Code} {r : Int32} {μ' : Mm} (X : Fx D cA RX10 wsX10_rollsTo cX10_rollsTo 4 (some .int) p s m av.toArray meth c) (n : Nat) : HL_X10_rollsTo_4 l D cA z av r μ' p e s m below meth c (f_X10_rollsTo_L4 n) := by
  induction n with
  | zero => intro _ _ _ _ _ _ _ _ _ _ _ _ h; have h2 : (none : Option _) = some _ := h; cases h2
  | succ n ih => intro μ H locs ls a0 x1 x2 x3 hk_a0 hd hS hl h; exact k_f_X10_rollsTo_L4b X ih hk_a0 hd hS hl h
def f_X10_rollsTo (μ : Mm) (a0 : Nat) (x1 : Int32) : Option (Int32 × Mm) := f_X10_rollsTo_L4 FU μ a0 x1 x1 (0 : Int32)
set_option maxRecDepth 100000 in
theorem c_X10_rollsTo {l : Launch} {D : va_G} {cA : Nat → ClassId} {z : Nat} {μ : Mm} {a0 : Nat} {x1 : Int32} {r : Int32} {μ' : Mm} (hk_a0 : kd a0 = 10) (h : f_X10_rollsTo μ a0 x1 = some (r, μ')) : Ct l D cA z yX10_rollsTo wsX10_rollsTo 1 24 [.ref (z + a0), .int x1] μ (some (.int r)) μ' := by
  refine m_in (cc := cX10_rollsTo) (maxL := 4) (ret := (some .int)) (own := RX10) (by decide) rfl rfl (Nat.le_of_ble_eq_true rfl) ?_
  intro p e s m below meth c ls X hd hS hl
  obtain ⟨hx, hb, hr, hlk, hml, hown, hts, hK⟩ := id X
  have hl : lv_has ls 4 [(0, .ref (z + a0)), (1, .int x1)] := hl
  unfold f_X10_rollsTo at h
  refine lv_iload_n hx hb dX10_rollsTo_0 rfl (lv_at hl 1 rfl) ?_
  refine lv_istore_n (lv' := [(2, .int x1), (0, .ref (z + a0)), (1, .int x1)]) hx hb dX10_rollsTo_1 rfl hl (by decide) rfl (fun ls hl => ?_)
  refine lv_iconst (v := 0) hx hb dX10_rollsTo_2 (by decide) ?_
  refine lv_istore_n (lv' := [(3, .int (0 : Int32)), (2, .int x1), (0, .ref (z + a0)), (1, .int x1)]) hx hb dX10_rollsTo_3 rfl hl (by decide) rfl (fun ls hl => ?_)
  exact k_f_X10_rollsTo_L4 X FU _ _ _ _ _ _ _ _ hk_a0 hd hS (lv_sub hl [2, 3, 1, 0] rfl) h
theorem hv_X10_restOf : yX10_restOf.cls = RX10 ∧ yX10_restOf.cls ≠ "java/lang/invoke/MethodHandle" ∧ yX10_restOf.cls ≠ "java/lang/invoke/VarHandle" ∧ (parseMethodDescriptor yX10_restOf.desc).map (fun d => d.parameters.length) = some 1 := by decide +kernel
abbrev HL_X10_restOf_8 (l : Launch) (D : va_G) (cA : Nat → ClassId) (z : Nat) (av : List Value) (r : Int32) (μ' : Mm) (p : Program) (e : Env) (s : State) (m : MethodId) (below : List Frame) (meth : Method) (c : Code) (rc : Mm → Nat → Int32 → Int32 → Option (Int32 × Mm)) : Prop := ∀ (μ : Mm) (H : Heap) (locs : List Loc) (ls : Array Slot) (a0 : Nat) (x2 : Int32) (x3 : Int32), kd a0 = 10 → Wd D cA z μ H → va_S (Az z) s.heap H locs → lv_has ls 4 [(0, .ref (z + a0)), (2, .int x2), (3, .int x3)] → rc μ a0 x2 x3 = some (r, μ') → WG l D cA z wsX10_restOf 2 47 av (some (.int r)) μ' p e s m below meth c H locs (F0 m 8 ls [])
def f_X10_restOf_L8b (rc8 : Mm → Nat → Int32 → Int32 → Option (Int32 × Mm)) (μ : Mm) (a0 : Nat) (x2 : Int32) (x3 : Int32) : Option (Int32 × Mm) := if x3 = x2 then (some (x2, μ)) else (bC (f_X10_rollsTo μ a0 x3) (fun r3 μ2 => rc8 μ2 a0 x3 r3))
set_option maxRecDepth 100000 in
theorem k_f_X10_restOf_L8b {l : Launch} {D : va_G} {cA : Nat → ClassId} {z : Nat} {av : List Value} {p : Program} {e : Env} {s : State} {m : MethodId} {below : List Frame} {meth : Method} {c : Code} {r : Int32} {μ' : Mm} (X : Fx D cA RX10 wsX10_restOf cX10_restOf 4 (some .int) p s m av.toArray meth c) {rc8 : Mm → Nat → Int32 → Int32 → Option (Int32 × Mm)} (hrc8 : HL_X10_restOf_8 l D cA z av r μ' p e s m below meth c rc8) {μ : Mm} {a0 : Nat} {x2 : Int32} {x3 : Int32} (hk_a0 : kd a0 = 10) {H : Heap} {locs : List Loc} {ls : Array Slot} (hd : Wd D cA z μ H) (hS : va_S (Az z) s.heap H locs) (hl : lv_has ls 4 [(0, .ref (z + a0)), (2, .int x2), (3, .int x3)]) (h : f_X10_restOf_L8b rc8 μ a0 x2 x3 = some (r, μ')) : WG l D cA z wsX10_restOf 2 47 av (some (.int r)) μ' p e s m below meth c H locs (F0 m 8 ls []) := by
  obtain ⟨hx, hb, hr, hlk, hml, hown, hts, hK⟩ := id X
  unfold f_X10_restOf_L8b at h
  refine lv_iload_n hx hb dX10_restOf_8 rfl (lv_at hl 2 rfl) ?_
  refine lv_iload_n hx hb dX10_restOf_9 rfl (lv_at hl 1 rfl) ?_
  refine lv_icmp_eq (tgt := 24) hx hb dX10_restOf_10 (by decide) (fun q1 => ?_) (fun q1 => ?_)
  · have h := if_y q1 h
    refine lv_iload_n hx hb dX10_restOf_24 rfl (lv_at hl 1 rfl) ?_
    obtain ⟨rfl, rfl⟩ := so_e h
    exact rt_i hx hb hr hlk hd hS dX10_restOf_25
  · have h := if_n q1 h
    refine lv_iload_n hx hb dX10_restOf_13 rfl (lv_at hl 2 rfl) ?_
    refine lv_istore_n (lv' := [(2, .int x3), (0, .ref (z + a0)), (3, .int x3)]) hx hb dX10_restOf_14 rfl hl (by decide) rfl (fun ls hl => ?_)
    refine lv_aload_n hx hb dX10_restOf_15 rfl (lv_at hl 1 rfl) ?_
    refine lv_iload_n hx hb dX10_restOf_16 rfl (lv_at hl 0 rfl) ?_
    obtain ⟨r3, μ2, hc4, h⟩ := bC_e h
    refine rc_Vi (rest := []) [.int x3] ⟨hx, hb, hml, hown, hts⟩ hK hd hS (c_X10_rollsTo hk_a0 hc4) (cwV 1 hts gX10_restOf_X10_rollsTo rfl rfl rfl hv_X10_rollsTo ⟨Nat.le_of_ble_eq_true rfl, Nat.le_of_ble_eq_true rfl⟩) hk_a0 rfl rfl rfl rfl hl.1 rfl (Nat.le_of_ble_eq_true rfl) dX10_restOf_17 ⟨Nat.zero_le _, Nat.zero_le _⟩ (fun H locs hd hS => ?_)
    refine lv_istore_n (lv' := [(3, .int r3), (2, .int x3), (0, .ref (z + a0))]) hx hb dX10_restOf_20 rfl hl (by decide) rfl (fun ls hl => ?_)
    refine lv_goto (tgt := 8) hx hb dX10_restOf_21 (by decide) ?_
    exact hrc8 _ _ _ _ _ _ _ hk_a0 hd hS (lv_sub hl [2, 1, 0] rfl) h
def f_X10_restOf_L8 : Nat → Mm → Nat → Int32 → Int32 → Option (Int32 × Mm)
  | 0 => fun _ _ _ _ => none
  | n + 1 => fun μ a0 x2 x3 => f_X10_restOf_L8b (f_X10_restOf_L8 n) μ a0 x2 x3
theorem k_f_X10_restOf_L8 {l : Launch} {D : va_G} {cA : Nat → ClassId} {z : Nat} {av : List Value} {p : Program} {e : Env} {s : State} {m : MethodId} {below : List Frame} {meth : Method} {c : Code} {r : Int32} {μ' : Mm} (X : Fx D cA RX10 wsX10_restOf cX10_restOf 4 (some .int) p s m av.toArray meth c) (n : Nat) : HL_X10_restOf_8 l D cA z av r μ' p e s m below meth c (f_X10_restOf_L8 n) := by
  induction n with
  | zero => intro _ _ _ _ _ _ _ _ _ _ _ h; have h2 : (none : Option _) = some _ := h; cases h2
  | succ n ih => intro μ H locs ls a0 x2 x3 hk_a0 hd hS hl h; exact k_f_X10_restOf_L8b X ih hk_a0 hd hS hl h
def f_X10_restOf (μ : Mm) (a0 : Nat) (x1 : Int32) : Option (Int32 × Mm) := bC (f_X10_rollsTo μ a0 x1) (fun r2 μ1 => f_X10_restOf_L8 FU μ1 a0 x1 r2)
set_option maxRecDepth 100000 in
theorem c_X10_restOf {l : Launch} {D : va_G} {cA : Nat → ClassId} {z : Nat} {μ : Mm} {a0 : Nat} {x1 : Int32} {r : Int32} {μ' : Mm} (hk_a0 : kd a0 = 10) (h : f_X10_restOf μ a0 x1 = some (r, μ')) : Ct l D cA z yX10_restOf wsX10_restOf 2 47 [.ref (z + a0), .int x1] μ (some (.int r)) μ' := by
  refine m_in (cc := cX10_restOf) (maxL := 4) (ret := (some .int)) (own := RX10) (by decide) rfl rfl (Nat.le_of_ble_eq_true rfl) ?_
  intro p e s m below meth c ls X hd hS hl
  obtain ⟨hx, hb, hr, hlk, hml, hown, hts, hK⟩ := id X
  have hl : lv_has ls 4 [(0, .ref (z + a0)), (1, .int x1)] := hl
  unfold f_X10_restOf at h
  refine lv_iload_n hx hb dX10_restOf_0 rfl (lv_at hl 1 rfl) ?_
  refine lv_istore_n (lv' := [(2, .int x1), (0, .ref (z + a0)), (1, .int x1)]) hx hb dX10_restOf_1 rfl hl (by decide) rfl (fun ls hl => ?_)
  refine lv_aload_n hx hb dX10_restOf_2 rfl (lv_at hl 1 rfl) ?_
  refine lv_iload_n hx hb dX10_restOf_3 rfl (lv_at hl 2 rfl) ?_
  obtain ⟨r2, μ1, hc3, h⟩ := bC_e h
  refine rc_Vi (rest := []) [.int x1] ⟨hx, hb, hml, hown, hts⟩ hK hd hS (c_X10_rollsTo hk_a0 hc3) (cwV 1 hts gX10_restOf_X10_rollsTo rfl rfl rfl hv_X10_rollsTo ⟨Nat.le_of_ble_eq_true rfl, Nat.le_of_ble_eq_true rfl⟩) hk_a0 rfl rfl rfl rfl hl.1 rfl (Nat.le_of_ble_eq_true rfl) dX10_restOf_4 ⟨Nat.zero_le _, Nat.zero_le _⟩ (fun H locs hd hS => ?_)
  refine lv_istore_n (lv' := [(3, .int r2), (2, .int x1), (0, .ref (z + a0)), (1, .int x1)]) hx hb dX10_restOf_7 rfl hl (by decide) rfl (fun ls hl => ?_)
  exact k_f_X10_restOf_L8 X FU _ _ _ _ _ _ _ hk_a0 hd hS (lv_sub hl [2, 1, 0] rfl) h
theorem hv_X10_lookNow : yX10_lookNow.cls = RX10 ∧ yX10_lookNow.cls ≠ "java/lang/invoke/MethodHandle" ∧ yX10_lookNow.cls ≠ "java/lang/invoke/VarHandle" ∧ (parseMethodDescriptor yX10_lookNow.desc).map (fun d => d.parameters.length) = some 0 := by decide +kernel
def f_X10_lookNow (μ : Mm) (a0 : Nat) : Option Mm := bC (f_X10_standNow μ a0) (fun r2 μ1 => bV (f_X10_findHeights μ1 a0) (fun μ4 => some μ4))
set_option maxRecDepth 100000 in
theorem c_X10_lookNow {l : Launch} {D : va_G} {cA : Nat → ClassId} {z : Nat} {μ : Mm} {a0 : Nat} {μ' : Mm} (hk_a0 : kd a0 = 10) (h : f_X10_lookNow μ a0 = some μ') : Ct l D cA z yX10_lookNow wsX10_lookNow 5 117 [.ref (z + a0)] μ none μ' := by
  refine m_in (cc := cX10_lookNow) (maxL := 2) (ret := none) (own := RX10) (by decide) rfl rfl (Nat.le_of_ble_eq_true rfl) ?_
  intro p e s m below meth c ls X hd hS hl
  obtain ⟨hx, hb, hr, hlk, hml, hown, hts, hK⟩ := id X
  have hl : lv_has ls 2 [(0, .ref (z + a0))] := hl
  unfold f_X10_lookNow at h
  refine lv_aload_n hx hb dX10_lookNow_0 rfl (lv_at hl 0 rfl) ?_
  obtain ⟨r2, μ1, hc3, h⟩ := bC_e h
  refine rc_Vi (rest := []) [] ⟨hx, hb, hml, hown, hts⟩ hK hd hS (c_X10_standNow hk_a0 hc3) (cwV 0 hts gX10_lookNow_X10_standNow rfl rfl rfl hv_X10_standNow ⟨Nat.le_of_ble_eq_true rfl, Nat.le_of_ble_eq_true rfl⟩) hk_a0 rfl rfl rfl rfl hl.1 rfl (Nat.le_of_ble_eq_true rfl) dX10_lookNow_1 ⟨Nat.zero_le _, Nat.zero_le _⟩ (fun H locs hd hS => ?_)
  refine lv_istore_n (lv' := [(1, .int r2), (0, .ref (z + a0))]) hx hb dX10_lookNow_4 rfl hl (by decide) rfl (fun ls hl => ?_)
  refine lv_aload_n hx hb dX10_lookNow_5 rfl (lv_at hl 1 rfl) ?_
  obtain ⟨μ4, hc6, h⟩ := bV_e h
  refine rc_Vv (rest := []) [] ⟨hx, hb, hml, hown, hts⟩ hK hd hS (c_X10_findHeights hk_a0 hc6) (cwV 0 hts gX10_lookNow_X10_findHeights rfl rfl rfl hv_X10_findHeights ⟨Nat.le_of_ble_eq_true rfl, Nat.le_of_ble_eq_true rfl⟩) hk_a0 rfl rfl rfl rfl hl.1 rfl (Nat.le_of_ble_eq_true rfl) dX10_lookNow_6 ⟨Nat.zero_le _, Nat.zero_le _⟩ (fun H locs hd hS => ?_)
  obtain rfl := sv_e h
  exact rt_v hx hb hr hlk hd hS dX10_lookNow_9
theorem hv_X10_pools : yX10_pools.cls = RX10 ∧ yX10_pools.cls ≠ "java/lang/invoke/MethodHandle" ∧ yX10_pools.cls ≠ "java/lang/invoke/VarHandle" ∧ (parseMethodDescriptor yX10_pools.desc).map (fun d => d.parameters.length) = some 0 := by decide +kernel
abbrev HL_X10_pools_8 (l : Launch) (D : va_G) (cA : Nat → ClassId) (z : Nat) (av : List Value) (r : Int32) (μ' : Mm) (p : Program) (e : Env) (s : State) (m : MethodId) (below : List Frame) (meth : Method) (c : Code) (rc : Mm → Nat → Int32 → Int32 → Option (Int32 × Mm)) : Prop := ∀ (μ : Mm) (H : Heap) (locs : List Loc) (ls : Array Slot) (a0 : Nat) (x1 : Int32) (x2 : Int32), kd a0 = 10 → Wd D cA z μ H → va_S (Az z) s.heap H locs → lv_has ls 3 [(0, .ref (z + a0)), (1, .int x1), (2, .int x2)] → rc μ a0 x1 x2 = some (r, μ') → WG l D cA z wsX10_pools 6 138 av (some (.int r)) μ' p e s m below meth c H locs (F0 m 8 ls [])
def f_X10_pools_L8b (rc8 : Mm → Nat → Int32 → Int32 → Option (Int32 × Mm)) (μ : Mm) (a0 : Nat) (x1 : Int32) (x2 : Int32) : Option (Int32 × Mm) := bC (f_X10_cells μ a0) (fun r2 μ1 => if r2 ≤ x2 then (some (x1, μ1)) else (bC (f_X10_restOf μ1 a0 x2) (fun r6 μ5 => bI (x1 ||| ((1 : Int32) <<< (r6 &&& 31))) (fun v8 => rc8 μ5 a0 v8 (x2 + (1 : Int32))))))
set_option maxRecDepth 100000 in
theorem k_f_X10_pools_L8b {l : Launch} {D : va_G} {cA : Nat → ClassId} {z : Nat} {av : List Value} {p : Program} {e : Env} {s : State} {m : MethodId} {below : List Frame} {meth : Method} {c : Code} {r : Int32} {μ' : Mm} (X : Fx D cA RX10 wsX10_pools cX10_pools 3 (some .int) p s m av.toArray meth c) {rc8 : Mm → Nat → Int32 → Int32 → Option (Int32 × Mm)} (hrc8 : HL_X10_pools_8 l D cA z av r μ' p e s m below meth c rc8) {μ : Mm} {a0 : Nat} {x1 : Int32} {x2 : Int32} (hk_a0 : kd a0 = 10) {H : Heap} {locs : List Loc} {ls : Array Slot} (hd : Wd D cA z μ H) (hS : va_S (Az z) s.heap H locs) (hl : lv_has ls 3 [(0, .ref (z + a0)), (1, .int x1), (2, .int x2)]) (h : f_X10_pools_L8b rc8 μ a0 x1 x2 = some (r, μ')) : WG l D cA z wsX10_pools 6 138 av (some (.int r)) μ' p e s m below meth c H locs (F0 m 8 ls []) := by
  obtain ⟨hx, hb, hr, hlk, hml, hown, hts, hK⟩ := id X
  unfold f_X10_pools_L8b at h
  refine lv_iload_n hx hb dX10_pools_8 rfl (lv_at hl 2 rfl) ?_
  refine lv_aload_n hx hb dX10_pools_9 rfl (lv_at hl 0 rfl) ?_
  obtain ⟨r2, μ1, hc3, h⟩ := bC_e h
  refine rc_Vi (rest := [.int x2]) [] ⟨hx, hb, hml, hown, hts⟩ hK hd hS (c_X10_cells hk_a0 hc3) (cwV 0 hts gX10_pools_X10_cells rfl rfl rfl hv_X10_cells ⟨Nat.le_of_ble_eq_true rfl, Nat.le_of_ble_eq_true rfl⟩) hk_a0 rfl rfl rfl rfl hl.1 rfl (Nat.le_of_ble_eq_true rfl) dX10_pools_10 ⟨Nat.zero_le _, Nat.zero_le _⟩ (fun H locs hd hS => ?_)
  refine lv_icmp_ge (tgt := 32) hx hb dX10_pools_13 (by decide) (fun q4 => ?_) (fun q4 => ?_)
  · have h := if_y q4 h
    refine lv_iload_n hx hb dX10_pools_32 rfl (lv_at hl 1 rfl) ?_
    obtain ⟨rfl, rfl⟩ := so_e h
    exact rt_i hx hb hr hlk hd hS dX10_pools_33
  · have h := if_n q4 h
    refine lv_iload_n hx hb dX10_pools_16 rfl (lv_at hl 1 rfl) ?_
    refine lv_iconst (v := 1) hx hb dX10_pools_17 (by decide) ?_
    refine lv_aload_n hx hb dX10_pools_18 rfl (lv_at hl 0 rfl) ?_
    refine lv_iload_n hx hb dX10_pools_19 rfl (lv_at hl 2 rfl) ?_
    obtain ⟨r6, μ5, hc7, h⟩ := bC_e h
    refine rc_Vi (rest := [.int (1 : Int32), .int x1]) [.int x2] ⟨hx, hb, hml, hown, hts⟩ hK hd hS (c_X10_restOf hk_a0 hc7) (cwV 1 hts gX10_pools_X10_restOf rfl rfl rfl hv_X10_restOf ⟨Nat.le_of_ble_eq_true rfl, Nat.le_of_ble_eq_true rfl⟩) hk_a0 rfl rfl rfl rfl hl.1 rfl (Nat.le_of_ble_eq_true rfl) dX10_pools_20 ⟨Nat.zero_le _, Nat.zero_le _⟩ (fun H locs hd hS => ?_)
    refine lv_ishl hx hb dX10_pools_23 ?_
    refine lv_ior hx hb dX10_pools_24 ?_
    refine lv_topi (fun v8 ev8 => ?_)
    have h := bI_e ev8 h
    refine lv_istore_n (lv' := [(1, .int v8), (0, .ref (z + a0)), (2, .int x2)]) hx hb dX10_pools_25 rfl hl (by decide) rfl (fun ls hl => ?_)
    refine lv_iinc (v := x2 + (1 : Int32)) (lv' := [(2, .int (x2 + (1 : Int32))), (1, .int v8), (0, .ref (z + a0))]) hx hb dX10_pools_26 hl (k := 2) rfl rfl (by decide) rfl (fun ls hl => ?_)
    refine lv_goto (tgt := 8) hx hb dX10_pools_29 (by decide) ?_
    exact hrc8 _ _ _ _ _ _ _ hk_a0 hd hS (lv_sub hl [2, 1, 0] rfl) h
def f_X10_pools_L8 : Nat → Mm → Nat → Int32 → Int32 → Option (Int32 × Mm)
  | 0 => fun _ _ _ _ => none
  | n + 1 => fun μ a0 x1 x2 => f_X10_pools_L8b (f_X10_pools_L8 n) μ a0 x1 x2
theorem k_f_X10_pools_L8 {l : Launch} {D : va_G} {cA : Nat → ClassId} {z : Nat} {av : List Value} {p : Program} {e : Env} {s : State} {m : MethodId} {below : List Frame} {meth : Method} {c : Code} {r : Int32} {μ' : Mm} (X : Fx D cA RX10 wsX10_pools cX10_pools 3 (some .int) p s m av.toArray meth c) (n : Nat) : HL_X10_pools_8 l D cA z av r μ' p e s m below meth c (f_X10_pools_L8 n) := by
  induction n with
  | zero => intro _ _ _ _ _ _ _ _ _ _ _ h; have h2 : (none : Option _) = some _ := h; cases h2
  | succ n ih => intro μ H locs ls a0 x1 x2 hk_a0 hd hS hl h; exact k_f_X10_pools_L8b X ih hk_a0 hd hS hl h
def f_X10_pools (μ : Mm) (a0 : Nat) : Option (Int32 × Mm) := bV (f_X10_lookNow μ a0) (fun μ1 => f_X10_pools_L8 FU μ1 a0 (0 : Int32) (0 : Int32))
set_option maxRecDepth 100000 in
theorem c_X10_pools {l : Launch} {D : va_G} {cA : Nat → ClassId} {z : Nat} {μ : Mm} {a0 : Nat} {r : Int32} {μ' : Mm} (hk_a0 : kd a0 = 10) (h : f_X10_pools μ a0 = some (r, μ')) : Ct l D cA z yX10_pools wsX10_pools 6 138 [.ref (z + a0)] μ (some (.int r)) μ' := by
  refine m_in (cc := cX10_pools) (maxL := 3) (ret := (some .int)) (own := RX10) (by decide) rfl rfl (Nat.le_of_ble_eq_true rfl) ?_
  intro p e s m below meth c ls X hd hS hl
  obtain ⟨hx, hb, hr, hlk, hml, hown, hts, hK⟩ := id X
  have hl : lv_has ls 3 [(0, .ref (z + a0))] := hl
  unfold f_X10_pools at h
  refine lv_aload_n hx hb dX10_pools_0 rfl (lv_at hl 0 rfl) ?_
  obtain ⟨μ1, hc3, h⟩ := bV_e h
  refine rc_Vv (rest := []) [] ⟨hx, hb, hml, hown, hts⟩ hK hd hS (c_X10_lookNow hk_a0 hc3) (cwV 0 hts gX10_pools_X10_lookNow rfl rfl rfl hv_X10_lookNow ⟨Nat.le_of_ble_eq_true rfl, Nat.le_of_ble_eq_true rfl⟩) hk_a0 rfl rfl rfl rfl hl.1 rfl (Nat.le_of_ble_eq_true rfl) dX10_pools_1 ⟨Nat.zero_le _, Nat.zero_le _⟩ (fun H locs hd hS => ?_)
  refine lv_iconst (v := 0) hx hb dX10_pools_4 (by decide) ?_
  refine lv_istore_n (lv' := [(1, .int (0 : Int32)), (0, .ref (z + a0))]) hx hb dX10_pools_5 rfl hl (by decide) rfl (fun ls hl => ?_)
  refine lv_iconst (v := 0) hx hb dX10_pools_6 (by decide) ?_
  refine lv_istore_n (lv' := [(2, .int (0 : Int32)), (1, .int (0 : Int32)), (0, .ref (z + a0))]) hx hb dX10_pools_7 rfl hl (by decide) rfl (fun ls hl => ?_)
  exact k_f_X10_pools_L8 X FU _ _ _ _ _ _ _ hk_a0 hd hS (lv_sub hl [2, 1, 0] rfl) h
theorem hv_X10_downhill : yX10_downhill.cls = RX10 ∧ yX10_downhill.cls ≠ "java/lang/invoke/MethodHandle" ∧ yX10_downhill.cls ≠ "java/lang/invoke/VarHandle" ∧ (parseMethodDescriptor yX10_downhill.desc).map (fun d => d.parameters.length) = some 0 := by decide +kernel
abbrev HL_X10_downhill_9 (l : Launch) (D : va_G) (cA : Nat → ClassId) (z : Nat) (av : List Value) (r : Int32) (μ' : Mm) (p : Program) (e : Env) (s : State) (m : MethodId) (below : List Frame) (meth : Method) (c : Code) (rc : Mm → Nat → Int32 → Int32 → Option (Int32 × Mm)) : Prop := ∀ (μ : Mm) (H : Heap) (locs : List Loc) (ls : Array Slot) (a0 : Nat) (x2 : Int32) (x3 : Int32), kd a0 = 10 → Wd D cA z μ H → va_S (Az z) s.heap H locs → lv_has ls 7 [(0, .ref (z + a0)), (2, .int x2), (3, .int x3)] → rc μ a0 x2 x3 = some (r, μ') → WG l D cA z wsX10_downhill 3 67 av (some (.int r)) μ' p e s m below meth c H locs (F0 m 9 ls [])
abbrev HL_X10_downhill_23 (l : Launch) (D : va_G) (cA : Nat → ClassId) (z : Nat) (av : List Value) (r : Int32) (μ' : Mm) (p : Program) (e : Env) (s : State) (m : MethodId) (below : List Frame) (meth : Method) (c : Code) (rc : Mm → Nat → Int32 → Int32 → Int32 → Int32 → Option (Int32 × Mm)) : Prop := ∀ (μ : Mm) (H : Heap) (locs : List Loc) (ls : Array Slot) (a0 : Nat) (x2 : Int32) (x3 : Int32) (x4 : Int32) (x5 : Int32), kd a0 = 10 → Wd D cA z μ H → va_S (Az z) s.heap H locs → lv_has ls 7 [(0, .ref (z + a0)), (2, .int x2), (3, .int x3), (4, .int x4), (5, .int x5)] → rc μ a0 x2 x3 x4 x5 = some (r, μ') → WG l D cA z wsX10_downhill 3 67 av (some (.int r)) μ' p e s m below meth c H locs (F0 m 23 ls [])
def f_X10_downhill_j99 (rc9 : Mm → Nat → Int32 → Int32 → Option (Int32 × Mm)) (μ : Mm) (a0 : Nat) (x3 : Int32) (ys0 : Int32) (ys1 : Int32) : Option (Int32 × Mm) := bI (ys1 ||| ys0) (fun v1 => rc9 μ a0 v1 (x3 + (1 : Int32)))
set_option maxRecDepth 100000 in
theorem k_f_X10_downhill_j99 {l : Launch} {D : va_G} {cA : Nat → ClassId} {z : Nat} {av : List Value} {p : Program} {e : Env} {s : State} {m : MethodId} {below : List Frame} {meth : Method} {c : Code} {r : Int32} {μ' : Mm} (X : Fx D cA RX10 wsX10_downhill cX10_downhill 7 (some .int) p s m av.toArray meth c) {rc9 : Mm → Nat → Int32 → Int32 → Option (Int32 × Mm)} (hrc9 : HL_X10_downhill_9 l D cA z av r μ' p e s m below meth c rc9) {μ : Mm} {a0 : Nat} {x3 : Int32} {ys0 : Int32} {ys1 : Int32} (hk_a0 : kd a0 = 10) {H : Heap} {locs : List Loc} {ls : Array Slot} (hd : Wd D cA z μ H) (hS : va_S (Az z) s.heap H locs) (hl : lv_has ls 7 [(0, .ref (z + a0)), (3, .int x3)]) (h : f_X10_downhill_j99 rc9 μ a0 x3 ys0 ys1 = some (r, μ')) : WG l D cA z wsX10_downhill 3 67 av (some (.int r)) μ' p e s m below meth c H locs (F0 m 99 ls [.int ys0, .int ys1]) := by
  obtain ⟨hx, hb, hr, hlk, hml, hown, hts, hK⟩ := id X
  unfold f_X10_downhill_j99 at h
  refine lv_ior hx hb dX10_downhill_99 ?_
  refine lv_topi (fun v1 ev1 => ?_)
  have h := bI_e ev1 h
  refine lv_istore_n (lv' := [(2, .int v1), (0, .ref (z + a0)), (3, .int x3)]) hx hb dX10_downhill_100 rfl hl (by decide) rfl (fun ls hl => ?_)
  refine lv_iinc (v := x3 + (1 : Int32)) (lv' := [(3, .int (x3 + (1 : Int32))), (2, .int v1), (0, .ref (z + a0))]) hx hb dX10_downhill_101 hl (k := 2) rfl rfl (by decide) rfl (fun ls hl => ?_)
  refine lv_goto (tgt := 9) hx hb dX10_downhill_104 (by decide) ?_
  exact hrc9 _ _ _ _ _ _ _ hk_a0 hd hS (lv_sub hl [2, 1, 0] rfl) h
def f_X10_downhill_j77 (rc9 : Mm → Nat → Int32 → Int32 → Option (Int32 × Mm)) (rc23 : Mm → Nat → Int32 → Int32 → Int32 → Int32 → Option (Int32 × Mm)) (μ : Mm) (a0 : Nat) (x2 : Int32) (x3 : Int32) (x5 : Int32) (ys0 : Int32) (ys1 : Int32) : Option (Int32 × Mm) := bI (ys1 + ys0) (fun v1 => rc23 μ a0 x2 x3 v1 (x5 + (1 : Int32)))
set_option maxRecDepth 100000 in
theorem k_f_X10_downhill_j77 {l : Launch} {D : va_G} {cA : Nat → ClassId} {z : Nat} {av : List Value} {p : Program} {e : Env} {s : State} {m : MethodId} {below : List Frame} {meth : Method} {c : Code} {r : Int32} {μ' : Mm} (X : Fx D cA RX10 wsX10_downhill cX10_downhill 7 (some .int) p s m av.toArray meth c) {rc9 : Mm → Nat → Int32 → Int32 → Option (Int32 × Mm)} {rc23 : Mm → Nat → Int32 → Int32 → Int32 → Int32 → Option (Int32 × Mm)} (hrc9 : HL_X10_downhill_9 l D cA z av r μ' p e s m below meth c rc9) (hrc23 : HL_X10_downhill_23 l D cA z av r μ' p e s m below meth c rc23) {μ : Mm} {a0 : Nat} {x2 : Int32} {x3 : Int32} {x5 : Int32} {ys0 : Int32} {ys1 : Int32} (hk_a0 : kd a0 = 10) {H : Heap} {locs : List Loc} {ls : Array Slot} (hd : Wd D cA z μ H) (hS : va_S (Az z) s.heap H locs) (hl : lv_has ls 7 [(0, .ref (z + a0)), (2, .int x2), (3, .int x3), (5, .int x5)]) (h : f_X10_downhill_j77 rc9 rc23 μ a0 x2 x3 x5 ys0 ys1 = some (r, μ')) : WG l D cA z wsX10_downhill 3 67 av (some (.int r)) μ' p e s m below meth c H locs (F0 m 77 ls [.int ys0, .int ys1]) := by
  obtain ⟨hx, hb, hr, hlk, hml, hown, hts, hK⟩ := id X
  unfold f_X10_downhill_j77 at h
  refine lv_iadd hx hb dX10_downhill_77 ?_
  refine lv_topi (fun v1 ev1 => ?_)
  have h := bI_e ev1 h
  refine lv_istore (lv' := [(4, .int v1), (0, .ref (z + a0)), (2, .int x2), (3, .int x3), (5, .int x5)]) hx hb dX10_downhill_78 hl (by decide) rfl (fun ls hl => ?_)
  refine lv_iinc (v := x5 + (1 : Int32)) (lv' := [(5, .int (x5 + (1 : Int32))), (4, .int v1), (0, .ref (z + a0)), (2, .int x2), (3, .int x3)]) hx hb dX10_downhill_80 hl (k := 4) rfl rfl (by decide) rfl (fun ls hl => ?_)
  refine lv_goto (tgt := 23) hx hb dX10_downhill_83 (by decide) ?_
  exact hrc23 _ _ _ _ _ _ _ _ _ hk_a0 hd hS (lv_sub hl [2, 3, 4, 1, 0] rfl) h
def f_X10_downhill_j63 (rc9 : Mm → Nat → Int32 → Int32 → Option (Int32 × Mm)) (rc23 : Mm → Nat → Int32 → Int32 → Int32 → Int32 → Option (Int32 × Mm)) (μ : Mm) (a0 : Nat) (x2 : Int32) (x3 : Int32) (x5 : Int32) (ys0 : Int32) : Option (Int32 × Mm) := f_X10_downhill_j77 rc9 rc23 μ a0 x2 x3 x5 (0 : Int32) ys0
set_option maxRecDepth 100000 in
theorem k_f_X10_downhill_j63 {l : Launch} {D : va_G} {cA : Nat → ClassId} {z : Nat} {av : List Value} {p : Program} {e : Env} {s : State} {m : MethodId} {below : List Frame} {meth : Method} {c : Code} {r : Int32} {μ' : Mm} (X : Fx D cA RX10 wsX10_downhill cX10_downhill 7 (some .int) p s m av.toArray meth c) {rc9 : Mm → Nat → Int32 → Int32 → Option (Int32 × Mm)} {rc23 : Mm → Nat → Int32 → Int32 → Int32 → Int32 → Option (Int32 × Mm)} (hrc9 : HL_X10_downhill_9 l D cA z av r μ' p e s m below meth c rc9) (hrc23 : HL_X10_downhill_23 l D cA z av r μ' p e s m below meth c rc23) {μ : Mm} {a0 : Nat} {x2 : Int32} {x3 : Int32} {x5 : Int32} {ys0 : Int32} (hk_a0 : kd a0 = 10) {H : Heap} {locs : List Loc} {ls : Array Slot} (hd : Wd D cA z μ H) (hS : va_S (Az z) s.heap H locs) (hl : lv_has ls 7 [(0, .ref (z + a0)), (2, .int x2), (3, .int x3), (5, .int x5)]) (h : f_X10_downhill_j63 rc9 rc23 μ a0 x2 x3 x5 ys0 = some (r, μ')) : WG l D cA z wsX10_downhill 3 67 av (some (.int r)) μ' p e s m below meth c H locs (F0 m 63 ls [.int ys0]) := by
  obtain ⟨hx, hb, hr, hlk, hml, hown, hts, hK⟩ := id X
  unfold f_X10_downhill_j63 at h
  refine lv_iconst (v := 0) hx hb dX10_downhill_63 (by decide) ?_
  refine lv_goto (tgt := 77) hx hb dX10_downhill_64 (by decide) ?_
  exact k_f_X10_downhill_j77 X hrc9 hrc23 hk_a0 hd hS (lv_sub hl [0, 1, 2, 3] rfl) h
def f_X10_downhill_L23b (rc9 : Mm → Nat → Int32 → Int32 → Option (Int32 × Mm)) (rc23 : Mm → Nat → Int32 → Int32 → Int32 → Int32 → Option (Int32 × Mm)) (μ : Mm) (a0 : Nat) (x2 : Int32) (x3 : Int32) (x4 : Int32) (x5 : Int32) : Option (Int32 × Mm) := if (μ.1 a0 3) ≤ x5 then (if x4 ≤ 0 then (f_X10_downhill_j99 rc9 μ a0 x3 (0 : Int32) x2) else (f_X10_downhill_j99 rc9 μ a0 x3 ((1 : Int32) <<< (x3 &&& 31)) x2)) else (bR (μ.2 a0 8) (fun b3 => gd (ckb (((5 : Int32) * x3) + x5) (ln b3)) (bI (μ.1 b3 (((5 : Int32) * x3) + x5).toNatClampNeg) (fun v5 => bR (μ.2 a0 25) (fun b6 => gd (ckb x5 (ln b6)) (if (μ.1 b6 (x5).toNatClampNeg) = 0 then (f_X10_downhill_j63 rc9 rc23 μ a0 x2 x3 x5 x4) else (if v5 = (2 : Int32) then (f_X10_downhill_j63 rc9 rc23 μ a0 x2 x3 x5 x4) else (if v5 = 0 then (f_X10_downhill_j77 rc9 rc23 μ a0 x2 x3 x5 (1 : Int32) x4) else (f_X10_downhill_j77 rc9 rc23 μ a0 x2 x3 x5 (-1 : Int32) x4)))))))))
set_option maxRecDepth 100000 in
theorem k_f_X10_downhill_L23b {l : Launch} {D : va_G} {cA : Nat → ClassId} {z : Nat} {av : List Value} {p : Program} {e : Env} {s : State} {m : MethodId} {below : List Frame} {meth : Method} {c : Code} {r : Int32} {μ' : Mm} (X : Fx D cA RX10 wsX10_downhill cX10_downhill 7 (some .int) p s m av.toArray meth c) {rc9 : Mm → Nat → Int32 → Int32 → Option (Int32 × Mm)} {rc23 : Mm → Nat → Int32 → Int32 → Int32 → Int32 → Option (Int32 × Mm)} (hrc9 : HL_X10_downhill_9 l D cA z av r μ' p e s m below meth c rc9) (hrc23 : HL_X10_downhill_23 l D cA z av r μ' p e s m below meth c rc23) {μ : Mm} {a0 : Nat} {x2 : Int32} {x3 : Int32} {x4 : Int32} {x5 : Int32} (hk_a0 : kd a0 = 10) {H : Heap} {locs : List Loc} {ls : Array Slot} (hd : Wd D cA z μ H) (hS : va_S (Az z) s.heap H locs) (hl : lv_has ls 7 [(0, .ref (z + a0)), (2, .int x2), (3, .int x3), (4, .int x4), (5, .int x5)]) (h : f_X10_downhill_L23b rc9 rc23 μ a0 x2 x3 x4 x5 = some (r, μ')) : WG l D cA z wsX10_downhill 3 67 av (some (.int r)) μ' p e s m below meth c H locs (F0 m 23 ls []) := by
  obtain ⟨hx, hb, hr, hlk, hml, hown, hts, hK⟩ := id X
  unfold f_X10_downhill_L23b at h
  refine lv_iload hx hb dX10_downhill_23 (lv_at hl 4 rfl) ?_
  refine lv_aload_n hx hb dX10_downhill_25 rfl (lv_at hl 0 rfl) ?_
  refine r_geti hx hb hts (fun w h => List.mem_cons_of_mem _ (List.mem_append_right _ (h))) hown hK hd hk_a0 rfl 3 fs_10_3 (hts (.fieldLink RX10 98 "LevelVotesModel" "items" "I") (List.mem_of_getElem? (i := 2) rfl)) dX10_downhill_26 ?_
  refine lv_icmp_ge (tgt := 86) hx hb dX10_downhill_29 (by decide) (fun q1 => ?_) (fun q1 => ?_)
  · have h := if_y q1 h
    refine lv_iload_n hx hb dX10_downhill_86 rfl (lv_at hl 1 rfl) ?_
    refine lv_iload hx hb dX10_downhill_87 (lv_at hl 3 rfl) ?_
    refine lv_if_le (tgt := 98) hx hb dX10_downhill_89 (by decide) (fun q2 => ?_) (fun q2 => ?_)
    · have h := if_y q2 h
      refine lv_iconst (v := 0) hx hb dX10_downhill_98 (by decide) ?_
      exact k_f_X10_downhill_j99 X hrc9 hk_a0 hd hS (lv_sub hl [0, 2] rfl) h
    · have h := if_n q2 h
      refine lv_iconst (v := 1) hx hb dX10_downhill_92 (by decide) ?_
      refine lv_iload_n hx hb dX10_downhill_93 rfl (lv_at hl 2 rfl) ?_
      refine lv_ishl hx hb dX10_downhill_94 ?_
      refine lv_goto (tgt := 99) hx hb dX10_downhill_95 (by decide) ?_
      exact k_f_X10_downhill_j99 X hrc9 hk_a0 hd hS (lv_sub hl [0, 2] rfl) h
  · have h := if_n q1 h
    refine lv_aload_n hx hb dX10_downhill_32 rfl (lv_at hl 0 rfl) ?_
    obtain ⟨b3, hb3, h⟩ := bR_e h
    refine r_getr hx hb hts (fun w h => List.mem_cons_of_mem _ (List.mem_append_right _ (h))) hown hK hd hk_a0 hb3 rfl fs_10_8 (hts (.fieldLink RX10 22 "LevelVotesModel" "now" "[I") (List.mem_of_getElem? (i := 3) rfl)) dX10_downhill_33 (fun hq => ?_)
    have hk_b3 : kd b3 = 11 := hq
    refine lv_iconst (v := 5) hx hb dX10_downhill_36 (by decide) ?_
    refine lv_iload_n hx hb dX10_downhill_37 rfl (lv_at hl 2 rfl) ?_
    refine lv_imul hx hb dX10_downhill_38 ?_
    refine lv_iload hx hb dX10_downhill_39 (lv_at hl 4 rfl) ?_
    refine lv_iadd hx hb dX10_downhill_41 ?_
    obtain ⟨g4, h⟩ := gd_e h
    refine r_iald hx hb hK hd hk_b3 (ckb_in g4) dX10_downhill_42 ?_
    refine lv_topi (fun v5 ev5 => ?_)
    have h := bI_e ev5 h
    refine lv_istore (lv' := [(6, .int v5), (0, .ref (z + a0)), (2, .int x2), (3, .int x3), (4, .int x4), (5, .int x5)]) hx hb dX10_downhill_43 hl (by decide) rfl (fun ls hl => ?_)
    refine lv_iload hx hb dX10_downhill_45 (lv_at hl 4 rfl) ?_
    refine lv_aload_n hx hb dX10_downhill_47 rfl (lv_at hl 1 rfl) ?_
    obtain ⟨b6, hb6, h⟩ := bR_e h
    refine r_getr hx hb hts (fun w h => List.mem_cons_of_mem _ (List.mem_append_right _ (h))) hown hK hd hk_a0 hb6 rfl fs_10_25 (hts (.fieldLink RX10 50 "LevelVotesModel" "stands" "[I") (List.mem_of_getElem? (i := 4) rfl)) dX10_downhill_48 (fun hq => ?_)
    have hk_b6 : kd b6 = 11 := hq
    refine lv_iload hx hb dX10_downhill_51 (lv_at hl 5 rfl) ?_
    obtain ⟨g7, h⟩ := gd_e h
    refine r_iald hx hb hK hd hk_b6 (ckb_in g7) dX10_downhill_53 ?_
    refine lv_if_eq (tgt := 63) hx hb dX10_downhill_54 (by decide) (fun q8 => ?_) (fun q8 => ?_)
    · have h := if_y q8 h
      exact k_f_X10_downhill_j63 X hrc9 hrc23 hk_a0 hd hS (lv_sub hl [1, 2, 3, 5] rfl) h
    · have h := if_n q8 h
      refine lv_iload hx hb dX10_downhill_57 (lv_at hl 0 rfl) ?_
      refine lv_iconst (v := 2) hx hb dX10_downhill_59 (by decide) ?_
      refine lv_icmp_ne (tgt := 67) hx hb dX10_downhill_60 (by decide) (fun q9 => ?_) (fun q9 => ?_)
      · have h := if_n q9 h
        refine lv_iload hx hb dX10_downhill_67 (lv_at hl 0 rfl) ?_
        refine lv_if_ne (tgt := 76) hx hb dX10_downhill_69 (by decide) (fun q10 => ?_) (fun q10 => ?_)
        · have h := if_n q10 h
          refine lv_iconst (v := -1) hx hb dX10_downhill_76 (by decide) ?_
          exact k_f_X10_downhill_j77 X hrc9 hrc23 hk_a0 hd hS (lv_sub hl [1, 2, 3, 5] rfl) h
        · have h := if_y q10 h
          refine lv_iconst (v := 1) hx hb dX10_downhill_72 (by decide) ?_
          refine lv_goto (tgt := 77) hx hb dX10_downhill_73 (by decide) ?_
          exact k_f_X10_downhill_j77 X hrc9 hrc23 hk_a0 hd hS (lv_sub hl [1, 2, 3, 5] rfl) h
      · have h := if_y q9 h
        exact k_f_X10_downhill_j63 X hrc9 hrc23 hk_a0 hd hS (lv_sub hl [1, 2, 3, 5] rfl) h
def f_X10_downhill_L23 (rc9 : Mm → Nat → Int32 → Int32 → Option (Int32 × Mm)) : Nat → Mm → Nat → Int32 → Int32 → Int32 → Int32 → Option (Int32 × Mm)
  | 0 => fun _ _ _ _ _ _ => none
  | n + 1 => fun μ a0 x2 x3 x4 x5 => f_X10_downhill_L23b rc9 (f_X10_downhill_L23 rc9 n) μ a0 x2 x3 x4 x5
theorem k_f_X10_downhill_L23 {l : Launch} {D : va_G} {cA : Nat → ClassId} {z : Nat} {av : List Value} {p : Program} {e : Env} {s : State} {m : MethodId} {below : List Frame} {meth : Method} {c : Code} {r : Int32} {μ' : Mm} (X : Fx D cA RX10 wsX10_downhill cX10_downhill 7 (some .int) p s m av.toArray meth c) {rc9 : Mm → Nat → Int32 → Int32 → Option (Int32 × Mm)} (hrc9 : HL_X10_downhill_9 l D cA z av r μ' p e s m below meth c rc9) (n : Nat) : HL_X10_downhill_23 l D cA z av r μ' p e s m below meth c (f_X10_downhill_L23 rc9 n) := by
  induction n with
  | zero => intro _ _ _ _ _ _ _ _ _ _ _ _ _ h; have h2 : (none : Option _) = some _ := h; cases h2
  | succ n ih => intro μ H locs ls a0 x2 x3 x4 x5 hk_a0 hd hS hl h; exact k_f_X10_downhill_L23b X hrc9 ih hk_a0 hd hS hl h
def f_X10_downhill_L9b (rc9 : Mm → Nat → Int32 → Int32 → Option (Int32 × Mm)) (μ : Mm) (a0 : Nat) (x2 : Int32) (x3 : Int32) : Option (Int32 × Mm) := if (μ.1 a0 7) ≤ x3 then (some (x2, μ)) else (f_X10_downhill_L23 rc9 FU μ a0 x2 x3 (0 : Int32) (0 : Int32))
set_option maxRecDepth 100000 in
theorem k_f_X10_downhill_L9b {l : Launch} {D : va_G} {cA : Nat → ClassId} {z : Nat} {av : List Value} {p : Program} {e : Env} {s : State} {m : MethodId} {below : List Frame} {meth : Method} {c : Code} {r : Int32} {μ' : Mm} (X : Fx D cA RX10 wsX10_downhill cX10_downhill 7 (some .int) p s m av.toArray meth c) {rc9 : Mm → Nat → Int32 → Int32 → Option (Int32 × Mm)} (hrc9 : HL_X10_downhill_9 l D cA z av r μ' p e s m below meth c rc9) {μ : Mm} {a0 : Nat} {x2 : Int32} {x3 : Int32} (hk_a0 : kd a0 = 10) {H : Heap} {locs : List Loc} {ls : Array Slot} (hd : Wd D cA z μ H) (hS : va_S (Az z) s.heap H locs) (hl : lv_has ls 7 [(0, .ref (z + a0)), (2, .int x2), (3, .int x3)]) (h : f_X10_downhill_L9b rc9 μ a0 x2 x3 = some (r, μ')) : WG l D cA z wsX10_downhill 3 67 av (some (.int r)) μ' p e s m below meth c H locs (F0 m 9 ls []) := by
  obtain ⟨hx, hb, hr, hlk, hml, hown, hts, hK⟩ := id X
  unfold f_X10_downhill_L9b at h
  refine lv_iload_n hx hb dX10_downhill_9 rfl (lv_at hl 2 rfl) ?_
  refine lv_aload_n hx hb dX10_downhill_10 rfl (lv_at hl 0 rfl) ?_
  refine r_geti hx hb hts (fun w h => List.mem_cons_of_mem _ (List.mem_append_right _ (h))) hown hK hd hk_a0 rfl 7 fs_10_7 (hts (.fieldLink RX10 101 "LevelVotesModel" "persons" "I") (List.mem_of_getElem? (i := 1) rfl)) dX10_downhill_11 ?_
  refine lv_icmp_ge (tgt := 107) hx hb dX10_downhill_14 (by decide) (fun q1 => ?_) (fun q1 => ?_)
  · have h := if_y q1 h
    refine lv_iload_n hx hb dX10_downhill_107 rfl (lv_at hl 1 rfl) ?_
    obtain ⟨rfl, rfl⟩ := so_e h
    exact rt_i hx hb hr hlk hd hS dX10_downhill_108
  · have h := if_n q1 h
    refine lv_iconst (v := 0) hx hb dX10_downhill_17 (by decide) ?_
    refine lv_istore (lv' := [(4, .int (0 : Int32)), (0, .ref (z + a0)), (2, .int x2), (3, .int x3)]) hx hb dX10_downhill_18 hl (by decide) rfl (fun ls hl => ?_)
    refine lv_iconst (v := 0) hx hb dX10_downhill_20 (by decide) ?_
    refine lv_istore (lv' := [(5, .int (0 : Int32)), (4, .int (0 : Int32)), (0, .ref (z + a0)), (2, .int x2), (3, .int x3)]) hx hb dX10_downhill_21 hl (by decide) rfl (fun ls hl => ?_)
    exact k_f_X10_downhill_L23 X hrc9 FU _ _ _ _ _ _ _ _ _ hk_a0 hd hS (lv_sub hl [2, 3, 4, 1, 0] rfl) h
def f_X10_downhill_L9 : Nat → Mm → Nat → Int32 → Int32 → Option (Int32 × Mm)
  | 0 => fun _ _ _ _ => none
  | n + 1 => fun μ a0 x2 x3 => f_X10_downhill_L9b (f_X10_downhill_L9 n) μ a0 x2 x3
theorem k_f_X10_downhill_L9 {l : Launch} {D : va_G} {cA : Nat → ClassId} {z : Nat} {av : List Value} {p : Program} {e : Env} {s : State} {m : MethodId} {below : List Frame} {meth : Method} {c : Code} {r : Int32} {μ' : Mm} (X : Fx D cA RX10 wsX10_downhill cX10_downhill 7 (some .int) p s m av.toArray meth c) (n : Nat) : HL_X10_downhill_9 l D cA z av r μ' p e s m below meth c (f_X10_downhill_L9 n) := by
  induction n with
  | zero => intro _ _ _ _ _ _ _ _ _ _ _ h; have h2 : (none : Option _) = some _ := h; cases h2
  | succ n ih => intro μ H locs ls a0 x2 x3 hk_a0 hd hS hl h; exact k_f_X10_downhill_L9b X ih hk_a0 hd hS hl h
def f_X10_downhill (μ : Mm) (a0 : Nat) : Option (Int32 × Mm) := bC (f_X10_standNow μ a0) (fun r2 μ1 => f_X10_downhill_L9 FU μ1 a0 (0 : Int32) (0 : Int32))
set_option maxRecDepth 100000 in
theorem c_X10_downhill {l : Launch} {D : va_G} {cA : Nat → ClassId} {z : Nat} {μ : Mm} {a0 : Nat} {r : Int32} {μ' : Mm} (hk_a0 : kd a0 = 10) (h : f_X10_downhill μ a0 = some (r, μ')) : Ct l D cA z yX10_downhill wsX10_downhill 3 67 [.ref (z + a0)] μ (some (.int r)) μ' := by
  refine m_in (cc := cX10_downhill) (maxL := 7) (ret := (some .int)) (own := RX10) (by decide) rfl rfl (Nat.le_of_ble_eq_true rfl) ?_
  intro p e s m below meth c ls X hd hS hl
  obtain ⟨hx, hb, hr, hlk, hml, hown, hts, hK⟩ := id X
  have hl : lv_has ls 7 [(0, .ref (z + a0))] := hl
  unfold f_X10_downhill at h
  refine lv_aload_n hx hb dX10_downhill_0 rfl (lv_at hl 0 rfl) ?_
  obtain ⟨r2, μ1, hc3, h⟩ := bC_e h
  refine rc_Vi (rest := []) [] ⟨hx, hb, hml, hown, hts⟩ hK hd hS (c_X10_standNow hk_a0 hc3) (cwV 0 hts gX10_downhill_X10_standNow rfl rfl rfl hv_X10_standNow ⟨Nat.le_of_ble_eq_true rfl, Nat.le_of_ble_eq_true rfl⟩) hk_a0 rfl rfl rfl rfl hl.1 rfl (Nat.le_of_ble_eq_true rfl) dX10_downhill_1 ⟨Nat.zero_le _, Nat.zero_le _⟩ (fun H locs hd hS => ?_)
  refine lv_istore_n (lv' := [(1, .int r2), (0, .ref (z + a0))]) hx hb dX10_downhill_4 rfl hl (by decide) rfl (fun ls hl => ?_)
  refine lv_iconst (v := 0) hx hb dX10_downhill_5 (by decide) ?_
  refine lv_istore_n (lv' := [(2, .int (0 : Int32)), (1, .int r2), (0, .ref (z + a0))]) hx hb dX10_downhill_6 rfl hl (by decide) rfl (fun ls hl => ?_)
  refine lv_iconst (v := 0) hx hb dX10_downhill_7 (by decide) ?_
  refine lv_istore_n (lv' := [(3, .int (0 : Int32)), (2, .int (0 : Int32)), (1, .int r2), (0, .ref (z + a0))]) hx hb dX10_downhill_8 rfl hl (by decide) rfl (fun ls hl => ?_)
  exact k_f_X10_downhill_L9 X FU _ _ _ _ _ _ _ hk_a0 hd hS (lv_sub hl [3, 1, 0] rfl) h
theorem hv_X10_told : yX10_told.cls = RX10 ∧ yX10_told.cls ≠ "java/lang/invoke/MethodHandle" ∧ yX10_told.cls ≠ "java/lang/invoke/VarHandle" ∧ (parseMethodDescriptor yX10_told.desc).map (fun d => d.parameters.length) = some 1 := by decide +kernel
def f_X10_told (μ : Mm) (a0 : Nat) (x1 : Int32) : Option (Int32 × Mm) := if x1 = 0 then (some (μ.1 a0 0, μ)) else (if x1 = 1 then (some (μ.1 a0 1, μ)) else (if x1 = 2 then (some (μ.1 a0 3, μ)) else (if x1 = 3 then (some (μ.1 a0 7, μ)) else (if x1 = 4 then (some (μ.1 a0 11, μ)) else (if x1 = 5 then (bR (μ.2 a0 8) (fun b7 => gd (ckb (35 : Int32) (ln b7)) (some (μ.1 b7 ((35 : Int32)).toNatClampNeg, μ)))) else (if x1 = 6 then (bC (f_X10_standNow μ a0) (fun r11 μ10 => some (r11, μ10))) else (if x1 = 7 then (bR (μ.2 a0 8) (fun b14 => gd (ckb (36 : Int32) (ln b14)) (some (μ.1 b14 ((36 : Int32)).toNatClampNeg, μ)))) else (if x1 = 8 then (bC (f_X10_downhill μ a0) (fun r18 μ17 => some (r18, μ17))) else (if x1 = 9 then (bC (f_X10_pools μ a0) (fun r22 μ21 => some (r22, μ21))) else (if x1 = 10 then (some (μ.1 a0 30, μ)) else (if x1 = 11 then (some (μ.1 a0 34, μ)) else (if x1 = 12 then (some (μ.1 a0 27, μ)) else (some ((-1000000002 : Int32), μ))))))))))))))
set_option maxRecDepth 100000 in
theorem c_X10_told {l : Launch} {D : va_G} {cA : Nat → ClassId} {z : Nat} {μ : Mm} {a0 : Nat} {x1 : Int32} {r : Int32} {μ' : Mm} (hk_a0 : kd a0 = 10) (h : f_X10_told μ a0 x1 = some (r, μ')) : Ct l D cA z yX10_told wsX10_told 7 160 [.ref (z + a0), .int x1] μ (some (.int r)) μ' := by
  refine m_in (cc := cX10_told) (maxL := 2) (ret := (some .int)) (own := RX10) (by decide) rfl rfl (Nat.le_of_ble_eq_true rfl) ?_
  intro p e s m below meth c ls X hd hS hl
  obtain ⟨hx, hb, hr, hlk, hml, hown, hts, hK⟩ := id X
  have hl : lv_has ls 2 [(0, .ref (z + a0)), (1, .int x1)] := hl
  unfold f_X10_told at h
  refine lv_iload_n hx hb dX10_told_0 rfl (lv_at hl 1 rfl) ?_
  by_cases q1 : x1 = 0
  · have h := if_y q1 h
    refine lv_tableIn (off := 67) (tgt := 68) hx hb dX10_told_1 (by rw [q1]; decide) (by rw [q1]; decide) (by rw [q1]; rfl) (by decide) ?_
    refine lv_aload_n hx hb dX10_told_68 rfl (lv_at hl 0 rfl) ?_
    refine r_geti hx hb hts (fun w h => List.mem_cons_of_mem _ (List.mem_append_right _ (h))) hown hK hd hk_a0 rfl 0 fs_10_0 (hts (.fieldLink RX10 84 "LevelVotesModel" "columns" "I") (List.mem_of_getElem? (i := 1) rfl)) dX10_told_69 ?_
    obtain ⟨rfl, rfl⟩ := so_e h
    exact rt_i hx hb hr hlk hd hS dX10_told_72
  have h := if_n q1 h
  by_cases q2 : x1 = 1
  · have h := if_y q2 h
    refine lv_tableIn (off := 72) (tgt := 73) hx hb dX10_told_1 (by rw [q2]; decide) (by rw [q2]; decide) (by rw [q2]; rfl) (by decide) ?_
    refine lv_aload_n hx hb dX10_told_73 rfl (lv_at hl 0 rfl) ?_
    refine r_geti hx hb hts (fun w h => List.mem_cons_of_mem _ (List.mem_append_right _ (h))) hown hK hd hk_a0 rfl 1 fs_10_1 (hts (.fieldLink RX10 87 "LevelVotesModel" "rows" "I") (List.mem_of_getElem? (i := 2) rfl)) dX10_told_74 ?_
    obtain ⟨rfl, rfl⟩ := so_e h
    exact rt_i hx hb hr hlk hd hS dX10_told_77
  have h := if_n q2 h
  by_cases q3 : x1 = 2
  · have h := if_y q3 h
    refine lv_tableIn (off := 77) (tgt := 78) hx hb dX10_told_1 (by rw [q3]; decide) (by rw [q3]; decide) (by rw [q3]; rfl) (by decide) ?_
    refine lv_aload_n hx hb dX10_told_78 rfl (lv_at hl 0 rfl) ?_
    refine r_geti hx hb hts (fun w h => List.mem_cons_of_mem _ (List.mem_append_right _ (h))) hown hK hd hk_a0 rfl 3 fs_10_3 (hts (.fieldLink RX10 98 "LevelVotesModel" "items" "I") (List.mem_of_getElem? (i := 3) rfl)) dX10_told_79 ?_
    obtain ⟨rfl, rfl⟩ := so_e h
    exact rt_i hx hb hr hlk hd hS dX10_told_82
  have h := if_n q3 h
  by_cases q4 : x1 = 3
  · have h := if_y q4 h
    refine lv_tableIn (off := 82) (tgt := 83) hx hb dX10_told_1 (by rw [q4]; decide) (by rw [q4]; decide) (by rw [q4]; rfl) (by decide) ?_
    refine lv_aload_n hx hb dX10_told_83 rfl (lv_at hl 0 rfl) ?_
    refine r_geti hx hb hts (fun w h => List.mem_cons_of_mem _ (List.mem_append_right _ (h))) hown hK hd hk_a0 rfl 7 fs_10_7 (hts (.fieldLink RX10 101 "LevelVotesModel" "persons" "I") (List.mem_of_getElem? (i := 4) rfl)) dX10_told_84 ?_
    obtain ⟨rfl, rfl⟩ := so_e h
    exact rt_i hx hb hr hlk hd hS dX10_told_87
  have h := if_n q4 h
  by_cases q5 : x1 = 4
  · have h := if_y q5 h
    refine lv_tableIn (off := 87) (tgt := 88) hx hb dX10_told_1 (by rw [q5]; decide) (by rw [q5]; decide) (by rw [q5]; rfl) (by decide) ?_
    refine lv_aload_n hx hb dX10_told_88 rfl (lv_at hl 0 rfl) ?_
    refine r_geti hx hb hts (fun w h => List.mem_cons_of_mem _ (List.mem_append_right _ (h))) hown hK hd hk_a0 rfl 11 fs_10_11 (hts (.fieldLink RX10 107 "LevelVotesModel" "texted" "I") (List.mem_of_getElem? (i := 5) rfl)) dX10_told_89 ?_
    obtain ⟨rfl, rfl⟩ := so_e h
    exact rt_i hx hb hr hlk hd hS dX10_told_92
  have h := if_n q5 h
  by_cases q6 : x1 = 5
  · have h := if_y q6 h
    refine lv_tableIn (off := 92) (tgt := 93) hx hb dX10_told_1 (by rw [q6]; decide) (by rw [q6]; decide) (by rw [q6]; rfl) (by decide) ?_
    refine lv_aload_n hx hb dX10_told_93 rfl (lv_at hl 0 rfl) ?_
    obtain ⟨b7, hb7, h⟩ := bR_e h
    refine r_getr hx hb hts (fun w h => List.mem_cons_of_mem _ (List.mem_append_right _ (h))) hown hK hd hk_a0 hb7 rfl fs_10_8 (hts (.fieldLink RX10 22 "LevelVotesModel" "now" "[I") (List.mem_of_getElem? (i := 6) rfl)) dX10_told_94 (fun hq => ?_)
    have hk_b7 : kd b7 = 11 := hq
    refine lv_bipush (v := 35) hx hb dX10_told_97 (by decide) ?_
    obtain ⟨g8, h⟩ := gd_e h
    refine r_iald hx hb hK hd hk_b7 (ckb_in g8) dX10_told_99 ?_
    obtain ⟨rfl, rfl⟩ := so_e h
    exact rt_i hx hb hr hlk hd hS dX10_told_100
  have h := if_n q6 h
  by_cases q9 : x1 = 6
  · have h := if_y q9 h
    refine lv_tableIn (off := 100) (tgt := 101) hx hb dX10_told_1 (by rw [q9]; decide) (by rw [q9]; decide) (by rw [q9]; rfl) (by decide) ?_
    refine lv_aload_n hx hb dX10_told_101 rfl (lv_at hl 0 rfl) ?_
    obtain ⟨r11, μ10, hc12, h⟩ := bC_e h
    refine rc_Vi (rest := []) [] ⟨hx, hb, hml, hown, hts⟩ hK hd hS (c_X10_standNow hk_a0 hc12) (cwV 0 hts gX10_told_X10_standNow rfl rfl rfl hv_X10_standNow ⟨Nat.le_of_ble_eq_true rfl, Nat.le_of_ble_eq_true rfl⟩) hk_a0 rfl rfl rfl rfl hl.1 rfl (Nat.le_of_ble_eq_true rfl) dX10_told_102 ⟨Nat.zero_le _, Nat.zero_le _⟩ (fun H locs hd hS => ?_)
    obtain ⟨rfl, rfl⟩ := so_e h
    exact rt_i hx hb hr hlk hd hS dX10_told_105
  have h := if_n q9 h
  by_cases q13 : x1 = 7
  · have h := if_y q13 h
    refine lv_tableIn (off := 105) (tgt := 106) hx hb dX10_told_1 (by rw [q13]; decide) (by rw [q13]; decide) (by rw [q13]; rfl) (by decide) ?_
    refine lv_aload_n hx hb dX10_told_106 rfl (lv_at hl 0 rfl) ?_
    obtain ⟨b14, hb14, h⟩ := bR_e h
    refine r_getr hx hb hts (fun w h => List.mem_cons_of_mem _ (List.mem_append_right _ (h))) hown hK hd hk_a0 hb14 rfl fs_10_8 (hts (.fieldLink RX10 22 "LevelVotesModel" "now" "[I") (List.mem_of_getElem? (i := 6) rfl)) dX10_told_107 (fun hq => ?_)
    have hk_b14 : kd b14 = 11 := hq
    refine lv_bipush (v := 36) hx hb dX10_told_110 (by decide) ?_
    obtain ⟨g15, h⟩ := gd_e h
    refine r_iald hx hb hK hd hk_b14 (ckb_in g15) dX10_told_112 ?_
    obtain ⟨rfl, rfl⟩ := so_e h
    exact rt_i hx hb hr hlk hd hS dX10_told_113
  have h := if_n q13 h
  by_cases q16 : x1 = 8
  · have h := if_y q16 h
    refine lv_tableIn (off := 113) (tgt := 114) hx hb dX10_told_1 (by rw [q16]; decide) (by rw [q16]; decide) (by rw [q16]; rfl) (by decide) ?_
    refine lv_aload_n hx hb dX10_told_114 rfl (lv_at hl 0 rfl) ?_
    obtain ⟨r18, μ17, hc19, h⟩ := bC_e h
    refine rc_Vi (rest := []) [] ⟨hx, hb, hml, hown, hts⟩ hK hd hS (c_X10_downhill hk_a0 hc19) (cwV 0 hts gX10_told_X10_downhill rfl rfl rfl hv_X10_downhill ⟨Nat.le_of_ble_eq_true rfl, Nat.le_of_ble_eq_true rfl⟩) hk_a0 rfl rfl rfl rfl hl.1 rfl (Nat.le_of_ble_eq_true rfl) dX10_told_115 ⟨Nat.zero_le _, Nat.zero_le _⟩ (fun H locs hd hS => ?_)
    obtain ⟨rfl, rfl⟩ := so_e h
    exact rt_i hx hb hr hlk hd hS dX10_told_118
  have h := if_n q16 h
  by_cases q20 : x1 = 9
  · have h := if_y q20 h
    refine lv_tableIn (off := 118) (tgt := 119) hx hb dX10_told_1 (by rw [q20]; decide) (by rw [q20]; decide) (by rw [q20]; rfl) (by decide) ?_
    refine lv_aload_n hx hb dX10_told_119 rfl (lv_at hl 0 rfl) ?_
    obtain ⟨r22, μ21, hc23, h⟩ := bC_e h
    refine rc_Vi (rest := []) [] ⟨hx, hb, hml, hown, hts⟩ hK hd hS (c_X10_pools hk_a0 hc23) (cwV 0 hts gX10_told_X10_pools rfl rfl rfl hv_X10_pools ⟨Nat.le_of_ble_eq_true rfl, Nat.le_of_ble_eq_true rfl⟩) hk_a0 rfl rfl rfl rfl hl.1 rfl (Nat.le_of_ble_eq_true rfl) dX10_told_120 ⟨Nat.zero_le _, Nat.zero_le _⟩ (fun H locs hd hS => ?_)
    obtain ⟨rfl, rfl⟩ := so_e h
    exact rt_i hx hb hr hlk hd hS dX10_told_123
  have h := if_n q20 h
  by_cases q24 : x1 = 10
  · have h := if_y q24 h
    refine lv_tableIn (off := 123) (tgt := 124) hx hb dX10_told_1 (by rw [q24]; decide) (by rw [q24]; decide) (by rw [q24]; rfl) (by decide) ?_
    refine lv_aload_n hx hb dX10_told_124 rfl (lv_at hl 0 rfl) ?_
    refine r_geti hx hb hts (fun w h => List.mem_cons_of_mem _ (List.mem_append_right _ (h))) hown hK hd hk_a0 rfl 30 fs_10_30 (hts (.fieldLink RX10 166 "LevelVotesModel" "seen" "I") (List.mem_of_getElem? (i := 7) rfl)) dX10_told_125 ?_
    obtain ⟨rfl, rfl⟩ := so_e h
    exact rt_i hx hb hr hlk hd hS dX10_told_128
  have h := if_n q24 h
  by_cases q25 : x1 = 11
  · have h := if_y q25 h
    refine lv_tableIn (off := 128) (tgt := 129) hx hb dX10_told_1 (by rw [q25]; decide) (by rw [q25]; decide) (by rw [q25]; rfl) (by decide) ?_
    refine lv_aload_n hx hb dX10_told_129 rfl (lv_at hl 0 rfl) ?_
    refine r_geti hx hb hts (fun w h => List.mem_cons_of_mem _ (List.mem_append_right _ (h))) hown hK hd hk_a0 rfl 34 fs_10_34 (hts (.fieldLink RX10 169 "LevelVotesModel" "booked" "I") (List.mem_of_getElem? (i := 8) rfl)) dX10_told_130 ?_
    obtain ⟨rfl, rfl⟩ := so_e h
    exact rt_i hx hb hr hlk hd hS dX10_told_133
  have h := if_n q25 h
  by_cases q26 : x1 = 12
  · have h := if_y q26 h
    refine lv_tableIn (off := 133) (tgt := 134) hx hb dX10_told_1 (by rw [q26]; decide) (by rw [q26]; decide) (by rw [q26]; rfl) (by decide) ?_
    refine lv_aload_n hx hb dX10_told_134 rfl (lv_at hl 0 rfl) ?_
    refine r_geti hx hb hts (fun w h => List.mem_cons_of_mem _ (List.mem_append_right _ (h))) hown hK hd hk_a0 rfl 27 fs_10_27 (hts (.fieldLink RX10 172 "LevelVotesModel" "undos" "I") (List.mem_of_getElem? (i := 9) rfl)) dX10_told_135 ?_
    obtain ⟨rfl, rfl⟩ := so_e h
    exact rt_i hx hb hr hlk hd hS dX10_told_138
  have h := if_n q26 h
  refine lv_tableOut (tgt := 139) hx hb dX10_told_1 (sw_out 0 13 rfl rfl (by decide) (fun k hk => match k, hk with | 0, _ => q1 | 1, _ => q2 | 2, _ => q3 | 3, _ => q4 | 4, _ => q5 | 5, _ => q6 | 6, _ => q9 | 7, _ => q13 | 8, _ => q16 | 9, _ => q20 | 10, _ => q24 | 11, _ => q25 | 12, _ => q26 | k + 13, hk => absurd hk (by omega))) (by decide) ?_
  refine lv_ldc (v := -1000000002) hx hb hown (hts (.constant RX10 106 (-1000000002)) (List.mem_of_getElem? (i := 10) rfl)) dX10_told_139 ?_
  obtain ⟨rfl, rfl⟩ := so_e h
  exact rt_i hx hb hr hlk hd hS dX10_told_141
