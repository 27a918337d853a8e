def Sp0 (Inv : Mm → Prop) (fx fm : Mm → Nat → Option (Int32 × Mm)) : Prop := ∀ μ, Inv μ → ∃ r μ1 μ2, fx μ 0 = some (r, μ1) ∧ fm μ1 107 = some (r, μ2) ∧ Inv μ2
def Sp1 (Inv : Mm → Prop) (fx fm : Mm → Nat → Int32 → Option (Int32 × Mm)) : Prop := ∀ μ x, Inv μ → ∃ r μ1 μ2, fx μ 0 x = some (r, μ1) ∧ fm μ1 107 x = some (r, μ2) ∧ Inv μ2
def Sp2 (Inv : Mm → Prop) (fx fm : Mm → Nat → Int32 → Int32 → Option (Int32 × Mm)) : Prop := ∀ μ x y, Inv μ → ∃ r μ1 μ2, fx μ 0 x y = some (r, μ1) ∧ fm μ1 107 x y = some (r, μ2) ∧ Inv μ2
def Sp3 (Inv : Mm → Prop) (fx fm : Mm → Nat → Int32 → Int32 → Int32 → Option (Int32 × Mm)) : Prop := ∀ μ x y v, Inv μ → ∃ r μ1 μ2, fx μ 0 x y v = some (r, μ1) ∧ fm μ1 107 x y v = some (r, μ2) ∧ Inv μ2
/-- the law's frame, with the class's object at 0 and the reference's at 107 -/
def LW (p : Program) (l : Launch) (e : Env) (s : State) (m : MethodId) (below : List Frame) (meth : Method) (c : Code) (b : Nat) (H : Heap) (locs : List Loc) (g : JFrame) : Prop := W p l e room_1 s m #[Value.ref b] below meth c H locs 131 2991 (lw_Z below #[Value.ref b] s) g
def Lk (D : va_G) (cA : Nat → ClassId) (z b L : Nat) (xs : Nat → Int32) (p : Program) (s : State) (m : MethodId) (meth : Method) (c : Code) : Prop := lw_At p s m meth c b L xs ∧ z = s.heap.size ∧ Wkc D cA s
def Lc (Inv : Mm → Prop) (D : va_G) (cA : Nat → ClassId) (z b : Nat) (i : Int32) (p : Program) (l : Launch) (e : Env) (s : State) (m : MethodId) (below : List Frame) (meth : Method) (c : Code) : Prop := ∀ (μ : Mm) (H : Heap) (locs : List Loc) (ls : Array Slot), Inv μ → Wd D cA z μ H → va_S (Az z) s.heap H locs → lv_has ls 4 [(0, .ref b), (1, .ref (z + 0)), (2, .ref (z + 107)), (3, .int i)] → LW p l e s m below meth c b H locs (F0 m 807 ls [])
set_option maxRecDepth 100000 in
theorem lc_feed {p : Program} {l : Launch} {e : Env} {s : State} {m : MethodId} {below : List Frame} {meth : Method} {c : Code} {D : va_G} {cA : Nat → ClassId} {b L z : Nat} {xs : Nat → Int32} (X : Lk D cA z b L xs p s m meth c) {Inv : Mm → Prop} (hst : Sp1 Inv f_X9_feed f_X10_feed) {i : Int32} (hi1 : vp_in (i + 1) L) (kk : Lc Inv D cA z b i p l e s m below meth c) {μ : Mm} {H : Heap} {locs : List Loc} {ls : Array Slot} (hI : Inv μ) (hd : Wd D cA z μ H) (hS : va_S (Az z) s.heap H locs) (hl : lv_has ls 4 [(0, .ref b), (1, .ref (z + 0)), (2, .ref (z + 107)), (3, .int i)]) : LW p l e s m below meth c b H locs (F0 m 156 ls []) := by
  obtain ⟨⟨hx, hb, hr, hml, hown, hts0, hX, hbl, hlk, hgv⟩, hz, hKc⟩ := X
  have hK := hKc.1
  have hbA : ¬ Az z b := by rw [hz]; exact Nat.not_le.mpr hbl
  have hts : ∀ w ∈ wsL_law, w.before #[Value.ref b] s = true := fun w h => hts0 w (wsL_law_in w h)
  obtain ⟨r, μ1, μ2, h1, h2, hI⟩ := hst μ (xs (i + 1).toNatClampNeg) hI
  unfold LW
  refine lv_aload_n hx hb dL_law_156 rfl (lv_at hl 1 rfl) ?_
  refine lv_aload_n hx hb dL_law_157 rfl (lv_at hl 0 rfl) ?_
  refine lv_iload_n hx hb dL_law_158 rfl (lv_at hl 3 rfl) ?_
  refine lv_iconst (v := 1) hx hb dL_law_159 (by decide) ?_
  refine lv_iadd hx hb dL_law_160 ?_
  refine va_sld hx hb hX hbl hbA hS hi1 dL_law_161 ?_
  refine rc_Vi (rest := []) (a := 0) [.int (xs (i + 1).toNatClampNeg)] ⟨hx, hb, hml, hown, hts⟩ hK hd hS (c_X9_feed rfl h1) (cwV 1 hts gL_law_X9_feed rfl rfl rfl hv_X9_feed ⟨Nat.le_of_ble_eq_true rfl, Nat.le_of_ble_eq_true rfl⟩) rfl rfl rfl rfl rfl hl.1 rfl (Nat.le_of_ble_eq_true rfl) dL_law_162 ⟨Nat.le_of_ble_eq_true rfl, Nat.le_of_ble_eq_true rfl⟩ (fun H locs hd hS => ?_)
  refine lv_aload_n hx hb dL_law_165 rfl (lv_at hl 2 rfl) ?_
  refine lv_aload_n hx hb dL_law_166 rfl (lv_at hl 0 rfl) ?_
  refine lv_iload_n hx hb dL_law_167 rfl (lv_at hl 3 rfl) ?_
  refine lv_iconst (v := 1) hx hb dL_law_168 (by decide) ?_
  refine lv_iadd hx hb dL_law_169 ?_
  refine va_sld hx hb hX hbl hbA hS hi1 dL_law_170 ?_
  refine rc_Vi (rest := [.int r]) (a := 107) [.int (xs (i + 1).toNatClampNeg)] ⟨hx, hb, hml, hown, hts⟩ hK hd hS (c_X10_feed rfl h2) (cwV 1 hts gL_law_X10_feed rfl rfl rfl hv_X10_feed ⟨Nat.le_of_ble_eq_true rfl, Nat.le_of_ble_eq_true rfl⟩) rfl rfl rfl rfl rfl hl.1 rfl (Nat.le_of_ble_eq_true rfl) dL_law_171 ⟨Nat.le_of_ble_eq_true rfl, Nat.le_of_ble_eq_true rfl⟩ (fun H locs hd hS => ?_)
  exact lv_icmp_eq (tgt := 807) hx hb dL_law_174 (by decide) (fun _ => kk μ2 H locs ls hI hd hS hl) (fun q => absurd rfl q)
set_option maxRecDepth 100000 in
theorem lc_house {p : Program} {l : Launch} {e : Env} {s : State} {m : MethodId} {below : List Frame} {meth : Method} {c : Code} {D : va_G} {cA : Nat → ClassId} {b L z : Nat} {xs : Nat → Int32} (X : Lk D cA z b L xs p s m meth c) {Inv : Mm → Prop} (hst : Sp0 Inv f_X9_house f_X10_house) {i : Int32} (kk : Lc Inv D cA z b i p l e s m below meth c) {μ : Mm} {H : Heap} {locs : List Loc} {ls : Array Slot} (hI : Inv μ) (hd : Wd D cA z μ H) (hS : va_S (Az z) s.heap H locs) (hl : lv_has ls 4 [(0, .ref b), (1, .ref (z + 0)), (2, .ref (z + 107)), (3, .int i)]) : LW p l e s m below meth c b H locs (F0 m 179 ls []) := by
  obtain ⟨⟨hx, hb, hr, hml, hown, hts0, hX, hbl, hlk, hgv⟩, hz, hKc⟩ := X
  have hK := hKc.1
  have hbA : ¬ Az z b := by rw [hz]; exact Nat.not_le.mpr hbl
  have hts : ∀ w ∈ wsL_law, w.before #[Value.ref b] s = true := fun w h => hts0 w (wsL_law_in w h)
  obtain ⟨r, μ1, μ2, h1, h2, hI⟩ := hst μ  hI
  unfold LW
  refine lv_aload_n hx hb dL_law_179 rfl (lv_at hl 1 rfl) ?_
  refine rc_Vi (rest := []) (a := 0) [] ⟨hx, hb, hml, hown, hts⟩ hK hd hS (c_X9_house rfl h1) (cwV 0 hts gL_law_X9_house rfl rfl rfl hv_X9_house ⟨Nat.le_of_ble_eq_true rfl, Nat.le_of_ble_eq_true rfl⟩) rfl rfl rfl rfl rfl hl.1 rfl (Nat.le_of_ble_eq_true rfl) dL_law_180 ⟨Nat.le_of_ble_eq_true rfl, Nat.le_of_ble_eq_true rfl⟩ (fun H locs hd hS => ?_)
  refine lv_aload_n hx hb dL_law_183 rfl (lv_at hl 2 rfl) ?_
  refine rc_Vi (rest := [.int r]) (a := 107) [] ⟨hx, hb, hml, hown, hts⟩ hK hd hS (c_X10_house rfl h2) (cwV 0 hts gL_law_X10_house rfl rfl rfl hv_X10_house ⟨Nat.le_of_ble_eq_true rfl, Nat.le_of_ble_eq_true rfl⟩) rfl rfl rfl rfl rfl hl.1 rfl (Nat.le_of_ble_eq_true rfl) dL_law_184 ⟨Nat.le_of_ble_eq_true rfl, Nat.le_of_ble_eq_true rfl⟩ (fun H locs hd hS => ?_)
  exact lv_icmp_eq (tgt := 807) hx hb dL_law_187 (by decide) (fun _ => kk μ2 H locs ls hI hd hS hl) (fun q => absurd rfl q)
set_option maxRecDepth 100000 in
theorem lc_fault {p : Program} {l : Launch} {e : Env} {s : State} {m : MethodId} {below : List Frame} {meth : Method} {c : Code} {D : va_G} {cA : Nat → ClassId} {b L z : Nat} {xs : Nat → Int32} (X : Lk D cA z b L xs p s m meth c) {Inv : Mm → Prop} (hst : Sp0 Inv f_X9_fault f_X10_fault) {i : Int32} (kk : Lc Inv D cA z b i p l e s m below meth c) {μ : Mm} {H : Heap} {locs : List Loc} {ls : Array Slot} (hI : Inv μ) (hd : Wd D cA z μ H) (hS : va_S (Az z) s.heap H locs) (hl : lv_has ls 4 [(0, .ref b), (1, .ref (z + 0)), (2, .ref (z + 107)), (3, .int i)]) : LW p l e s m below meth c b H locs (F0 m 192 ls []) := by
  obtain ⟨⟨hx, hb, hr, hml, hown, hts0, hX, hbl, hlk, hgv⟩, hz, hKc⟩ := X
  have hK := hKc.1
  have hbA : ¬ Az z b := by rw [hz]; exact Nat.not_le.mpr hbl
  have hts : ∀ w ∈ wsL_law, w.before #[Value.ref b] s = true := fun w h => hts0 w (wsL_law_in w h)
  obtain ⟨r, μ1, μ2, h1, h2, hI⟩ := hst μ  hI
  unfold LW
  refine lv_aload_n hx hb dL_law_192 rfl (lv_at hl 1 rfl) ?_
  refine rc_Vi (rest := []) (a := 0) [] ⟨hx, hb, hml, hown, hts⟩ hK hd hS (c_X9_fault rfl h1) (cwV 0 hts gL_law_X9_fault rfl rfl rfl hv_X9_fault ⟨Nat.le_of_ble_eq_true rfl, Nat.le_of_ble_eq_true rfl⟩) rfl rfl rfl rfl rfl hl.1 rfl (Nat.le_of_ble_eq_true rfl) dL_law_193 ⟨Nat.le_of_ble_eq_true rfl, Nat.le_of_ble_eq_true rfl⟩ (fun H locs hd hS => ?_)
  refine lv_aload_n hx hb dL_law_196 rfl (lv_at hl 2 rfl) ?_
  refine rc_Vi (rest := [.int r]) (a := 107) [] ⟨hx, hb, hml, hown, hts⟩ hK hd hS (c_X10_fault rfl h2) (cwV 0 hts gL_law_X10_fault rfl rfl rfl hv_X10_fault ⟨Nat.le_of_ble_eq_true rfl, Nat.le_of_ble_eq_true rfl⟩) rfl rfl rfl rfl rfl hl.1 rfl (Nat.le_of_ble_eq_true rfl) dL_law_197 ⟨Nat.le_of_ble_eq_true rfl, Nat.le_of_ble_eq_true rfl⟩ (fun H locs hd hS => ?_)
  exact lv_icmp_eq (tgt := 807) hx hb dL_law_200 (by decide) (fun _ => kk μ2 H locs ls hI hd hS hl) (fun q => absurd rfl q)
set_option maxRecDepth 100000 in
theorem lc_told {p : Program} {l : Launch} {e : Env} {s : State} {m : MethodId} {below : List Frame} {meth : Method} {c : Code} {D : va_G} {cA : Nat → ClassId} {b L z : Nat} {xs : Nat → Int32} (X : Lk D cA z b L xs p s m meth c) {Inv : Mm → Prop} (hst : Sp1 Inv f_X9_told f_X10_told) {i : Int32} (hi1 : vp_in (i + 1) L) (kk : Lc Inv D cA z b i p l e s m below meth c) {μ : Mm} {H : Heap} {locs : List Loc} {ls : Array Slot} (hI : Inv μ) (hd : Wd D cA z μ H) (hS : va_S (Az z) s.heap H locs) (hl : lv_has ls 4 [(0, .ref b), (1, .ref (z + 0)), (2, .ref (z + 107)), (3, .int i)]) : LW p l e s m below meth c b H locs (F0 m 205 ls []) := by
  obtain ⟨⟨hx, hb, hr, hml, hown, hts0, hX, hbl, hlk, hgv⟩, hz, hKc⟩ := X
  have hK := hKc.1
  have hbA : ¬ Az z b := by rw [hz]; exact Nat.not_le.mpr hbl
  have hts : ∀ w ∈ wsL_law, w.before #[Value.ref b] s = true := fun w h => hts0 w (wsL_law_in w h)
  obtain ⟨r, μ1, μ2, h1, h2, hI⟩ := hst μ (xs (i + 1).toNatClampNeg) hI
  unfold LW
  refine lv_aload_n hx hb dL_law_205 rfl (lv_at hl 1 rfl) ?_
  refine lv_aload_n hx hb dL_law_206 rfl (lv_at hl 0 rfl) ?_
  refine lv_iload_n hx hb dL_law_207 rfl (lv_at hl 3 rfl) ?_
  refine lv_iconst (v := 1) hx hb dL_law_208 (by decide) ?_
  refine lv_iadd hx hb dL_law_209 ?_
  refine va_sld hx hb hX hbl hbA hS hi1 dL_law_210 ?_
  refine rc_Vi (rest := []) (a := 0) [.int (xs (i + 1).toNatClampNeg)] ⟨hx, hb, hml, hown, hts⟩ hK hd hS (c_X9_told rfl h1) (cwV 1 hts gL_law_X9_told rfl rfl rfl hv_X9_told ⟨Nat.le_of_ble_eq_true rfl, Nat.le_of_ble_eq_true rfl⟩) rfl rfl rfl rfl rfl hl.1 rfl (Nat.le_of_ble_eq_true rfl) dL_law_211 ⟨Nat.le_of_ble_eq_true rfl, Nat.le_of_ble_eq_true rfl⟩ (fun H locs hd hS => ?_)
  refine lv_aload_n hx hb dL_law_214 rfl (lv_at hl 2 rfl) ?_
  refine lv_aload_n hx hb dL_law_215 rfl (lv_at hl 0 rfl) ?_
  refine lv_iload_n hx hb dL_law_216 rfl (lv_at hl 3 rfl) ?_
  refine lv_iconst (v := 1) hx hb dL_law_217 (by decide) ?_
  refine lv_iadd hx hb dL_law_218 ?_
  refine va_sld hx hb hX hbl hbA hS hi1 dL_law_219 ?_
  refine rc_Vi (rest := [.int r]) (a := 107) [.int (xs (i + 1).toNatClampNeg)] ⟨hx, hb, hml, hown, hts⟩ hK hd hS (c_X10_told rfl h2) (cwV 1 hts gL_law_X10_told rfl rfl rfl hv_X10_told ⟨Nat.le_of_ble_eq_true rfl, Nat.le_of_ble_eq_true rfl⟩) rfl rfl rfl rfl rfl hl.1 rfl (Nat.le_of_ble_eq_true rfl) dL_law_220 ⟨Nat.le_of_ble_eq_true rfl, Nat.le_of_ble_eq_true rfl⟩ (fun H locs hd hS => ?_)
  exact lv_icmp_eq (tgt := 807) hx hb dL_law_223 (by decide) (fun _ => kk μ2 H locs ls hI hd hS hl) (fun q => absurd rfl q)
set_option maxRecDepth 100000 in
theorem lc_cell {p : Program} {l : Launch} {e : Env} {s : State} {m : MethodId} {below : List Frame} {meth : Method} {c : Code} {D : va_G} {cA : Nat → ClassId} {b L z : Nat} {xs : Nat → Int32} (X : Lk D cA z b L xs p s m meth c) {Inv : Mm → Prop} (hst : Sp2 Inv f_X9_cell f_X10_cell) {i : Int32} (hi1 : vp_in (i + 1) L) (hi2 : vp_in (i + 2) L) (kk : Lc Inv D cA z b i p l e s m below meth c) {μ : Mm} {H : Heap} {locs : List Loc} {ls : Array Slot} (hI : Inv μ) (hd : Wd D cA z μ H) (hS : va_S (Az z) s.heap H locs) (hl : lv_has ls 4 [(0, .ref b), (1, .ref (z + 0)), (2, .ref (z + 107)), (3, .int i)]) : LW p l e s m below meth c b H locs (F0 m 228 ls []) := by
  obtain ⟨⟨hx, hb, hr, hml, hown, hts0, hX, hbl, hlk, hgv⟩, hz, hKc⟩ := X
  have hK := hKc.1
  have hbA : ¬ Az z b := by rw [hz]; exact Nat.not_le.mpr hbl
  have hts : ∀ w ∈ wsL_law, w.before #[Value.ref b] s = true := fun w h => hts0 w (wsL_law_in w h)
  obtain ⟨r, μ1, μ2, h1, h2, hI⟩ := hst μ (xs (i + 1).toNatClampNeg) (xs (i + 2).toNatClampNeg) hI
  unfold LW
  refine lv_aload_n hx hb dL_law_228 rfl (lv_at hl 1 rfl) ?_
  refine lv_aload_n hx hb dL_law_229 rfl (lv_at hl 0 rfl) ?_
  refine lv_iload_n hx hb dL_law_230 rfl (lv_at hl 3 rfl) ?_
  refine lv_iconst (v := 1) hx hb dL_law_231 (by decide) ?_
  refine lv_iadd hx hb dL_law_232 ?_
  refine va_sld hx hb hX hbl hbA hS hi1 dL_law_233 ?_
  refine lv_aload_n hx hb dL_law_234 rfl (lv_at hl 0 rfl) ?_
  refine lv_iload_n hx hb dL_law_235 rfl (lv_at hl 3 rfl) ?_
  refine lv_iconst (v := 2) hx hb dL_law_236 (by decide) ?_
  refine lv_iadd hx hb dL_law_237 ?_
  refine va_sld hx hb hX hbl hbA hS hi2 dL_law_238 ?_
  refine rc_Vi (rest := []) (a := 0) [.int (xs (i + 1).toNatClampNeg), .int (xs (i + 2).toNatClampNeg)] ⟨hx, hb, hml, hown, hts⟩ hK hd hS (c_X9_cell rfl h1) (cwV 2 hts gL_law_X9_cell rfl rfl rfl hv_X9_cell ⟨Nat.le_of_ble_eq_true rfl, Nat.le_of_ble_eq_true rfl⟩) rfl rfl rfl rfl rfl hl.1 rfl (Nat.le_of_ble_eq_true rfl) dL_law_239 ⟨Nat.le_of_ble_eq_true rfl, Nat.le_of_ble_eq_true rfl⟩ (fun H locs hd hS => ?_)
  refine lv_aload_n hx hb dL_law_242 rfl (lv_at hl 2 rfl) ?_
  refine lv_aload_n hx hb dL_law_243 rfl (lv_at hl 0 rfl) ?_
  refine lv_iload_n hx hb dL_law_244 rfl (lv_at hl 3 rfl) ?_
  refine lv_iconst (v := 1) hx hb dL_law_245 (by decide) ?_
  refine lv_iadd hx hb dL_law_246 ?_
  refine va_sld hx hb hX hbl hbA hS hi1 dL_law_247 ?_
  refine lv_aload_n hx hb dL_law_248 rfl (lv_at hl 0 rfl) ?_
  refine lv_iload_n hx hb dL_law_249 rfl (lv_at hl 3 rfl) ?_
  refine lv_iconst (v := 2) hx hb dL_law_250 (by decide) ?_
  refine lv_iadd hx hb dL_law_251 ?_
  refine va_sld hx hb hX hbl hbA hS hi2 dL_law_252 ?_
  refine rc_Vi (rest := [.int r]) (a := 107) [.int (xs (i + 1).toNatClampNeg), .int (xs (i + 2).toNatClampNeg)] ⟨hx, hb, hml, hown, hts⟩ hK hd hS (c_X10_cell rfl h2) (cwV 2 hts gL_law_X10_cell rfl rfl rfl hv_X10_cell ⟨Nat.le_of_ble_eq_true rfl, Nat.le_of_ble_eq_true rfl⟩) rfl rfl rfl rfl rfl hl.1 rfl (Nat.le_of_ble_eq_true rfl) dL_law_253 ⟨Nat.le_of_ble_eq_true rfl, Nat.le_of_ble_eq_true rfl⟩ (fun H locs hd hS => ?_)
  exact lv_icmp_eq (tgt := 807) hx hb dL_law_256 (by decide) (fun _ => kk μ2 H locs ls hI hd hS hl) (fun q => absurd rfl q)
set_option maxRecDepth 100000 in
theorem lc_item {p : Program} {l : Launch} {e : Env} {s : State} {m : MethodId} {below : List Frame} {meth : Method} {c : Code} {D : va_G} {cA : Nat → ClassId} {b L z : Nat} {xs : Nat → Int32} (X : Lk D cA z b L xs p s m meth c) {Inv : Mm → Prop} (hst : Sp2 Inv f_X9_item f_X10_item) {i : Int32} (hi1 : vp_in (i + 1) L) (hi2 : vp_in (i + 2) L) (kk : Lc Inv D cA z b i p l e s m below meth c) {μ : Mm} {H : Heap} {locs : List Loc} {ls : Array Slot} (hI : Inv μ) (hd : Wd D cA z μ H) (hS : va_S (Az z) s.heap H locs) (hl : lv_has ls 4 [(0, .ref b), (1, .ref (z + 0)), (2, .ref (z + 107)), (3, .int i)]) : LW p l e s m below meth c b H locs (F0 m 261 ls []) := by
  obtain ⟨⟨hx, hb, hr, hml, hown, hts0, hX, hbl, hlk, hgv⟩, hz, hKc⟩ := X
  have hK := hKc.1
  have hbA : ¬ Az z b := by rw [hz]; exact Nat.not_le.mpr hbl
  have hts : ∀ w ∈ wsL_law, w.before #[Value.ref b] s = true := fun w h => hts0 w (wsL_law_in w h)
  obtain ⟨r, μ1, μ2, h1, h2, hI⟩ := hst μ (xs (i + 1).toNatClampNeg) (xs (i + 2).toNatClampNeg) hI
  unfold LW
  refine lv_aload_n hx hb dL_law_261 rfl (lv_at hl 1 rfl) ?_
  refine lv_aload_n hx hb dL_law_262 rfl (lv_at hl 0 rfl) ?_
  refine lv_iload_n hx hb dL_law_263 rfl (lv_at hl 3 rfl) ?_
  refine lv_iconst (v := 1) hx hb dL_law_264 (by decide) ?_
  refine lv_iadd hx hb dL_law_265 ?_
  refine va_sld hx hb hX hbl hbA hS hi1 dL_law_266 ?_
  refine lv_aload_n hx hb dL_law_267 rfl (lv_at hl 0 rfl) ?_
  refine lv_iload_n hx hb dL_law_268 rfl (lv_at hl 3 rfl) ?_
  refine lv_iconst (v := 2) hx hb dL_law_269 (by decide) ?_
  refine lv_iadd hx hb dL_law_270 ?_
  refine va_sld hx hb hX hbl hbA hS hi2 dL_law_271 ?_
  refine rc_Vi (rest := []) (a := 0) [.int (xs (i + 1).toNatClampNeg), .int (xs (i + 2).toNatClampNeg)] ⟨hx, hb, hml, hown, hts⟩ hK hd hS (c_X9_item rfl h1) (cwV 2 hts gL_law_X9_item rfl rfl rfl hv_X9_item ⟨Nat.le_of_ble_eq_true rfl, Nat.le_of_ble_eq_true rfl⟩) rfl rfl rfl rfl rfl hl.1 rfl (Nat.le_of_ble_eq_true rfl) dL_law_272 ⟨Nat.le_of_ble_eq_true rfl, Nat.le_of_ble_eq_true rfl⟩ (fun H locs hd hS => ?_)
  refine lv_aload_n hx hb dL_law_275 rfl (lv_at hl 2 rfl) ?_
  refine lv_aload_n hx hb dL_law_276 rfl (lv_at hl 0 rfl) ?_
  refine lv_iload_n hx hb dL_law_277 rfl (lv_at hl 3 rfl) ?_
  refine lv_iconst (v := 1) hx hb dL_law_278 (by decide) ?_
  refine lv_iadd hx hb dL_law_279 ?_
  refine va_sld hx hb hX hbl hbA hS hi1 dL_law_280 ?_
  refine lv_aload_n hx hb dL_law_281 rfl (lv_at hl 0 rfl) ?_
  refine lv_iload_n hx hb dL_law_282 rfl (lv_at hl 3 rfl) ?_
  refine lv_iconst (v := 2) hx hb dL_law_283 (by decide) ?_
  refine lv_iadd hx hb dL_law_284 ?_
  refine va_sld hx hb hX hbl hbA hS hi2 dL_law_285 ?_
  refine rc_Vi (rest := [.int r]) (a := 107) [.int (xs (i + 1).toNatClampNeg), .int (xs (i + 2).toNatClampNeg)] ⟨hx, hb, hml, hown, hts⟩ hK hd hS (c_X10_item rfl h2) (cwV 2 hts gL_law_X10_item rfl rfl rfl hv_X10_item ⟨Nat.le_of_ble_eq_true rfl, Nat.le_of_ble_eq_true rfl⟩) rfl rfl rfl rfl rfl hl.1 rfl (Nat.le_of_ble_eq_true rfl) dL_law_286 ⟨Nat.le_of_ble_eq_true rfl, Nat.le_of_ble_eq_true rfl⟩ (fun H locs hd hS => ?_)
  exact lv_icmp_eq (tgt := 807) hx hb dL_law_289 (by decide) (fun _ => kk μ2 H locs ls hI hd hS hl) (fun q => absurd rfl q)
set_option maxRecDepth 100000 in
theorem lc_votes {p : Program} {l : Launch} {e : Env} {s : State} {m : MethodId} {below : List Frame} {meth : Method} {c : Code} {D : va_G} {cA : Nat → ClassId} {b L z : Nat} {xs : Nat → Int32} (X : Lk D cA z b L xs p s m meth c) {Inv : Mm → Prop} (hst : Sp2 Inv f_X9_votes f_X10_votes) {i : Int32} (hi1 : vp_in (i + 1) L) (hi2 : vp_in (i + 2) L) (kk : Lc Inv D cA z b i p l e s m below meth c) {μ : Mm} {H : Heap} {locs : List Loc} {ls : Array Slot} (hI : Inv μ) (hd : Wd D cA z μ H) (hS : va_S (Az z) s.heap H locs) (hl : lv_has ls 4 [(0, .ref b), (1, .ref (z + 0)), (2, .ref (z + 107)), (3, .int i)]) : LW p l e s m below meth c b H locs (F0 m 294 ls []) := by
  obtain ⟨⟨hx, hb, hr, hml, hown, hts0, hX, hbl, hlk, hgv⟩, hz, hKc⟩ := X
  have hK := hKc.1
  have hbA : ¬ Az z b := by rw [hz]; exact Nat.not_le.mpr hbl
  have hts : ∀ w ∈ wsL_law, w.before #[Value.ref b] s = true := fun w h => hts0 w (wsL_law_in w h)
  obtain ⟨r, μ1, μ2, h1, h2, hI⟩ := hst μ (xs (i + 1).toNatClampNeg) (xs (i + 2).toNatClampNeg) hI
  unfold LW
  refine lv_aload_n hx hb dL_law_294 rfl (lv_at hl 1 rfl) ?_
  refine lv_aload_n hx hb dL_law_295 rfl (lv_at hl 0 rfl) ?_
  refine lv_iload_n hx hb dL_law_296 rfl (lv_at hl 3 rfl) ?_
  refine lv_iconst (v := 1) hx hb dL_law_297 (by decide) ?_
  refine lv_iadd hx hb dL_law_298 ?_
  refine va_sld hx hb hX hbl hbA hS hi1 dL_law_299 ?_
  refine lv_aload_n hx hb dL_law_300 rfl (lv_at hl 0 rfl) ?_
  refine lv_iload_n hx hb dL_law_301 rfl (lv_at hl 3 rfl) ?_
  refine lv_iconst (v := 2) hx hb dL_law_302 (by decide) ?_
  refine lv_iadd hx hb dL_law_303 ?_
  refine va_sld hx hb hX hbl hbA hS hi2 dL_law_304 ?_
  refine rc_Vi (rest := []) (a := 0) [.int (xs (i + 1).toNatClampNeg), .int (xs (i + 2).toNatClampNeg)] ⟨hx, hb, hml, hown, hts⟩ hK hd hS (c_X9_votes rfl h1) (cwV 2 hts gL_law_X9_votes rfl rfl rfl hv_X9_votes ⟨Nat.le_of_ble_eq_true rfl, Nat.le_of_ble_eq_true rfl⟩) rfl rfl rfl rfl rfl hl.1 rfl (Nat.le_of_ble_eq_true rfl) dL_law_305 ⟨Nat.le_of_ble_eq_true rfl, Nat.le_of_ble_eq_true rfl⟩ (fun H locs hd hS => ?_)
  refine lv_aload_n hx hb dL_law_308 rfl (lv_at hl 2 rfl) ?_
  refine lv_aload_n hx hb dL_law_309 rfl (lv_at hl 0 rfl) ?_
  refine lv_iload_n hx hb dL_law_310 rfl (lv_at hl 3 rfl) ?_
  refine lv_iconst (v := 1) hx hb dL_law_311 (by decide) ?_
  refine lv_iadd hx hb dL_law_312 ?_
  refine va_sld hx hb hX hbl hbA hS hi1 dL_law_313 ?_
  refine lv_aload_n hx hb dL_law_314 rfl (lv_at hl 0 rfl) ?_
  refine lv_iload_n hx hb dL_law_315 rfl (lv_at hl 3 rfl) ?_
  refine lv_iconst (v := 2) hx hb dL_law_316 (by decide) ?_
  refine lv_iadd hx hb dL_law_317 ?_
  refine va_sld hx hb hX hbl hbA hS hi2 dL_law_318 ?_
  refine rc_Vi (rest := [.int r]) (a := 107) [.int (xs (i + 1).toNatClampNeg), .int (xs (i + 2).toNatClampNeg)] ⟨hx, hb, hml, hown, hts⟩ hK hd hS (c_X10_votes rfl h2) (cwV 2 hts gL_law_X10_votes rfl rfl rfl hv_X10_votes ⟨Nat.le_of_ble_eq_true rfl, Nat.le_of_ble_eq_true rfl⟩) rfl rfl rfl rfl rfl hl.1 rfl (Nat.le_of_ble_eq_true rfl) dL_law_319 ⟨Nat.le_of_ble_eq_true rfl, Nat.le_of_ble_eq_true rfl⟩ (fun H locs hd hS => ?_)
  exact lv_icmp_eq (tgt := 807) hx hb dL_law_322 (by decide) (fun _ => kk μ2 H locs ls hI hd hS hl) (fun q => absurd rfl q)
set_option maxRecDepth 100000 in
theorem lc_vote {p : Program} {l : Launch} {e : Env} {s : State} {m : MethodId} {below : List Frame} {meth : Method} {c : Code} {D : va_G} {cA : Nat → ClassId} {b L z : Nat} {xs : Nat → Int32} (X : Lk D cA z b L xs p s m meth c) {Inv : Mm → Prop} (hst : Sp3 Inv f_X9_vote f_X10_vote) {i : Int32} (hi1 : vp_in (i + 1) L) (hi2 : vp_in (i + 2) L) (hi3 : vp_in (i + 3) L) (kk : Lc Inv D cA z b i p l e s m below meth c) {μ : Mm} {H : Heap} {locs : List Loc} {ls : Array Slot} (hI : Inv μ) (hd : Wd D cA z μ H) (hS : va_S (Az z) s.heap H locs) (hl : lv_has ls 4 [(0, .ref b), (1, .ref (z + 0)), (2, .ref (z + 107)), (3, .int i)]) : LW p l e s m below meth c b H locs (F0 m 327 ls []) := by
  obtain ⟨⟨hx, hb, hr, hml, hown, hts0, hX, hbl, hlk, hgv⟩, hz, hKc⟩ := X
  have hK := hKc.1
  have hbA : ¬ Az z b := by rw [hz]; exact Nat.not_le.mpr hbl
  have hts : ∀ w ∈ wsL_law, w.before #[Value.ref b] s = true := fun w h => hts0 w (wsL_law_in w h)
  obtain ⟨r, μ1, μ2, h1, h2, hI⟩ := hst μ (xs (i + 1).toNatClampNeg) (xs (i + 2).toNatClampNeg) (xs (i + 3).toNatClampNeg) hI
  unfold LW
  refine lv_aload_n hx hb dL_law_327 rfl (lv_at hl 1 rfl) ?_
  refine lv_aload_n hx hb dL_law_328 rfl (lv_at hl 0 rfl) ?_
  refine lv_iload_n hx hb dL_law_329 rfl (lv_at hl 3 rfl) ?_
  refine lv_iconst (v := 1) hx hb dL_law_330 (by decide) ?_
  refine lv_iadd hx hb dL_law_331 ?_
  refine va_sld hx hb hX hbl hbA hS hi1 dL_law_332 ?_
  refine lv_aload_n hx hb dL_law_333 rfl (lv_at hl 0 rfl) ?_
  refine lv_iload_n hx hb dL_law_334 rfl (lv_at hl 3 rfl) ?_
  refine lv_iconst (v := 2) hx hb dL_law_335 (by decide) ?_
  refine lv_iadd hx hb dL_law_336 ?_
  refine va_sld hx hb hX hbl hbA hS hi2 dL_law_337 ?_
  refine lv_aload_n hx hb dL_law_338 rfl (lv_at hl 0 rfl) ?_
  refine lv_iload_n hx hb dL_law_339 rfl (lv_at hl 3 rfl) ?_
  refine lv_iconst (v := 3) hx hb dL_law_340 (by decide) ?_
  refine lv_iadd hx hb dL_law_341 ?_
  refine va_sld hx hb hX hbl hbA hS hi3 dL_law_342 ?_
  refine rc_Vi (rest := []) (a := 0) [.int (xs (i + 1).toNatClampNeg), .int (xs (i + 2).toNatClampNeg), .int (xs (i + 3).toNatClampNeg)] ⟨hx, hb, hml, hown, hts⟩ hK hd hS (c_X9_vote rfl h1) (cwV 3 hts gL_law_X9_vote rfl rfl rfl hv_X9_vote ⟨Nat.le_of_ble_eq_true rfl, Nat.le_of_ble_eq_true rfl⟩) rfl rfl rfl rfl rfl hl.1 rfl (Nat.le_of_ble_eq_true rfl) dL_law_343 ⟨Nat.le_of_ble_eq_true rfl, Nat.le_of_ble_eq_true rfl⟩ (fun H locs hd hS => ?_)
  refine lv_aload_n hx hb dL_law_346 rfl (lv_at hl 2 rfl) ?_
  refine lv_aload_n hx hb dL_law_347 rfl (lv_at hl 0 rfl) ?_
  refine lv_iload_n hx hb dL_law_348 rfl (lv_at hl 3 rfl) ?_
  refine lv_iconst (v := 1) hx hb dL_law_349 (by decide) ?_
  refine lv_iadd hx hb dL_law_350 ?_
  refine va_sld hx hb hX hbl hbA hS hi1 dL_law_351 ?_
  refine lv_aload_n hx hb dL_law_352 rfl (lv_at hl 0 rfl) ?_
  refine lv_iload_n hx hb dL_law_353 rfl (lv_at hl 3 rfl) ?_
  refine lv_iconst (v := 2) hx hb dL_law_354 (by decide) ?_
  refine lv_iadd hx hb dL_law_355 ?_
  refine va_sld hx hb hX hbl hbA hS hi2 dL_law_356 ?_
  refine lv_aload_n hx hb dL_law_357 rfl (lv_at hl 0 rfl) ?_
  refine lv_iload_n hx hb dL_law_358 rfl (lv_at hl 3 rfl) ?_
  refine lv_iconst (v := 3) hx hb dL_law_359 (by decide) ?_
  refine lv_iadd hx hb dL_law_360 ?_
  refine va_sld hx hb hX hbl hbA hS hi3 dL_law_361 ?_
  refine rc_Vi (rest := [.int r]) (a := 107) [.int (xs (i + 1).toNatClampNeg), .int (xs (i + 2).toNatClampNeg), .int (xs (i + 3).toNatClampNeg)] ⟨hx, hb, hml, hown, hts⟩ hK hd hS (c_X10_vote rfl h2) (cwV 3 hts gL_law_X10_vote rfl rfl rfl hv_X10_vote ⟨Nat.le_of_ble_eq_true rfl, Nat.le_of_ble_eq_true rfl⟩) rfl rfl rfl rfl rfl hl.1 rfl (Nat.le_of_ble_eq_true rfl) dL_law_362 ⟨Nat.le_of_ble_eq_true rfl, Nat.le_of_ble_eq_true rfl⟩ (fun H locs hd hS => ?_)
  exact lv_icmp_eq (tgt := 807) hx hb dL_law_365 (by decide) (fun _ => kk μ2 H locs ls hI hd hS hl) (fun q => absurd rfl q)
set_option maxRecDepth 100000 in
theorem lc_session {p : Program} {l : Launch} {e : Env} {s : State} {m : MethodId} {below : List Frame} {meth : Method} {c : Code} {D : va_G} {cA : Nat → ClassId} {b L z : Nat} {xs : Nat → Int32} (X : Lk D cA z b L xs p s m meth c) {Inv : Mm → Prop} (hst : Sp0 Inv f_X9_session f_X10_session) {i : Int32} (kk : Lc Inv D cA z b i p l e s m below meth c) {μ : Mm} {H : Heap} {locs : List Loc} {ls : Array Slot} (hI : Inv μ) (hd : Wd D cA z μ H) (hS : va_S (Az z) s.heap H locs) (hl : lv_has ls 4 [(0, .ref b), (1, .ref (z + 0)), (2, .ref (z + 107)), (3, .int i)]) : LW p l e s m below meth c b H locs (F0 m 370 ls []) := by
  obtain ⟨⟨hx, hb, hr, hml, hown, hts0, hX, hbl, hlk, hgv⟩, hz, hKc⟩ := X
  have hK := hKc.1
  have hbA : ¬ Az z b := by rw [hz]; exact Nat.not_le.mpr hbl
  have hts : ∀ w ∈ wsL_law, w.before #[Value.ref b] s = true := fun w h => hts0 w (wsL_law_in w h)
  obtain ⟨r, μ1, μ2, h1, h2, hI⟩ := hst μ  hI
  unfold LW
  refine lv_aload_n hx hb dL_law_370 rfl (lv_at hl 1 rfl) ?_
  refine rc_Vi (rest := []) (a := 0) [] ⟨hx, hb, hml, hown, hts⟩ hK hd hS (c_X9_session rfl h1) (cwV 0 hts gL_law_X9_session rfl rfl rfl hv_X9_session ⟨Nat.le_of_ble_eq_true rfl, Nat.le_of_ble_eq_true rfl⟩) rfl rfl rfl rfl rfl hl.1 rfl (Nat.le_of_ble_eq_true rfl) dL_law_371 ⟨Nat.le_of_ble_eq_true rfl, Nat.le_of_ble_eq_true rfl⟩ (fun H locs hd hS => ?_)
  refine lv_aload_n hx hb dL_law_374 rfl (lv_at hl 2 rfl) ?_
  refine rc_Vi (rest := [.int r]) (a := 107) [] ⟨hx, hb, hml, hown, hts⟩ hK hd hS (c_X10_session rfl h2) (cwV 0 hts gL_law_X10_session rfl rfl rfl hv_X10_session ⟨Nat.le_of_ble_eq_true rfl, Nat.le_of_ble_eq_true rfl⟩) rfl rfl rfl rfl rfl hl.1 rfl (Nat.le_of_ble_eq_true rfl) dL_law_375 ⟨Nat.le_of_ble_eq_true rfl, Nat.le_of_ble_eq_true rfl⟩ (fun H locs hd hS => ?_)
  exact lv_icmp_eq (tgt := 807) hx hb dL_law_378 (by decide) (fun _ => kk μ2 H locs ls hI hd hS hl) (fun q => absurd rfl q)
set_option maxRecDepth 100000 in
theorem lc_drift {p : Program} {l : Launch} {e : Env} {s : State} {m : MethodId} {below : List Frame} {meth : Method} {c : Code} {D : va_G} {cA : Nat → ClassId} {b L z : Nat} {xs : Nat → Int32} (X : Lk D cA z b L xs p s m meth c) {Inv : Mm → Prop} (hst : Sp1 Inv f_X9_drift f_X10_drift) {i : Int32} (hi1 : vp_in (i + 1) L) (kk : Lc Inv D cA z b i p l e s m below meth c) {μ : Mm} {H : Heap} {locs : List Loc} {ls : Array Slot} (hI : Inv μ) (hd : Wd D cA z μ H) (hS : va_S (Az z) s.heap H locs) (hl : lv_has ls 4 [(0, .ref b), (1, .ref (z + 0)), (2, .ref (z + 107)), (3, .int i)]) : LW p l e s m below meth c b H locs (F0 m 383 ls []) := by
  obtain ⟨⟨hx, hb, hr, hml, hown, hts0, hX, hbl, hlk, hgv⟩, hz, hKc⟩ := X
  have hK := hKc.1
  have hbA : ¬ Az z b := by rw [hz]; exact Nat.not_le.mpr hbl
  have hts : ∀ w ∈ wsL_law, w.before #[Value.ref b] s = true := fun w h => hts0 w (wsL_law_in w h)
  obtain ⟨r, μ1, μ2, h1, h2, hI⟩ := hst μ (xs (i + 1).toNatClampNeg) hI
  unfold LW
  refine lv_aload_n hx hb dL_law_383 rfl (lv_at hl 1 rfl) ?_
  refine lv_aload_n hx hb dL_law_384 rfl (lv_at hl 0 rfl) ?_
  refine lv_iload_n hx hb dL_law_385 rfl (lv_at hl 3 rfl) ?_
  refine lv_iconst (v := 1) hx hb dL_law_386 (by decide) ?_
  refine lv_iadd hx hb dL_law_387 ?_
  refine va_sld hx hb hX hbl hbA hS hi1 dL_law_388 ?_
  refine rc_Vi (rest := []) (a := 0) [.int (xs (i + 1).toNatClampNeg)] ⟨hx, hb, hml, hown, hts⟩ hK hd hS (c_X9_drift rfl h1) (cwV 1 hts gL_law_X9_drift rfl rfl rfl hv_X9_drift ⟨Nat.le_of_ble_eq_true rfl, Nat.le_of_ble_eq_true rfl⟩) rfl rfl rfl rfl rfl hl.1 rfl (Nat.le_of_ble_eq_true rfl) dL_law_389 ⟨Nat.le_of_ble_eq_true rfl, Nat.le_of_ble_eq_true rfl⟩ (fun H locs hd hS => ?_)
  refine lv_aload_n hx hb dL_law_392 rfl (lv_at hl 2 rfl) ?_
  refine lv_aload_n hx hb dL_law_393 rfl (lv_at hl 0 rfl) ?_
  refine lv_iload_n hx hb dL_law_394 rfl (lv_at hl 3 rfl) ?_
  refine lv_iconst (v := 1) hx hb dL_law_395 (by decide) ?_
  refine lv_iadd hx hb dL_law_396 ?_
  refine va_sld hx hb hX hbl hbA hS hi1 dL_law_397 ?_
  refine rc_Vi (rest := [.int r]) (a := 107) [.int (xs (i + 1).toNatClampNeg)] ⟨hx, hb, hml, hown, hts⟩ hK hd hS (c_X10_drift rfl h2) (cwV 1 hts gL_law_X10_drift rfl rfl rfl hv_X10_drift ⟨Nat.le_of_ble_eq_true rfl, Nat.le_of_ble_eq_true rfl⟩) rfl rfl rfl rfl rfl hl.1 rfl (Nat.le_of_ble_eq_true rfl) dL_law_398 ⟨Nat.le_of_ble_eq_true rfl, Nat.le_of_ble_eq_true rfl⟩ (fun H locs hd hS => ?_)
  exact lv_icmp_eq (tgt := 807) hx hb dL_law_401 (by decide) (fun _ => kk μ2 H locs ls hI hd hS hl) (fun q => absurd rfl q)
set_option maxRecDepth 100000 in
theorem lc_undo {p : Program} {l : Launch} {e : Env} {s : State} {m : MethodId} {below : List Frame} {meth : Method} {c : Code} {D : va_G} {cA : Nat → ClassId} {b L z : Nat} {xs : Nat → Int32} (X : Lk D cA z b L xs p s m meth c) {Inv : Mm → Prop} (hst : Sp0 Inv f_X9_undo f_X10_undo) {i : Int32} (kk : Lc Inv D cA z b i p l e s m below meth c) {μ : Mm} {H : Heap} {locs : List Loc} {ls : Array Slot} (hI : Inv μ) (hd : Wd D cA z μ H) (hS : va_S (Az z) s.heap H locs) (hl : lv_has ls 4 [(0, .ref b), (1, .ref (z + 0)), (2, .ref (z + 107)), (3, .int i)]) : LW p l e s m below meth c b H locs (F0 m 406 ls []) := by
  obtain ⟨⟨hx, hb, hr, hml, hown, hts0, hX, hbl, hlk, hgv⟩, hz, hKc⟩ := X
  have hK := hKc.1
  have hbA : ¬ Az z b := by rw [hz]; exact Nat.not_le.mpr hbl
  have hts : ∀ w ∈ wsL_law, w.before #[Value.ref b] s = true := fun w h => hts0 w (wsL_law_in w h)
  obtain ⟨r, μ1, μ2, h1, h2, hI⟩ := hst μ  hI
  unfold LW
  refine lv_aload_n hx hb dL_law_406 rfl (lv_at hl 1 rfl) ?_
  refine rc_Vi (rest := []) (a := 0) [] ⟨hx, hb, hml, hown, hts⟩ hK hd hS (c_X9_undo rfl h1) (cwV 0 hts gL_law_X9_undo rfl rfl rfl hv_X9_undo ⟨Nat.le_of_ble_eq_true rfl, Nat.le_of_ble_eq_true rfl⟩) rfl rfl rfl rfl rfl hl.1 rfl (Nat.le_of_ble_eq_true rfl) dL_law_407 ⟨Nat.le_of_ble_eq_true rfl, Nat.le_of_ble_eq_true rfl⟩ (fun H locs hd hS => ?_)
  refine lv_aload_n hx hb dL_law_410 rfl (lv_at hl 2 rfl) ?_
  refine rc_Vi (rest := [.int r]) (a := 107) [] ⟨hx, hb, hml, hown, hts⟩ hK hd hS (c_X10_undo rfl h2) (cwV 0 hts gL_law_X10_undo rfl rfl rfl hv_X10_undo ⟨Nat.le_of_ble_eq_true rfl, Nat.le_of_ble_eq_true rfl⟩) rfl rfl rfl rfl rfl hl.1 rfl (Nat.le_of_ble_eq_true rfl) dL_law_411 ⟨Nat.le_of_ble_eq_true rfl, Nat.le_of_ble_eq_true rfl⟩ (fun H locs hd hS => ?_)
  exact lv_icmp_eq (tgt := 807) hx hb dL_law_414 (by decide) (fun _ => kk μ2 H locs ls hI hd hS hl) (fun q => absurd rfl q)
set_option maxRecDepth 100000 in
theorem lc_rests {p : Program} {l : Launch} {e : Env} {s : State} {m : MethodId} {below : List Frame} {meth : Method} {c : Code} {D : va_G} {cA : Nat → ClassId} {b L z : Nat} {xs : Nat → Int32} (X : Lk D cA z b L xs p s m meth c) {Inv : Mm → Prop} (hst : Sp2 Inv f_X9_rests f_X10_rests) {i : Int32} (hi1 : vp_in (i + 1) L) (hi2 : vp_in (i + 2) L) (kk : Lc Inv D cA z b i p l e s m below meth c) {μ : Mm} {H : Heap} {locs : List Loc} {ls : Array Slot} (hI : Inv μ) (hd : Wd D cA z μ H) (hS : va_S (Az z) s.heap H locs) (hl : lv_has ls 4 [(0, .ref b), (1, .ref (z + 0)), (2, .ref (z + 107)), (3, .int i)]) : LW p l e s m below meth c b H locs (F0 m 419 ls []) := by
  obtain ⟨⟨hx, hb, hr, hml, hown, hts0, hX, hbl, hlk, hgv⟩, hz, hKc⟩ := X
  have hK := hKc.1
  have hbA : ¬ Az z b := by rw [hz]; exact Nat.not_le.mpr hbl
  have hts : ∀ w ∈ wsL_law, w.before #[Value.ref b] s = true := fun w h => hts0 w (wsL_law_in w h)
  obtain ⟨r, μ1, μ2, h1, h2, hI⟩ := hst μ (xs (i + 1).toNatClampNeg) (xs (i + 2).toNatClampNeg) hI
  unfold LW
  refine lv_aload_n hx hb dL_law_419 rfl (lv_at hl 1 rfl) ?_
  refine lv_aload_n hx hb dL_law_420 rfl (lv_at hl 0 rfl) ?_
  refine lv_iload_n hx hb dL_law_421 rfl (lv_at hl 3 rfl) ?_
  refine lv_iconst (v := 1) hx hb dL_law_422 (by decide) ?_
  refine lv_iadd hx hb dL_law_423 ?_
  refine va_sld hx hb hX hbl hbA hS hi1 dL_law_424 ?_
  refine lv_aload_n hx hb dL_law_425 rfl (lv_at hl 0 rfl) ?_
  refine lv_iload_n hx hb dL_law_426 rfl (lv_at hl 3 rfl) ?_
  refine lv_iconst (v := 2) hx hb dL_law_427 (by decide) ?_
  refine lv_iadd hx hb dL_law_428 ?_
  refine va_sld hx hb hX hbl hbA hS hi2 dL_law_429 ?_
  refine rc_Vi (rest := []) (a := 0) [.int (xs (i + 1).toNatClampNeg), .int (xs (i + 2).toNatClampNeg)] ⟨hx, hb, hml, hown, hts⟩ hK hd hS (c_X9_rests rfl h1) (cwV 2 hts gL_law_X9_rests rfl rfl rfl hv_X9_rests ⟨Nat.le_of_ble_eq_true rfl, Nat.le_of_ble_eq_true rfl⟩) rfl rfl rfl rfl rfl hl.1 rfl (Nat.le_of_ble_eq_true rfl) dL_law_430 ⟨Nat.le_of_ble_eq_true rfl, Nat.le_of_ble_eq_true rfl⟩ (fun H locs hd hS => ?_)
  refine lv_aload_n hx hb dL_law_433 rfl (lv_at hl 2 rfl) ?_
  refine lv_aload_n hx hb dL_law_434 rfl (lv_at hl 0 rfl) ?_
  refine lv_iload_n hx hb dL_law_435 rfl (lv_at hl 3 rfl) ?_
  refine lv_iconst (v := 1) hx hb dL_law_436 (by decide) ?_
  refine lv_iadd hx hb dL_law_437 ?_
  refine va_sld hx hb hX hbl hbA hS hi1 dL_law_438 ?_
  refine lv_aload_n hx hb dL_law_439 rfl (lv_at hl 0 rfl) ?_
  refine lv_iload_n hx hb dL_law_440 rfl (lv_at hl 3 rfl) ?_
  refine lv_iconst (v := 2) hx hb dL_law_441 (by decide) ?_
  refine lv_iadd hx hb dL_law_442 ?_
  refine va_sld hx hb hX hbl hbA hS hi2 dL_law_443 ?_
  refine rc_Vi (rest := [.int r]) (a := 107) [.int (xs (i + 1).toNatClampNeg), .int (xs (i + 2).toNatClampNeg)] ⟨hx, hb, hml, hown, hts⟩ hK hd hS (c_X10_rests rfl h2) (cwV 2 hts gL_law_X10_rests rfl rfl rfl hv_X10_rests ⟨Nat.le_of_ble_eq_true rfl, Nat.le_of_ble_eq_true rfl⟩) rfl rfl rfl rfl rfl hl.1 rfl (Nat.le_of_ble_eq_true rfl) dL_law_444 ⟨Nat.le_of_ble_eq_true rfl, Nat.le_of_ble_eq_true rfl⟩ (fun H locs hd hS => ?_)
  exact lv_icmp_eq (tgt := 807) hx hb dL_law_447 (by decide) (fun _ => kk μ2 H locs ls hI hd hS hl) (fun q => absurd rfl q)
set_option maxRecDepth 100000 in
theorem lc_pool {p : Program} {l : Launch} {e : Env} {s : State} {m : MethodId} {below : List Frame} {meth : Method} {c : Code} {D : va_G} {cA : Nat → ClassId} {b L z : Nat} {xs : Nat → Int32} (X : Lk D cA z b L xs p s m meth c) {Inv : Mm → Prop} (hst : Sp1 Inv f_X9_pool f_X10_pool) {i : Int32} (hi1 : vp_in (i + 1) L) (kk : Lc Inv D cA z b i p l e s m below meth c) {μ : Mm} {H : Heap} {locs : List Loc} {ls : Array Slot} (hI : Inv μ) (hd : Wd D cA z μ H) (hS : va_S (Az z) s.heap H locs) (hl : lv_has ls 4 [(0, .ref b), (1, .ref (z + 0)), (2, .ref (z + 107)), (3, .int i)]) : LW p l e s m below meth c b H locs (F0 m 452 ls []) := by
  obtain ⟨⟨hx, hb, hr, hml, hown, hts0, hX, hbl, hlk, hgv⟩, hz, hKc⟩ := X
  have hK := hKc.1
  have hbA : ¬ Az z b := by rw [hz]; exact Nat.not_le.mpr hbl
  have hts : ∀ w ∈ wsL_law, w.before #[Value.ref b] s = true := fun w h => hts0 w (wsL_law_in w h)
  obtain ⟨r, μ1, μ2, h1, h2, hI⟩ := hst μ (xs (i + 1).toNatClampNeg) hI
  unfold LW
  refine lv_aload_n hx hb dL_law_452 rfl (lv_at hl 1 rfl) ?_
  refine lv_aload_n hx hb dL_law_453 rfl (lv_at hl 0 rfl) ?_
  refine lv_iload_n hx hb dL_law_454 rfl (lv_at hl 3 rfl) ?_
  refine lv_iconst (v := 1) hx hb dL_law_455 (by decide) ?_
  refine lv_iadd hx hb dL_law_456 ?_
  refine va_sld hx hb hX hbl hbA hS hi1 dL_law_457 ?_
  refine rc_Vi (rest := []) (a := 0) [.int (xs (i + 1).toNatClampNeg)] ⟨hx, hb, hml, hown, hts⟩ hK hd hS (c_X9_pool rfl h1) (cwV 1 hts gL_law_X9_pool rfl rfl rfl hv_X9_pool ⟨Nat.le_of_ble_eq_true rfl, Nat.le_of_ble_eq_true rfl⟩) rfl rfl rfl rfl rfl hl.1 rfl (Nat.le_of_ble_eq_true rfl) dL_law_458 ⟨Nat.le_of_ble_eq_true rfl, Nat.le_of_ble_eq_true rfl⟩ (fun H locs hd hS => ?_)
  refine lv_aload_n hx hb dL_law_461 rfl (lv_at hl 2 rfl) ?_
  refine lv_aload_n hx hb dL_law_462 rfl (lv_at hl 0 rfl) ?_
  refine lv_iload_n hx hb dL_law_463 rfl (lv_at hl 3 rfl) ?_
  refine lv_iconst (v := 1) hx hb dL_law_464 (by decide) ?_
  refine lv_iadd hx hb dL_law_465 ?_
  refine va_sld hx hb hX hbl hbA hS hi1 dL_law_466 ?_
  refine rc_Vi (rest := [.int r]) (a := 107) [.int (xs (i + 1).toNatClampNeg)] ⟨hx, hb, hml, hown, hts⟩ hK hd hS (c_X10_pool rfl h2) (cwV 1 hts gL_law_X10_pool rfl rfl rfl hv_X10_pool ⟨Nat.le_of_ble_eq_true rfl, Nat.le_of_ble_eq_true rfl⟩) rfl rfl rfl rfl rfl hl.1 rfl (Nat.le_of_ble_eq_true rfl) dL_law_467 ⟨Nat.le_of_ble_eq_true rfl, Nat.le_of_ble_eq_true rfl⟩ (fun H locs hd hS => ?_)
  exact lv_icmp_eq (tgt := 807) hx hb dL_law_470 (by decide) (fun _ => kk μ2 H locs ls hI hd hS hl) (fun q => absurd rfl q)
set_option maxRecDepth 100000 in
theorem lc_tips {p : Program} {l : Launch} {e : Env} {s : State} {m : MethodId} {below : List Frame} {meth : Method} {c : Code} {D : va_G} {cA : Nat → ClassId} {b L z : Nat} {xs : Nat → Int32} (X : Lk D cA z b L xs p s m meth c) {Inv : Mm → Prop} (hst : Sp1 Inv f_X9_tips f_X10_tips) {i : Int32} (hi1 : vp_in (i + 1) L) (kk : Lc Inv D cA z b i p l e s m below meth c) {μ : Mm} {H : Heap} {locs : List Loc} {ls : Array Slot} (hI : Inv μ) (hd : Wd D cA z μ H) (hS : va_S (Az z) s.heap H locs) (hl : lv_has ls 4 [(0, .ref b), (1, .ref (z + 0)), (2, .ref (z + 107)), (3, .int i)]) : LW p l e s m below meth c b H locs (F0 m 475 ls []) := by
  obtain ⟨⟨hx, hb, hr, hml, hown, hts0, hX, hbl, hlk, hgv⟩, hz, hKc⟩ := X
  have hK := hKc.1
  have hbA : ¬ Az z b := by rw [hz]; exact Nat.not_le.mpr hbl
  have hts : ∀ w ∈ wsL_law, w.before #[Value.ref b] s = true := fun w h => hts0 w (wsL_law_in w h)
  obtain ⟨r, μ1, μ2, h1, h2, hI⟩ := hst μ (xs (i + 1).toNatClampNeg) hI
  unfold LW
  refine lv_aload_n hx hb dL_law_475 rfl (lv_at hl 1 rfl) ?_
  refine lv_aload_n hx hb dL_law_476 rfl (lv_at hl 0 rfl) ?_
  refine lv_iload_n hx hb dL_law_477 rfl (lv_at hl 3 rfl) ?_
  refine lv_iconst (v := 1) hx hb dL_law_478 (by decide) ?_
  refine lv_iadd hx hb dL_law_479 ?_
  refine va_sld hx hb hX hbl hbA hS hi1 dL_law_480 ?_
  refine rc_Vi (rest := []) (a := 0) [.int (xs (i + 1).toNatClampNeg)] ⟨hx, hb, hml, hown, hts⟩ hK hd hS (c_X9_tips rfl h1) (cwV 1 hts gL_law_X9_tips rfl rfl rfl hv_X9_tips ⟨Nat.le_of_ble_eq_true rfl, Nat.le_of_ble_eq_true rfl⟩) rfl rfl rfl rfl rfl hl.1 rfl (Nat.le_of_ble_eq_true rfl) dL_law_481 ⟨Nat.le_of_ble_eq_true rfl, Nat.le_of_ble_eq_true rfl⟩ (fun H locs hd hS => ?_)
  refine lv_aload_n hx hb dL_law_484 rfl (lv_at hl 2 rfl) ?_
  refine lv_aload_n hx hb dL_law_485 rfl (lv_at hl 0 rfl) ?_
  refine lv_iload_n hx hb dL_law_486 rfl (lv_at hl 3 rfl) ?_
  refine lv_iconst (v := 1) hx hb dL_law_487 (by decide) ?_
  refine lv_iadd hx hb dL_law_488 ?_
  refine va_sld hx hb hX hbl hbA hS hi1 dL_law_489 ?_
  refine rc_Vi (rest := [.int r]) (a := 107) [.int (xs (i + 1).toNatClampNeg)] ⟨hx, hb, hml, hown, hts⟩ hK hd hS (c_X10_tips rfl h2) (cwV 1 hts gL_law_X10_tips rfl rfl rfl hv_X10_tips ⟨Nat.le_of_ble_eq_true rfl, Nat.le_of_ble_eq_true rfl⟩) rfl rfl rfl rfl rfl hl.1 rfl (Nat.le_of_ble_eq_true rfl) dL_law_490 ⟨Nat.le_of_ble_eq_true rfl, Nat.le_of_ble_eq_true rfl⟩ (fun H locs hd hS => ?_)
  exact lv_icmp_eq (tgt := 807) hx hb dL_law_493 (by decide) (fun _ => kk μ2 H locs ls hI hd hS hl) (fun q => absurd rfl q)
set_option maxRecDepth 100000 in
theorem lc_fewest {p : Program} {l : Launch} {e : Env} {s : State} {m : MethodId} {below : List Frame} {meth : Method} {c : Code} {D : va_G} {cA : Nat → ClassId} {b L z : Nat} {xs : Nat → Int32} (X : Lk D cA z b L xs p s m meth c) {Inv : Mm → Prop} (hst : Sp3 Inv f_X9_fewest f_X10_fewest) {i : Int32} (hi1 : vp_in (i + 1) L) (hi2 : vp_in (i + 2) L) (hi3 : vp_in (i + 3) L) (kk : Lc Inv D cA z b i p l e s m below meth c) {μ : Mm} {H : Heap} {locs : List Loc} {ls : Array Slot} (hI : Inv μ) (hd : Wd D cA z μ H) (hS : va_S (Az z) s.heap H locs) (hl : lv_has ls 4 [(0, .ref b), (1, .ref (z + 0)), (2, .ref (z + 107)), (3, .int i)]) : LW p l e s m below meth c b H locs (F0 m 498 ls []) := by
  obtain ⟨⟨hx, hb, hr, hml, hown, hts0, hX, hbl, hlk, hgv⟩, hz, hKc⟩ := X
  have hK := hKc.1
  have hbA : ¬ Az z b := by rw [hz]; exact Nat.not_le.mpr hbl
  have hts : ∀ w ∈ wsL_law, w.before #[Value.ref b] s = true := fun w h => hts0 w (wsL_law_in w h)
  obtain ⟨r, μ1, μ2, h1, h2, hI⟩ := hst μ (xs (i + 1).toNatClampNeg) (xs (i + 2).toNatClampNeg) (xs (i + 3).toNatClampNeg) hI
  unfold LW
  refine lv_aload_n hx hb dL_law_498 rfl (lv_at hl 1 rfl) ?_
  refine lv_aload_n hx hb dL_law_499 rfl (lv_at hl 0 rfl) ?_
  refine lv_iload_n hx hb dL_law_500 rfl (lv_at hl 3 rfl) ?_
  refine lv_iconst (v := 1) hx hb dL_law_501 (by decide) ?_
  refine lv_iadd hx hb dL_law_502 ?_
  refine va_sld hx hb hX hbl hbA hS hi1 dL_law_503 ?_
  refine lv_aload_n hx hb dL_law_504 rfl (lv_at hl 0 rfl) ?_
  refine lv_iload_n hx hb dL_law_505 rfl (lv_at hl 3 rfl) ?_
  refine lv_iconst (v := 2) hx hb dL_law_506 (by decide) ?_
  refine lv_iadd hx hb dL_law_507 ?_
  refine va_sld hx hb hX hbl hbA hS hi2 dL_law_508 ?_
  refine lv_aload_n hx hb dL_law_509 rfl (lv_at hl 0 rfl) ?_
  refine lv_iload_n hx hb dL_law_510 rfl (lv_at hl 3 rfl) ?_
  refine lv_iconst (v := 3) hx hb dL_law_511 (by decide) ?_
  refine lv_iadd hx hb dL_law_512 ?_
  refine va_sld hx hb hX hbl hbA hS hi3 dL_law_513 ?_
  refine rc_Vi (rest := []) (a := 0) [.int (xs (i + 1).toNatClampNeg), .int (xs (i + 2).toNatClampNeg), .int (xs (i + 3).toNatClampNeg)] ⟨hx, hb, hml, hown, hts⟩ hK hd hS (c_X9_fewest rfl h1) (cwV 3 hts gL_law_X9_fewest rfl rfl rfl hv_X9_fewest ⟨Nat.le_of_ble_eq_true rfl, Nat.le_of_ble_eq_true rfl⟩) rfl rfl rfl rfl rfl hl.1 rfl (Nat.le_of_ble_eq_true rfl) dL_law_514 ⟨Nat.le_of_ble_eq_true rfl, Nat.le_of_ble_eq_true rfl⟩ (fun H locs hd hS => ?_)
  refine lv_aload_n hx hb dL_law_517 rfl (lv_at hl 2 rfl) ?_
  refine lv_aload_n hx hb dL_law_518 rfl (lv_at hl 0 rfl) ?_
  refine lv_iload_n hx hb dL_law_519 rfl (lv_at hl 3 rfl) ?_
  refine lv_iconst (v := 1) hx hb dL_law_520 (by decide) ?_
  refine lv_iadd hx hb dL_law_521 ?_
  refine va_sld hx hb hX hbl hbA hS hi1 dL_law_522 ?_
  refine lv_aload_n hx hb dL_law_523 rfl (lv_at hl 0 rfl) ?_
  refine lv_iload_n hx hb dL_law_524 rfl (lv_at hl 3 rfl) ?_
  refine lv_iconst (v := 2) hx hb dL_law_525 (by decide) ?_
  refine lv_iadd hx hb dL_law_526 ?_
  refine va_sld hx hb hX hbl hbA hS hi2 dL_law_527 ?_
  refine lv_aload_n hx hb dL_law_528 rfl (lv_at hl 0 rfl) ?_
  refine lv_iload_n hx hb dL_law_529 rfl (lv_at hl 3 rfl) ?_
  refine lv_iconst (v := 3) hx hb dL_law_530 (by decide) ?_
  refine lv_iadd hx hb dL_law_531 ?_
  refine va_sld hx hb hX hbl hbA hS hi3 dL_law_532 ?_
  refine rc_Vi (rest := [.int r]) (a := 107) [.int (xs (i + 1).toNatClampNeg), .int (xs (i + 2).toNatClampNeg), .int (xs (i + 3).toNatClampNeg)] ⟨hx, hb, hml, hown, hts⟩ hK hd hS (c_X10_fewest rfl h2) (cwV 3 hts gL_law_X10_fewest rfl rfl rfl hv_X10_fewest ⟨Nat.le_of_ble_eq_true rfl, Nat.le_of_ble_eq_true rfl⟩) rfl rfl rfl rfl rfl hl.1 rfl (Nat.le_of_ble_eq_true rfl) dL_law_533 ⟨Nat.le_of_ble_eq_true rfl, Nat.le_of_ble_eq_true rfl⟩ (fun H locs hd hS => ?_)
  exact lv_icmp_eq (tgt := 807) hx hb dL_law_536 (by decide) (fun _ => kk μ2 H locs ls hI hd hS hl) (fun q => absurd rfl q)
set_option maxRecDepth 100000 in
theorem lc_carry {p : Program} {l : Launch} {e : Env} {s : State} {m : MethodId} {below : List Frame} {meth : Method} {c : Code} {D : va_G} {cA : Nat → ClassId} {b L z : Nat} {xs : Nat → Int32} (X : Lk D cA z b L xs p s m meth c) {Inv : Mm → Prop} (hst : Sp0 Inv f_X9_carry f_X10_carry) {i : Int32} (kk : Lc Inv D cA z b i p l e s m below meth c) {μ : Mm} {H : Heap} {locs : List Loc} {ls : Array Slot} (hI : Inv μ) (hd : Wd D cA z μ H) (hS : va_S (Az z) s.heap H locs) (hl : lv_has ls 4 [(0, .ref b), (1, .ref (z + 0)), (2, .ref (z + 107)), (3, .int i)]) : LW p l e s m below meth c b H locs (F0 m 541 ls []) := by
  obtain ⟨⟨hx, hb, hr, hml, hown, hts0, hX, hbl, hlk, hgv⟩, hz, hKc⟩ := X
  have hK := hKc.1
  have hbA : ¬ Az z b := by rw [hz]; exact Nat.not_le.mpr hbl
  have hts : ∀ w ∈ wsL_law, w.before #[Value.ref b] s = true := fun w h => hts0 w (wsL_law_in w h)
  obtain ⟨r, μ1, μ2, h1, h2, hI⟩ := hst μ  hI
  unfold LW
  refine lv_aload_n hx hb dL_law_541 rfl (lv_at hl 1 rfl) ?_
  refine rc_Vi (rest := []) (a := 0) [] ⟨hx, hb, hml, hown, hts⟩ hK hd hS (c_X9_carry rfl h1) (cwV 0 hts gL_law_X9_carry rfl rfl rfl hv_X9_carry ⟨Nat.le_of_ble_eq_true rfl, Nat.le_of_ble_eq_true rfl⟩) rfl rfl rfl rfl rfl hl.1 rfl (Nat.le_of_ble_eq_true rfl) dL_law_542 ⟨Nat.le_of_ble_eq_true rfl, Nat.le_of_ble_eq_true rfl⟩ (fun H locs hd hS => ?_)
  refine lv_aload_n hx hb dL_law_545 rfl (lv_at hl 2 rfl) ?_
  refine rc_Vi (rest := [.int r]) (a := 107) [] ⟨hx, hb, hml, hown, hts⟩ hK hd hS (c_X10_carry rfl h2) (cwV 0 hts gL_law_X10_carry rfl rfl rfl hv_X10_carry ⟨Nat.le_of_ble_eq_true rfl, Nat.le_of_ble_eq_true rfl⟩) rfl rfl rfl rfl rfl hl.1 rfl (Nat.le_of_ble_eq_true rfl) dL_law_546 ⟨Nat.le_of_ble_eq_true rfl, Nat.le_of_ble_eq_true rfl⟩ (fun H locs hd hS => ?_)
  exact lv_icmp_eq (tgt := 807) hx hb dL_law_549 (by decide) (fun _ => kk μ2 H locs ls hI hd hS hl) (fun q => absurd rfl q)
set_option maxRecDepth 100000 in
theorem lc_waltz {p : Program} {l : Launch} {e : Env} {s : State} {m : MethodId} {below : List Frame} {meth : Method} {c : Code} {D : va_G} {cA : Nat → ClassId} {b L z : Nat} {xs : Nat → Int32} (X : Lk D cA z b L xs p s m meth c) {Inv : Mm → Prop} (hst : Sp1 Inv f_X9_waltz f_X10_waltz) {i : Int32} (hi1 : vp_in (i + 1) L) (kk : Lc Inv D cA z b i p l e s m below meth c) {μ : Mm} {H : Heap} {locs : List Loc} {ls : Array Slot} (hI : Inv μ) (hd : Wd D cA z μ H) (hS : va_S (Az z) s.heap H locs) (hl : lv_has ls 4 [(0, .ref b), (1, .ref (z + 0)), (2, .ref (z + 107)), (3, .int i)]) : LW p l e s m below meth c b H locs (F0 m 554 ls []) := by
  obtain ⟨⟨hx, hb, hr, hml, hown, hts0, hX, hbl, hlk, hgv⟩, hz, hKc⟩ := X
  have hK := hKc.1
  have hbA : ¬ Az z b := by rw [hz]; exact Nat.not_le.mpr hbl
  have hts : ∀ w ∈ wsL_law, w.before #[Value.ref b] s = true := fun w h => hts0 w (wsL_law_in w h)
  obtain ⟨r, μ1, μ2, h1, h2, hI⟩ := hst μ (xs (i + 1).toNatClampNeg) hI
  unfold LW
  refine lv_aload_n hx hb dL_law_554 rfl (lv_at hl 1 rfl) ?_
  refine lv_aload_n hx hb dL_law_555 rfl (lv_at hl 0 rfl) ?_
  refine lv_iload_n hx hb dL_law_556 rfl (lv_at hl 3 rfl) ?_
  refine lv_iconst (v := 1) hx hb dL_law_557 (by decide) ?_
  refine lv_iadd hx hb dL_law_558 ?_
  refine va_sld hx hb hX hbl hbA hS hi1 dL_law_559 ?_
  refine rc_Vi (rest := []) (a := 0) [.int (xs (i + 1).toNatClampNeg)] ⟨hx, hb, hml, hown, hts⟩ hK hd hS (c_X9_waltz rfl h1) (cwV 1 hts gL_law_X9_waltz rfl rfl rfl hv_X9_waltz ⟨Nat.le_of_ble_eq_true rfl, Nat.le_of_ble_eq_true rfl⟩) rfl rfl rfl rfl rfl hl.1 rfl (Nat.le_of_ble_eq_true rfl) dL_law_560 ⟨Nat.le_of_ble_eq_true rfl, Nat.le_of_ble_eq_true rfl⟩ (fun H locs hd hS => ?_)
  refine lv_aload_n hx hb dL_law_563 rfl (lv_at hl 2 rfl) ?_
  refine lv_aload_n hx hb dL_law_564 rfl (lv_at hl 0 rfl) ?_
  refine lv_iload_n hx hb dL_law_565 rfl (lv_at hl 3 rfl) ?_
  refine lv_iconst (v := 1) hx hb dL_law_566 (by decide) ?_
  refine lv_iadd hx hb dL_law_567 ?_
  refine va_sld hx hb hX hbl hbA hS hi1 dL_law_568 ?_
  refine rc_Vi (rest := [.int r]) (a := 107) [.int (xs (i + 1).toNatClampNeg)] ⟨hx, hb, hml, hown, hts⟩ hK hd hS (c_X10_waltz rfl h2) (cwV 1 hts gL_law_X10_waltz rfl rfl rfl hv_X10_waltz ⟨Nat.le_of_ble_eq_true rfl, Nat.le_of_ble_eq_true rfl⟩) rfl rfl rfl rfl rfl hl.1 rfl (Nat.le_of_ble_eq_true rfl) dL_law_569 ⟨Nat.le_of_ble_eq_true rfl, Nat.le_of_ble_eq_true rfl⟩ (fun H locs hd hS => ?_)
  exact lv_icmp_eq (tgt := 807) hx hb dL_law_572 (by decide) (fun _ => kk μ2 H locs ls hI hd hS hl) (fun q => absurd rfl q)
set_option maxRecDepth 100000 in
theorem lc_recount {p : Program} {l : Launch} {e : Env} {s : State} {m : MethodId} {below : List Frame} {meth : Method} {c : Code} {D : va_G} {cA : Nat → ClassId} {b L z : Nat} {xs : Nat → Int32} (X : Lk D cA z b L xs p s m meth c) {Inv : Mm → Prop} (hst : Sp2 Inv f_X9_recount f_X10_recount) {i : Int32} (hi1 : vp_in (i + 1) L) (hi2 : vp_in (i + 2) L) (kk : Lc Inv D cA z b i p l e s m below meth c) {μ : Mm} {H : Heap} {locs : List Loc} {ls : Array Slot} (hI : Inv μ) (hd : Wd D cA z μ H) (hS : va_S (Az z) s.heap H locs) (hl : lv_has ls 4 [(0, .ref b), (1, .ref (z + 0)), (2, .ref (z + 107)), (3, .int i)]) : LW p l e s m below meth c b H locs (F0 m 577 ls []) := by
  obtain ⟨⟨hx, hb, hr, hml, hown, hts0, hX, hbl, hlk, hgv⟩, hz, hKc⟩ := X
  have hK := hKc.1
  have hbA : ¬ Az z b := by rw [hz]; exact Nat.not_le.mpr hbl
  have hts : ∀ w ∈ wsL_law, w.before #[Value.ref b] s = true := fun w h => hts0 w (wsL_law_in w h)
  obtain ⟨r, μ1, μ2, h1, h2, hI⟩ := hst μ (xs (i + 1).toNatClampNeg) (xs (i + 2).toNatClampNeg) hI
  unfold LW
  refine lv_aload_n hx hb dL_law_577 rfl (lv_at hl 1 rfl) ?_
  refine lv_aload_n hx hb dL_law_578 rfl (lv_at hl 0 rfl) ?_
  refine lv_iload_n hx hb dL_law_579 rfl (lv_at hl 3 rfl) ?_
  refine lv_iconst (v := 1) hx hb dL_law_580 (by decide) ?_
  refine lv_iadd hx hb dL_law_581 ?_
  refine va_sld hx hb hX hbl hbA hS hi1 dL_law_582 ?_
  refine lv_aload_n hx hb dL_law_583 rfl (lv_at hl 0 rfl) ?_
  refine lv_iload_n hx hb dL_law_584 rfl (lv_at hl 3 rfl) ?_
  refine lv_iconst (v := 2) hx hb dL_law_585 (by decide) ?_
  refine lv_iadd hx hb dL_law_586 ?_
  refine va_sld hx hb hX hbl hbA hS hi2 dL_law_587 ?_
  refine rc_Vi (rest := []) (a := 0) [.int (xs (i + 1).toNatClampNeg), .int (xs (i + 2).toNatClampNeg)] ⟨hx, hb, hml, hown, hts⟩ hK hd hS (c_X9_recount rfl h1) (cwV 2 hts gL_law_X9_recount rfl rfl rfl hv_X9_recount ⟨Nat.le_of_ble_eq_true rfl, Nat.le_of_ble_eq_true rfl⟩) rfl rfl rfl rfl rfl hl.1 rfl (Nat.le_of_ble_eq_true rfl) dL_law_588 ⟨Nat.le_of_ble_eq_true rfl, Nat.le_of_ble_eq_true rfl⟩ (fun H locs hd hS => ?_)
  refine lv_aload_n hx hb dL_law_591 rfl (lv_at hl 2 rfl) ?_
  refine lv_aload_n hx hb dL_law_592 rfl (lv_at hl 0 rfl) ?_
  refine lv_iload_n hx hb dL_law_593 rfl (lv_at hl 3 rfl) ?_
  refine lv_iconst (v := 1) hx hb dL_law_594 (by decide) ?_
  refine lv_iadd hx hb dL_law_595 ?_
  refine va_sld hx hb hX hbl hbA hS hi1 dL_law_596 ?_
  refine lv_aload_n hx hb dL_law_597 rfl (lv_at hl 0 rfl) ?_
  refine lv_iload_n hx hb dL_law_598 rfl (lv_at hl 3 rfl) ?_
  refine lv_iconst (v := 2) hx hb dL_law_599 (by decide) ?_
  refine lv_iadd hx hb dL_law_600 ?_
  refine va_sld hx hb hX hbl hbA hS hi2 dL_law_601 ?_
  refine rc_Vi (rest := [.int r]) (a := 107) [.int (xs (i + 1).toNatClampNeg), .int (xs (i + 2).toNatClampNeg)] ⟨hx, hb, hml, hown, hts⟩ hK hd hS (c_X10_recount rfl h2) (cwV 2 hts gL_law_X10_recount rfl rfl rfl hv_X10_recount ⟨Nat.le_of_ble_eq_true rfl, Nat.le_of_ble_eq_true rfl⟩) rfl rfl rfl rfl rfl hl.1 rfl (Nat.le_of_ble_eq_true rfl) dL_law_602 ⟨Nat.le_of_ble_eq_true rfl, Nat.le_of_ble_eq_true rfl⟩ (fun H locs hd hS => ?_)
  exact lv_icmp_eq (tgt := 807) hx hb dL_law_605 (by decide) (fun _ => kk μ2 H locs ls hI hd hS hl) (fun q => absurd rfl q)
set_option maxRecDepth 100000 in
theorem lc_see {p : Program} {l : Launch} {e : Env} {s : State} {m : MethodId} {below : List Frame} {meth : Method} {c : Code} {D : va_G} {cA : Nat → ClassId} {b L z : Nat} {xs : Nat → Int32} (X : Lk D cA z b L xs p s m meth c) {Inv : Mm → Prop} (hst : Sp2 Inv f_X9_see f_X10_see) {i : Int32} (hi1 : vp_in (i + 1) L) (hi2 : vp_in (i + 2) L) (kk : Lc Inv D cA z b i p l e s m below meth c) {μ : Mm} {H : Heap} {locs : List Loc} {ls : Array Slot} (hI : Inv μ) (hd : Wd D cA z μ H) (hS : va_S (Az z) s.heap H locs) (hl : lv_has ls 4 [(0, .ref b), (1, .ref (z + 0)), (2, .ref (z + 107)), (3, .int i)]) : LW p l e s m below meth c b H locs (F0 m 610 ls []) := by
  obtain ⟨⟨hx, hb, hr, hml, hown, hts0, hX, hbl, hlk, hgv⟩, hz, hKc⟩ := X
  have hK := hKc.1
  have hbA : ¬ Az z b := by rw [hz]; exact Nat.not_le.mpr hbl
  have hts : ∀ w ∈ wsL_law, w.before #[Value.ref b] s = true := fun w h => hts0 w (wsL_law_in w h)
  obtain ⟨r, μ1, μ2, h1, h2, hI⟩ := hst μ (xs (i + 1).toNatClampNeg) (xs (i + 2).toNatClampNeg) hI
  unfold LW
  refine lv_aload_n hx hb dL_law_610 rfl (lv_at hl 1 rfl) ?_
  refine lv_aload_n hx hb dL_law_611 rfl (lv_at hl 0 rfl) ?_
  refine lv_iload_n hx hb dL_law_612 rfl (lv_at hl 3 rfl) ?_
  refine lv_iconst (v := 1) hx hb dL_law_613 (by decide) ?_
  refine lv_iadd hx hb dL_law_614 ?_
  refine va_sld hx hb hX hbl hbA hS hi1 dL_law_615 ?_
  refine lv_aload_n hx hb dL_law_616 rfl (lv_at hl 0 rfl) ?_
  refine lv_iload_n hx hb dL_law_617 rfl (lv_at hl 3 rfl) ?_
  refine lv_iconst (v := 2) hx hb dL_law_618 (by decide) ?_
  refine lv_iadd hx hb dL_law_619 ?_
  refine va_sld hx hb hX hbl hbA hS hi2 dL_law_620 ?_
  refine rc_Vi (rest := []) (a := 0) [.int (xs (i + 1).toNatClampNeg), .int (xs (i + 2).toNatClampNeg)] ⟨hx, hb, hml, hown, hts⟩ hK hd hS (c_X9_see rfl h1) (cwV 2 hts gL_law_X9_see rfl rfl rfl hv_X9_see ⟨Nat.le_of_ble_eq_true rfl, Nat.le_of_ble_eq_true rfl⟩) rfl rfl rfl rfl rfl hl.1 rfl (Nat.le_of_ble_eq_true rfl) dL_law_621 ⟨Nat.le_of_ble_eq_true rfl, Nat.le_of_ble_eq_true rfl⟩ (fun H locs hd hS => ?_)
  refine lv_aload_n hx hb dL_law_624 rfl (lv_at hl 2 rfl) ?_
  refine lv_aload_n hx hb dL_law_625 rfl (lv_at hl 0 rfl) ?_
  refine lv_iload_n hx hb dL_law_626 rfl (lv_at hl 3 rfl) ?_
  refine lv_iconst (v := 1) hx hb dL_law_627 (by decide) ?_
  refine lv_iadd hx hb dL_law_628 ?_
  refine va_sld hx hb hX hbl hbA hS hi1 dL_law_629 ?_
  refine lv_aload_n hx hb dL_law_630 rfl (lv_at hl 0 rfl) ?_
  refine lv_iload_n hx hb dL_law_631 rfl (lv_at hl 3 rfl) ?_
  refine lv_iconst (v := 2) hx hb dL_law_632 (by decide) ?_
  refine lv_iadd hx hb dL_law_633 ?_
  refine va_sld hx hb hX hbl hbA hS hi2 dL_law_634 ?_
  refine rc_Vi (rest := [.int r]) (a := 107) [.int (xs (i + 1).toNatClampNeg), .int (xs (i + 2).toNatClampNeg)] ⟨hx, hb, hml, hown, hts⟩ hK hd hS (c_X10_see rfl h2) (cwV 2 hts gL_law_X10_see rfl rfl rfl hv_X10_see ⟨Nat.le_of_ble_eq_true rfl, Nat.le_of_ble_eq_true rfl⟩) rfl rfl rfl rfl rfl hl.1 rfl (Nat.le_of_ble_eq_true rfl) dL_law_635 ⟨Nat.le_of_ble_eq_true rfl, Nat.le_of_ble_eq_true rfl⟩ (fun H locs hd hS => ?_)
  exact lv_icmp_eq (tgt := 807) hx hb dL_law_638 (by decide) (fun _ => kk μ2 H locs ls hI hd hS hl) (fun q => absurd rfl q)
set_option maxRecDepth 100000 in
theorem lc_stood {p : Program} {l : Launch} {e : Env} {s : State} {m : MethodId} {below : List Frame} {meth : Method} {c : Code} {D : va_G} {cA : Nat → ClassId} {b L z : Nat} {xs : Nat → Int32} (X : Lk D cA z b L xs p s m meth c) {Inv : Mm → Prop} (hst : Sp1 Inv f_X9_stood f_X10_stood) {i : Int32} (hi1 : vp_in (i + 1) L) (kk : Lc Inv D cA z b i p l e s m below meth c) {μ : Mm} {H : Heap} {locs : List Loc} {ls : Array Slot} (hI : Inv μ) (hd : Wd D cA z μ H) (hS : va_S (Az z) s.heap H locs) (hl : lv_has ls 4 [(0, .ref b), (1, .ref (z + 0)), (2, .ref (z + 107)), (3, .int i)]) : LW p l e s m below meth c b H locs (F0 m 643 ls []) := by
  obtain ⟨⟨hx, hb, hr, hml, hown, hts0, hX, hbl, hlk, hgv⟩, hz, hKc⟩ := X
  have hK := hKc.1
  have hbA : ¬ Az z b := by rw [hz]; exact Nat.not_le.mpr hbl
  have hts : ∀ w ∈ wsL_law, w.before #[Value.ref b] s = true := fun w h => hts0 w (wsL_law_in w h)
  obtain ⟨r, μ1, μ2, h1, h2, hI⟩ := hst μ (xs (i + 1).toNatClampNeg) hI
  unfold LW
  refine lv_aload_n hx hb dL_law_643 rfl (lv_at hl 1 rfl) ?_
  refine lv_aload_n hx hb dL_law_644 rfl (lv_at hl 0 rfl) ?_
  refine lv_iload_n hx hb dL_law_645 rfl (lv_at hl 3 rfl) ?_
  refine lv_iconst (v := 1) hx hb dL_law_646 (by decide) ?_
  refine lv_iadd hx hb dL_law_647 ?_
  refine va_sld hx hb hX hbl hbA hS hi1 dL_law_648 ?_
  refine rc_Vi (rest := []) (a := 0) [.int (xs (i + 1).toNatClampNeg)] ⟨hx, hb, hml, hown, hts⟩ hK hd hS (c_X9_stood rfl h1) (cwV 1 hts gL_law_X9_stood rfl rfl rfl hv_X9_stood ⟨Nat.le_of_ble_eq_true rfl, Nat.le_of_ble_eq_true rfl⟩) rfl rfl rfl rfl rfl hl.1 rfl (Nat.le_of_ble_eq_true rfl) dL_law_649 ⟨Nat.le_of_ble_eq_true rfl, Nat.le_of_ble_eq_true rfl⟩ (fun H locs hd hS => ?_)
  refine lv_aload_n hx hb dL_law_652 rfl (lv_at hl 2 rfl) ?_
  refine lv_aload_n hx hb dL_law_653 rfl (lv_at hl 0 rfl) ?_
  refine lv_iload_n hx hb dL_law_654 rfl (lv_at hl 3 rfl) ?_
  refine lv_iconst (v := 1) hx hb dL_law_655 (by decide) ?_
  refine lv_iadd hx hb dL_law_656 ?_
  refine va_sld hx hb hX hbl hbA hS hi1 dL_law_657 ?_
  refine rc_Vi (rest := [.int r]) (a := 107) [.int (xs (i + 1).toNatClampNeg)] ⟨hx, hb, hml, hown, hts⟩ hK hd hS (c_X10_stood rfl h2) (cwV 1 hts gL_law_X10_stood rfl rfl rfl hv_X10_stood ⟨Nat.le_of_ble_eq_true rfl, Nat.le_of_ble_eq_true rfl⟩) rfl rfl rfl rfl rfl hl.1 rfl (Nat.le_of_ble_eq_true rfl) dL_law_658 ⟨Nat.le_of_ble_eq_true rfl, Nat.le_of_ble_eq_true rfl⟩ (fun H locs hd hS => ?_)
  exact lv_icmp_eq (tgt := 807) hx hb dL_law_661 (by decide) (fun _ => kk μ2 H locs ls hI hd hS hl) (fun q => absurd rfl q)
set_option maxRecDepth 100000 in
theorem lc_look {p : Program} {l : Launch} {e : Env} {s : State} {m : MethodId} {below : List Frame} {meth : Method} {c : Code} {D : va_G} {cA : Nat → ClassId} {b L z : Nat} {xs : Nat → Int32} (X : Lk D cA z b L xs p s m meth c) {Inv : Mm → Prop} (hst : Sp0 Inv f_X9_look f_X10_look) {i : Int32} (kk : Lc Inv D cA z b i p l e s m below meth c) {μ : Mm} {H : Heap} {locs : List Loc} {ls : Array Slot} (hI : Inv μ) (hd : Wd D cA z μ H) (hS : va_S (Az z) s.heap H locs) (hl : lv_has ls 4 [(0, .ref b), (1, .ref (z + 0)), (2, .ref (z + 107)), (3, .int i)]) : LW p l e s m below meth c b H locs (F0 m 666 ls []) := by
  obtain ⟨⟨hx, hb, hr, hml, hown, hts0, hX, hbl, hlk, hgv⟩, hz, hKc⟩ := X
  have hK := hKc.1
  have hbA : ¬ Az z b := by rw [hz]; exact Nat.not_le.mpr hbl
  have hts : ∀ w ∈ wsL_law, w.before #[Value.ref b] s = true := fun w h => hts0 w (wsL_law_in w h)
  obtain ⟨r, μ1, μ2, h1, h2, hI⟩ := hst μ  hI
  unfold LW
  refine lv_aload_n hx hb dL_law_666 rfl (lv_at hl 1 rfl) ?_
  refine rc_Vi (rest := []) (a := 0) [] ⟨hx, hb, hml, hown, hts⟩ hK hd hS (c_X9_look rfl h1) (cwV 0 hts gL_law_X9_look rfl rfl rfl hv_X9_look ⟨Nat.le_of_ble_eq_true rfl, Nat.le_of_ble_eq_true rfl⟩) rfl rfl rfl rfl rfl hl.1 rfl (Nat.le_of_ble_eq_true rfl) dL_law_667 ⟨Nat.le_of_ble_eq_true rfl, Nat.le_of_ble_eq_true rfl⟩ (fun H locs hd hS => ?_)
  refine lv_aload_n hx hb dL_law_670 rfl (lv_at hl 2 rfl) ?_
  refine rc_Vi (rest := [.int r]) (a := 107) [] ⟨hx, hb, hml, hown, hts⟩ hK hd hS (c_X10_look rfl h2) (cwV 0 hts gL_law_X10_look rfl rfl rfl hv_X10_look ⟨Nat.le_of_ble_eq_true rfl, Nat.le_of_ble_eq_true rfl⟩) rfl rfl rfl rfl rfl hl.1 rfl (Nat.le_of_ble_eq_true rfl) dL_law_671 ⟨Nat.le_of_ble_eq_true rfl, Nat.le_of_ble_eq_true rfl⟩ (fun H locs hd hS => ?_)
  exact lv_icmp_eq (tgt := 807) hx hb dL_law_674 (by decide) (fun _ => kk μ2 H locs ls hI hd hS hl) (fun q => absurd rfl q)
set_option maxRecDepth 100000 in
theorem lc_write {p : Program} {l : Launch} {e : Env} {s : State} {m : MethodId} {below : List Frame} {meth : Method} {c : Code} {D : va_G} {cA : Nat → ClassId} {b L z : Nat} {xs : Nat → Int32} (X : Lk D cA z b L xs p s m meth c) {Inv : Mm → Prop} (hst : Sp2 Inv f_X9_write f_X10_write) {i : Int32} (hi1 : vp_in (i + 1) L) (hi2 : vp_in (i + 2) L) (kk : Lc Inv D cA z b i p l e s m below meth c) {μ : Mm} {H : Heap} {locs : List Loc} {ls : Array Slot} (hI : Inv μ) (hd : Wd D cA z μ H) (hS : va_S (Az z) s.heap H locs) (hl : lv_has ls 4 [(0, .ref b), (1, .ref (z + 0)), (2, .ref (z + 107)), (3, .int i)]) : LW p l e s m below meth c b H locs (F0 m 679 ls []) := by
  obtain ⟨⟨hx, hb, hr, hml, hown, hts0, hX, hbl, hlk, hgv⟩, hz, hKc⟩ := X
  have hK := hKc.1
  have hbA : ¬ Az z b := by rw [hz]; exact Nat.not_le.mpr hbl
  have hts : ∀ w ∈ wsL_law, w.before #[Value.ref b] s = true := fun w h => hts0 w (wsL_law_in w h)
  obtain ⟨r, μ1, μ2, h1, h2, hI⟩ := hst μ (xs (i + 1).toNatClampNeg) (xs (i + 2).toNatClampNeg) hI
  unfold LW
  refine lv_aload_n hx hb dL_law_679 rfl (lv_at hl 1 rfl) ?_
  refine lv_aload_n hx hb dL_law_680 rfl (lv_at hl 0 rfl) ?_
  refine lv_iload_n hx hb dL_law_681 rfl (lv_at hl 3 rfl) ?_
  refine lv_iconst (v := 1) hx hb dL_law_682 (by decide) ?_
  refine lv_iadd hx hb dL_law_683 ?_
  refine va_sld hx hb hX hbl hbA hS hi1 dL_law_684 ?_
  refine lv_aload_n hx hb dL_law_685 rfl (lv_at hl 0 rfl) ?_
  refine lv_iload_n hx hb dL_law_686 rfl (lv_at hl 3 rfl) ?_
  refine lv_iconst (v := 2) hx hb dL_law_687 (by decide) ?_
  refine lv_iadd hx hb dL_law_688 ?_
  refine va_sld hx hb hX hbl hbA hS hi2 dL_law_689 ?_
  refine rc_Vi (rest := []) (a := 0) [.int (xs (i + 1).toNatClampNeg), .int (xs (i + 2).toNatClampNeg)] ⟨hx, hb, hml, hown, hts⟩ hK hd hS (c_X9_write rfl h1) (cwV 2 hts gL_law_X9_write rfl rfl rfl hv_X9_write ⟨Nat.le_of_ble_eq_true rfl, Nat.le_of_ble_eq_true rfl⟩) rfl rfl rfl rfl rfl hl.1 rfl (Nat.le_of_ble_eq_true rfl) dL_law_690 ⟨Nat.le_of_ble_eq_true rfl, Nat.le_of_ble_eq_true rfl⟩ (fun H locs hd hS => ?_)
  refine lv_aload_n hx hb dL_law_693 rfl (lv_at hl 2 rfl) ?_
  refine lv_aload_n hx hb dL_law_694 rfl (lv_at hl 0 rfl) ?_
  refine lv_iload_n hx hb dL_law_695 rfl (lv_at hl 3 rfl) ?_
  refine lv_iconst (v := 1) hx hb dL_law_696 (by decide) ?_
  refine lv_iadd hx hb dL_law_697 ?_
  refine va_sld hx hb hX hbl hbA hS hi1 dL_law_698 ?_
  refine lv_aload_n hx hb dL_law_699 rfl (lv_at hl 0 rfl) ?_
  refine lv_iload_n hx hb dL_law_700 rfl (lv_at hl 3 rfl) ?_
  refine lv_iconst (v := 2) hx hb dL_law_701 (by decide) ?_
  refine lv_iadd hx hb dL_law_702 ?_
  refine va_sld hx hb hX hbl hbA hS hi2 dL_law_703 ?_
  refine rc_Vi (rest := [.int r]) (a := 107) [.int (xs (i + 1).toNatClampNeg), .int (xs (i + 2).toNatClampNeg)] ⟨hx, hb, hml, hown, hts⟩ hK hd hS (c_X10_write rfl h2) (cwV 2 hts gL_law_X10_write rfl rfl rfl hv_X10_write ⟨Nat.le_of_ble_eq_true rfl, Nat.le_of_ble_eq_true rfl⟩) rfl rfl rfl rfl rfl hl.1 rfl (Nat.le_of_ble_eq_true rfl) dL_law_704 ⟨Nat.le_of_ble_eq_true rfl, Nat.le_of_ble_eq_true rfl⟩ (fun H locs hd hS => ?_)
  exact lv_icmp_eq (tgt := 807) hx hb dL_law_707 (by decide) (fun _ => kk μ2 H locs ls hI hd hS hl) (fun q => absurd rfl q)
set_option maxRecDepth 100000 in
theorem lc_tear {p : Program} {l : Launch} {e : Env} {s : State} {m : MethodId} {below : List Frame} {meth : Method} {c : Code} {D : va_G} {cA : Nat → ClassId} {b L z : Nat} {xs : Nat → Int32} (X : Lk D cA z b L xs p s m meth c) {Inv : Mm → Prop} (hst : Sp0 Inv f_X9_tear f_X10_tear) {i : Int32} (kk : Lc Inv D cA z b i p l e s m below meth c) {μ : Mm} {H : Heap} {locs : List Loc} {ls : Array Slot} (hI : Inv μ) (hd : Wd D cA z μ H) (hS : va_S (Az z) s.heap H locs) (hl : lv_has ls 4 [(0, .ref b), (1, .ref (z + 0)), (2, .ref (z + 107)), (3, .int i)]) : LW p l e s m below meth c b H locs (F0 m 712 ls []) := by
  obtain ⟨⟨hx, hb, hr, hml, hown, hts0, hX, hbl, hlk, hgv⟩, hz, hKc⟩ := X
  have hK := hKc.1
  have hbA : ¬ Az z b := by rw [hz]; exact Nat.not_le.mpr hbl
  have hts : ∀ w ∈ wsL_law, w.before #[Value.ref b] s = true := fun w h => hts0 w (wsL_law_in w h)
  obtain ⟨r, μ1, μ2, h1, h2, hI⟩ := hst μ  hI
  unfold LW
  refine lv_aload_n hx hb dL_law_712 rfl (lv_at hl 1 rfl) ?_
  refine rc_Vi (rest := []) (a := 0) [] ⟨hx, hb, hml, hown, hts⟩ hK hd hS (c_X9_tear rfl h1) (cwV 0 hts gL_law_X9_tear rfl rfl rfl hv_X9_tear ⟨Nat.le_of_ble_eq_true rfl, Nat.le_of_ble_eq_true rfl⟩) rfl rfl rfl rfl rfl hl.1 rfl (Nat.le_of_ble_eq_true rfl) dL_law_713 ⟨Nat.le_of_ble_eq_true rfl, Nat.le_of_ble_eq_true rfl⟩ (fun H locs hd hS => ?_)
  refine lv_aload_n hx hb dL_law_716 rfl (lv_at hl 2 rfl) ?_
  refine rc_Vi (rest := [.int r]) (a := 107) [] ⟨hx, hb, hml, hown, hts⟩ hK hd hS (c_X10_tear rfl h2) (cwV 0 hts gL_law_X10_tear rfl rfl rfl hv_X10_tear ⟨Nat.le_of_ble_eq_true rfl, Nat.le_of_ble_eq_true rfl⟩) rfl rfl rfl rfl rfl hl.1 rfl (Nat.le_of_ble_eq_true rfl) dL_law_717 ⟨Nat.le_of_ble_eq_true rfl, Nat.le_of_ble_eq_true rfl⟩ (fun H locs hd hS => ?_)
  exact lv_icmp_eq (tgt := 807) hx hb dL_law_720 (by decide) (fun _ => kk μ2 H locs ls hI hd hS hl) (fun q => absurd rfl q)
set_option maxRecDepth 100000 in
theorem lc_judge {p : Program} {l : Launch} {e : Env} {s : State} {m : MethodId} {below : List Frame} {meth : Method} {c : Code} {D : va_G} {cA : Nat → ClassId} {b L z : Nat} {xs : Nat → Int32} (X : Lk D cA z b L xs p s m meth c) {Inv : Mm → Prop} (hst : Sp0 Inv f_X9_judge f_X10_judge) {i : Int32} (kk : Lc Inv D cA z b i p l e s m below meth c) {μ : Mm} {H : Heap} {locs : List Loc} {ls : Array Slot} (hI : Inv μ) (hd : Wd D cA z μ H) (hS : va_S (Az z) s.heap H locs) (hl : lv_has ls 4 [(0, .ref b), (1, .ref (z + 0)), (2, .ref (z + 107)), (3, .int i)]) : LW p l e s m below meth c b H locs (F0 m 725 ls []) := by
  obtain ⟨⟨hx, hb, hr, hml, hown, hts0, hX, hbl, hlk, hgv⟩, hz, hKc⟩ := X
  have hK := hKc.1
  have hbA : ¬ Az z b := by rw [hz]; exact Nat.not_le.mpr hbl
  have hts : ∀ w ∈ wsL_law, w.before #[Value.ref b] s = true := fun w h => hts0 w (wsL_law_in w h)
  obtain ⟨r, μ1, μ2, h1, h2, hI⟩ := hst μ  hI
  unfold LW
  refine lv_aload_n hx hb dL_law_725 rfl (lv_at hl 1 rfl) ?_
  refine rc_Vi (rest := []) (a := 0) [] ⟨hx, hb, hml, hown, hts⟩ hK hd hS (c_X9_judge rfl h1) (cwV 0 hts gL_law_X9_judge rfl rfl rfl hv_X9_judge ⟨Nat.le_of_ble_eq_true rfl, Nat.le_of_ble_eq_true rfl⟩) rfl rfl rfl rfl rfl hl.1 rfl (Nat.le_of_ble_eq_true rfl) dL_law_726 ⟨Nat.le_of_ble_eq_true rfl, Nat.le_of_ble_eq_true rfl⟩ (fun H locs hd hS => ?_)
  refine lv_aload_n hx hb dL_law_729 rfl (lv_at hl 2 rfl) ?_
  refine rc_Vi (rest := [.int r]) (a := 107) [] ⟨hx, hb, hml, hown, hts⟩ hK hd hS (c_X10_judge rfl h2) (cwV 0 hts gL_law_X10_judge rfl rfl rfl hv_X10_judge ⟨Nat.le_of_ble_eq_true rfl, Nat.le_of_ble_eq_true rfl⟩) rfl rfl rfl rfl rfl hl.1 rfl (Nat.le_of_ble_eq_true rfl) dL_law_730 ⟨Nat.le_of_ble_eq_true rfl, Nat.le_of_ble_eq_true rfl⟩ (fun H locs hd hS => ?_)
  exact lv_icmp_eq (tgt := 807) hx hb dL_law_733 (by decide) (fun _ => kk μ2 H locs ls hI hd hS hl) (fun q => absurd rfl q)
set_option maxRecDepth 100000 in
theorem lc_seed {p : Program} {l : Launch} {e : Env} {s : State} {m : MethodId} {below : List Frame} {meth : Method} {c : Code} {D : va_G} {cA : Nat → ClassId} {b L z : Nat} {xs : Nat → Int32} (X : Lk D cA z b L xs p s m meth c) {Inv : Mm → Prop} (hst : Sp1 Inv f_X9_seed f_X10_seed) {i : Int32} (hi1 : vp_in (i + 1) L) (kk : Lc Inv D cA z b i p l e s m below meth c) {μ : Mm} {H : Heap} {locs : List Loc} {ls : Array Slot} (hI : Inv μ) (hd : Wd D cA z μ H) (hS : va_S (Az z) s.heap H locs) (hl : lv_has ls 4 [(0, .ref b), (1, .ref (z + 0)), (2, .ref (z + 107)), (3, .int i)]) : LW p l e s m below meth c b H locs (F0 m 738 ls []) := by
  obtain ⟨⟨hx, hb, hr, hml, hown, hts0, hX, hbl, hlk, hgv⟩, hz, hKc⟩ := X
  have hK := hKc.1
  have hbA : ¬ Az z b := by rw [hz]; exact Nat.not_le.mpr hbl
  have hts : ∀ w ∈ wsL_law, w.before #[Value.ref b] s = true := fun w h => hts0 w (wsL_law_in w h)
  obtain ⟨r, μ1, μ2, h1, h2, hI⟩ := hst μ (xs (i + 1).toNatClampNeg) hI
  unfold LW
  refine lv_aload_n hx hb dL_law_738 rfl (lv_at hl 1 rfl) ?_
  refine lv_aload_n hx hb dL_law_739 rfl (lv_at hl 0 rfl) ?_
  refine lv_iload_n hx hb dL_law_740 rfl (lv_at hl 3 rfl) ?_
  refine lv_iconst (v := 1) hx hb dL_law_741 (by decide) ?_
  refine lv_iadd hx hb dL_law_742 ?_
  refine va_sld hx hb hX hbl hbA hS hi1 dL_law_743 ?_
  refine rc_Vi (rest := []) (a := 0) [.int (xs (i + 1).toNatClampNeg)] ⟨hx, hb, hml, hown, hts⟩ hK hd hS (c_X9_seed rfl h1) (cwV 1 hts gL_law_X9_seed rfl rfl rfl hv_X9_seed ⟨Nat.le_of_ble_eq_true rfl, Nat.le_of_ble_eq_true rfl⟩) rfl rfl rfl rfl rfl hl.1 rfl (Nat.le_of_ble_eq_true rfl) dL_law_744 ⟨Nat.le_of_ble_eq_true rfl, Nat.le_of_ble_eq_true rfl⟩ (fun H locs hd hS => ?_)
  refine lv_aload_n hx hb dL_law_747 rfl (lv_at hl 2 rfl) ?_
  refine lv_aload_n hx hb dL_law_748 rfl (lv_at hl 0 rfl) ?_
  refine lv_iload_n hx hb dL_law_749 rfl (lv_at hl 3 rfl) ?_
  refine lv_iconst (v := 1) hx hb dL_law_750 (by decide) ?_
  refine lv_iadd hx hb dL_law_751 ?_
  refine va_sld hx hb hX hbl hbA hS hi1 dL_law_752 ?_
  refine rc_Vi (rest := [.int r]) (a := 107) [.int (xs (i + 1).toNatClampNeg)] ⟨hx, hb, hml, hown, hts⟩ hK hd hS (c_X10_seed rfl h2) (cwV 1 hts gL_law_X10_seed rfl rfl rfl hv_X10_seed ⟨Nat.le_of_ble_eq_true rfl, Nat.le_of_ble_eq_true rfl⟩) rfl rfl rfl rfl rfl hl.1 rfl (Nat.le_of_ble_eq_true rfl) dL_law_753 ⟨Nat.le_of_ble_eq_true rfl, Nat.le_of_ble_eq_true rfl⟩ (fun H locs hd hS => ?_)
  exact lv_icmp_eq (tgt := 807) hx hb dL_law_756 (by decide) (fun _ => kk μ2 H locs ls hI hd hS hl) (fun q => absurd rfl q)
set_option maxRecDepth 100000 in
theorem lc_keep {p : Program} {l : Launch} {e : Env} {s : State} {m : MethodId} {below : List Frame} {meth : Method} {c : Code} {D : va_G} {cA : Nat → ClassId} {b L z : Nat} {xs : Nat → Int32} (X : Lk D cA z b L xs p s m meth c) {Inv : Mm → Prop} (hst : Sp1 Inv f_X9_keep f_X10_keep) {i : Int32} (hi1 : vp_in (i + 1) L) (kk : Lc Inv D cA z b i p l e s m below meth c) {μ : Mm} {H : Heap} {locs : List Loc} {ls : Array Slot} (hI : Inv μ) (hd : Wd D cA z μ H) (hS : va_S (Az z) s.heap H locs) (hl : lv_has ls 4 [(0, .ref b), (1, .ref (z + 0)), (2, .ref (z + 107)), (3, .int i)]) : LW p l e s m below meth c b H locs (F0 m 761 ls []) := by
  obtain ⟨⟨hx, hb, hr, hml, hown, hts0, hX, hbl, hlk, hgv⟩, hz, hKc⟩ := X
  have hK := hKc.1
  have hbA : ¬ Az z b := by rw [hz]; exact Nat.not_le.mpr hbl
  have hts : ∀ w ∈ wsL_law, w.before #[Value.ref b] s = true := fun w h => hts0 w (wsL_law_in w h)
  obtain ⟨r, μ1, μ2, h1, h2, hI⟩ := hst μ (xs (i + 1).toNatClampNeg) hI
  unfold LW
  refine lv_aload_n hx hb dL_law_761 rfl (lv_at hl 1 rfl) ?_
  refine lv_aload_n hx hb dL_law_762 rfl (lv_at hl 0 rfl) ?_
  refine lv_iload_n hx hb dL_law_763 rfl (lv_at hl 3 rfl) ?_
  refine lv_iconst (v := 1) hx hb dL_law_764 (by decide) ?_
  refine lv_iadd hx hb dL_law_765 ?_
  refine va_sld hx hb hX hbl hbA hS hi1 dL_law_766 ?_
  refine rc_Vi (rest := []) (a := 0) [.int (xs (i + 1).toNatClampNeg)] ⟨hx, hb, hml, hown, hts⟩ hK hd hS (c_X9_keep rfl h1) (cwV 1 hts gL_law_X9_keep rfl rfl rfl hv_X9_keep ⟨Nat.le_of_ble_eq_true rfl, Nat.le_of_ble_eq_true rfl⟩) rfl rfl rfl rfl rfl hl.1 rfl (Nat.le_of_ble_eq_true rfl) dL_law_767 ⟨Nat.le_of_ble_eq_true rfl, Nat.le_of_ble_eq_true rfl⟩ (fun H locs hd hS => ?_)
  refine lv_aload_n hx hb dL_law_770 rfl (lv_at hl 2 rfl) ?_
  refine lv_aload_n hx hb dL_law_771 rfl (lv_at hl 0 rfl) ?_
  refine lv_iload_n hx hb dL_law_772 rfl (lv_at hl 3 rfl) ?_
  refine lv_iconst (v := 1) hx hb dL_law_773 (by decide) ?_
  refine lv_iadd hx hb dL_law_774 ?_
  refine va_sld hx hb hX hbl hbA hS hi1 dL_law_775 ?_
  refine rc_Vi (rest := [.int r]) (a := 107) [.int (xs (i + 1).toNatClampNeg)] ⟨hx, hb, hml, hown, hts⟩ hK hd hS (c_X10_keep rfl h2) (cwV 1 hts gL_law_X10_keep rfl rfl rfl hv_X10_keep ⟨Nat.le_of_ble_eq_true rfl, Nat.le_of_ble_eq_true rfl⟩) rfl rfl rfl rfl rfl hl.1 rfl (Nat.le_of_ble_eq_true rfl) dL_law_776 ⟨Nat.le_of_ble_eq_true rfl, Nat.le_of_ble_eq_true rfl⟩ (fun H locs hd hS => ?_)
  exact lv_icmp_eq (tgt := 807) hx hb dL_law_779 (by decide) (fun _ => kk μ2 H locs ls hI hd hS hl) (fun q => absurd rfl q)
set_option maxRecDepth 100000 in
theorem lc_goBack {p : Program} {l : Launch} {e : Env} {s : State} {m : MethodId} {below : List Frame} {meth : Method} {c : Code} {D : va_G} {cA : Nat → ClassId} {b L z : Nat} {xs : Nat → Int32} (X : Lk D cA z b L xs p s m meth c) {Inv : Mm → Prop} (hst : Sp1 Inv f_X9_goBack f_X10_goBack) {i : Int32} (hi1 : vp_in (i + 1) L) (kk : Lc Inv D cA z b i p l e s m below meth c) {μ : Mm} {H : Heap} {locs : List Loc} {ls : Array Slot} (hI : Inv μ) (hd : Wd D cA z μ H) (hS : va_S (Az z) s.heap H locs) (hl : lv_has ls 4 [(0, .ref b), (1, .ref (z + 0)), (2, .ref (z + 107)), (3, .int i)]) : LW p l e s m below meth c b H locs (F0 m 784 ls []) := by
  obtain ⟨⟨hx, hb, hr, hml, hown, hts0, hX, hbl, hlk, hgv⟩, hz, hKc⟩ := X
  have hK := hKc.1
  have hbA : ¬ Az z b := by rw [hz]; exact Nat.not_le.mpr hbl
  have hts : ∀ w ∈ wsL_law, w.before #[Value.ref b] s = true := fun w h => hts0 w (wsL_law_in w h)
  obtain ⟨r, μ1, μ2, h1, h2, hI⟩ := hst μ (xs (i + 1).toNatClampNeg) hI
  unfold LW
  refine lv_aload_n hx hb dL_law_784 rfl (lv_at hl 1 rfl) ?_
  refine lv_aload_n hx hb dL_law_785 rfl (lv_at hl 0 rfl) ?_
  refine lv_iload_n hx hb dL_law_786 rfl (lv_at hl 3 rfl) ?_
  refine lv_iconst (v := 1) hx hb dL_law_787 (by decide) ?_
  refine lv_iadd hx hb dL_law_788 ?_
  refine va_sld hx hb hX hbl hbA hS hi1 dL_law_789 ?_
  refine rc_Vi (rest := []) (a := 0) [.int (xs (i + 1).toNatClampNeg)] ⟨hx, hb, hml, hown, hts⟩ hK hd hS (c_X9_goBack rfl h1) (cwV 1 hts gL_law_X9_goBack rfl rfl rfl hv_X9_goBack ⟨Nat.le_of_ble_eq_true rfl, Nat.le_of_ble_eq_true rfl⟩) rfl rfl rfl rfl rfl hl.1 rfl (Nat.le_of_ble_eq_true rfl) dL_law_790 ⟨Nat.le_of_ble_eq_true rfl, Nat.le_of_ble_eq_true rfl⟩ (fun H locs hd hS => ?_)
  refine lv_aload_n hx hb dL_law_793 rfl (lv_at hl 2 rfl) ?_
  refine lv_aload_n hx hb dL_law_794 rfl (lv_at hl 0 rfl) ?_
  refine lv_iload_n hx hb dL_law_795 rfl (lv_at hl 3 rfl) ?_
  refine lv_iconst (v := 1) hx hb dL_law_796 (by decide) ?_
  refine lv_iadd hx hb dL_law_797 ?_
  refine va_sld hx hb hX hbl hbA hS hi1 dL_law_798 ?_
  refine rc_Vi (rest := [.int r]) (a := 107) [.int (xs (i + 1).toNatClampNeg)] ⟨hx, hb, hml, hown, hts⟩ hK hd hS (c_X10_goBack rfl h2) (cwV 1 hts gL_law_X10_goBack rfl rfl rfl hv_X10_goBack ⟨Nat.le_of_ble_eq_true rfl, Nat.le_of_ble_eq_true rfl⟩) rfl rfl rfl rfl rfl hl.1 rfl (Nat.le_of_ble_eq_true rfl) dL_law_799 ⟨Nat.le_of_ble_eq_true rfl, Nat.le_of_ble_eq_true rfl⟩ (fun H locs hd hS => ?_)
  exact lv_icmp_eq (tgt := 807) hx hb dL_law_802 (by decide) (fun _ => kk μ2 H locs ls hI hd hS hl) (fun q => absurd rfl q)
def SpAll (Inv : Mm → Prop) : Prop := Sp1 Inv f_X9_feed f_X10_feed ∧ Sp0 Inv f_X9_house f_X10_house ∧ Sp0 Inv f_X9_fault f_X10_fault ∧ Sp1 Inv f_X9_told f_X10_told ∧ Sp2 Inv f_X9_cell f_X10_cell ∧ Sp2 Inv f_X9_item f_X10_item ∧ Sp2 Inv f_X9_votes f_X10_votes ∧ Sp3 Inv f_X9_vote f_X10_vote ∧ Sp0 Inv f_X9_session f_X10_session ∧ Sp1 Inv f_X9_drift f_X10_drift ∧ Sp0 Inv f_X9_undo f_X10_undo ∧ Sp2 Inv f_X9_rests f_X10_rests ∧ Sp1 Inv f_X9_pool f_X10_pool ∧ Sp1 Inv f_X9_tips f_X10_tips ∧ Sp3 Inv f_X9_fewest f_X10_fewest ∧ Sp0 Inv f_X9_carry f_X10_carry ∧ Sp1 Inv f_X9_waltz f_X10_waltz ∧ Sp2 Inv f_X9_recount f_X10_recount ∧ Sp2 Inv f_X9_see f_X10_see ∧ Sp1 Inv f_X9_stood f_X10_stood ∧ Sp0 Inv f_X9_look f_X10_look ∧ Sp2 Inv f_X9_write f_X10_write ∧ Sp0 Inv f_X9_tear f_X10_tear ∧ Sp0 Inv f_X9_judge f_X10_judge ∧ Sp1 Inv f_X9_seed f_X10_seed ∧ Sp1 Inv f_X9_keep f_X10_keep ∧ Sp1 Inv f_X9_goBack f_X10_goBack
theorem vp_i {i : Int32} {t L q : Nat} (hi : i = nI t) (hq : t + q < L) (hL : L ≤ 2048) (hv : ∃ v : Int32, v = nI q) : vp_in (i + nI q) L := by
  rw [hi, nI_add]
  exact vp_in_nI hq (by omega)
theorem law_ix {L t : Nat} {i : Int32} (hL : L ≤ 2048) (ht : t ≤ L) (hi : i = nI t) (q : ¬ Int32.ofNat L - 4 < i) : t + 4 ≤ L := by
  rcases Nat.lt_or_ge L (t + 4) with h | h
  · exfalso
    apply q
    rw [hi]
    have h4 : (nI L - nI 4).toInt = (L : Int) - 4 := pk_sub_toInt (by omega) (by omega)
    show nI L - nI 4 < nI t
    rw [Int32.lt_iff_toInt_lt, h4, nI_toInt (by omega)]
    omega
  · exact h
set_option maxRecDepth 100000 in
set_option maxHeartbeats 4000000 in
theorem law_loop {p : Program} {l : Launch} {e : Env} {s : State} {m : MethodId} {below : List Frame} {meth : Method} {c : Code} {D : va_G} {cA : Nat → ClassId} {b L z : Nat} {xs : Nat → Int32} (hL : L ≤ 2048) (X : Lk D cA z b L xs p s m meth c) {Inv : Mm → Prop} (HS : SpAll Inv) : ∀ (n t : Nat) (μ : Mm) (H : Heap) (locs : List Loc) (ls : Array Slot) (i : Int32), t ≤ L → L - t < n → i = nI t → Inv μ → Wd D cA z μ H → va_S (Az z) s.heap H locs → lv_has ls 4 [(0, .ref b), (1, .ref (z + 0)), (2, .ref (z + 107)), (3, .int i)] → LW p l e s m below meth c b H locs (F0 m 18 ls []) := by
  obtain ⟨s0, s1, s2, s3, s4, s5, s6, s7, s8, s9, s10, s11, s12, s13, s14, s15, s16, s17, s18, s19, s20, s21, s22, s23, s24, s25, s26⟩ := HS
  intro n
  induction n with
  | zero => intro t μ H locs ls i _ h; omega
  | succ n ih =>
    intro t μ H locs ls i htL htn hi hI hd hS hl
    obtain ⟨⟨hx, hb, hr, hml, hown, hts0, hX, hbl, hlk, hgv⟩, hz, hKc⟩ := id X
    have hbA : ¬ Az z b := by rw [hz]; exact Nat.not_le.mpr hbl
    unfold LW
    refine lv_iload_n hx hb dL_law_18 rfl (lv_at hl 3 rfl) ?_
    refine lv_aload_n hx hb dL_law_19 rfl (lv_at hl 0 rfl) ?_
    refine va_slen hx hb hX hbl hbA hS dL_law_20 ?_
    refine lv_iconst (v := 4) hx hb dL_law_21 (by decide) ?_
    refine lv_isub hx hb dL_law_22 ?_
    refine lv_icmp_gt (tgt := 813) hx hb dL_law_23 (by decide) (fun q => ?_) (fun q => ?_)
    · refine va_forget (fun q hq => by have := hS.2.2 q hq; rw [hz] at this; exact this) ?_
      refine lv_iconst (v := 1) hx hb dL_law_813 (by decide) ?_
      refine W.widen (k := 600000) (n := 7302250) (by omega) (by omega) ?_
      exact lw_ret hx hb hr hlk dL_law_814
    · have hlt : t + 4 ≤ L := law_ix hL htL hi q
      have hi0 : vp_in i L := by rw [hi]; exact vp_in_nI (by omega) (by omega)
      have hi1 : vp_in (i + 1) L := vp_i (q := 1) hi (by omega) hL ⟨_, rfl⟩
      have hi2 : vp_in (i + 2) L := vp_i (q := 2) hi (by omega) hL ⟨_, rfl⟩
      have hi3 : vp_in (i + 3) L := vp_i (q := 3) hi (by omega) hL ⟨_, rfl⟩
      have kk : Lc Inv D cA z b i p l e s m below meth c := by
        intro μ H locs ls hI hd hS hl
        unfold LW
        refine lv_iinc (v := i + 4) (lv' := [(3, .int (i + 4)), (0, .ref b), (1, .ref (z + 0)), (2, .ref (z + 107))]) hx hb dL_law_807 hl (k := 3) rfl rfl (by decide) rfl (fun ls hl => ?_)
        refine lv_goto (tgt := 18) hx hb dL_law_810 (by decide) ?_
        exact ih (t + 4) μ H locs ls (i + 4) hlt (by omega) (by rw [hi]; exact nI_add t 4) hI hd hS (lv_sub hl [1, 2, 3, 0] rfl)
      refine lv_aload_n hx hb dL_law_26 rfl (lv_at hl 0 rfl) ?_
      refine lv_iload_n hx hb dL_law_27 rfl (lv_at hl 3 rfl) ?_
      refine va_sld hx hb hX hbl hbA hS hi0 dL_law_28 ?_
      refine lv_bipush (v := 31) hx hb dL_law_29 (by decide) ?_
      refine lv_iand hx hb dL_law_31 ?_
      refine lv_topi (fun w ew => ?_)
      by_cases q0 : w = 0
      · refine lv_tableIn (off := 124) (tgt := 156) hx hb dL_law_32 (by rw [q0]; decide) (by rw [q0]; decide) (by rw [q0]; rfl) (by decide) ?_
        exact lc_feed X s0 hi1 kk hI hd hS hl
      by_cases q1 : w = 1
      · refine lv_tableIn (off := 147) (tgt := 179) hx hb dL_law_32 (by rw [q1]; decide) (by rw [q1]; decide) (by rw [q1]; rfl) (by decide) ?_
        exact lc_house X s1  kk hI hd hS hl
      by_cases q2 : w = 2
      · refine lv_tableIn (off := 160) (tgt := 192) hx hb dL_law_32 (by rw [q2]; decide) (by rw [q2]; decide) (by rw [q2]; rfl) (by decide) ?_
        exact lc_fault X s2  kk hI hd hS hl
      by_cases q3 : w = 3
      · refine lv_tableIn (off := 173) (tgt := 205) hx hb dL_law_32 (by rw [q3]; decide) (by rw [q3]; decide) (by rw [q3]; rfl) (by decide) ?_
        exact lc_told X s3 hi1 kk hI hd hS hl
      by_cases q4 : w = 4
      · refine lv_tableIn (off := 196) (tgt := 228) hx hb dL_law_32 (by rw [q4]; decide) (by rw [q4]; decide) (by rw [q4]; rfl) (by decide) ?_
        exact lc_cell X s4 hi1 hi2 kk hI hd hS hl
      by_cases q5 : w = 5
      · refine lv_tableIn (off := 229) (tgt := 261) hx hb dL_law_32 (by rw [q5]; decide) (by rw [q5]; decide) (by rw [q5]; rfl) (by decide) ?_
        exact lc_item X s5 hi1 hi2 kk hI hd hS hl
      by_cases q6 : w = 6
      · refine lv_tableIn (off := 262) (tgt := 294) hx hb dL_law_32 (by rw [q6]; decide) (by rw [q6]; decide) (by rw [q6]; rfl) (by decide) ?_
        exact lc_votes X s6 hi1 hi2 kk hI hd hS hl
      by_cases q7 : w = 7
      · refine lv_tableIn (off := 295) (tgt := 327) hx hb dL_law_32 (by rw [q7]; decide) (by rw [q7]; decide) (by rw [q7]; rfl) (by decide) ?_
        exact lc_vote X s7 hi1 hi2 hi3 kk hI hd hS hl
      by_cases q8 : w = 8
      · refine lv_tableIn (off := 338) (tgt := 370) hx hb dL_law_32 (by rw [q8]; decide) (by rw [q8]; decide) (by rw [q8]; rfl) (by decide) ?_
        exact lc_session X s8  kk hI hd hS hl
      by_cases q9 : w = 9
      · refine lv_tableIn (off := 351) (tgt := 383) hx hb dL_law_32 (by rw [q9]; decide) (by rw [q9]; decide) (by rw [q9]; rfl) (by decide) ?_
        exact lc_drift X s9 hi1 kk hI hd hS hl
      by_cases q10 : w = 10
      · refine lv_tableIn (off := 374) (tgt := 406) hx hb dL_law_32 (by rw [q10]; decide) (by rw [q10]; decide) (by rw [q10]; rfl) (by decide) ?_
        exact lc_undo X s10  kk hI hd hS hl
      by_cases q11 : w = 11
      · refine lv_tableIn (off := 387) (tgt := 419) hx hb dL_law_32 (by rw [q11]; decide) (by rw [q11]; decide) (by rw [q11]; rfl) (by decide) ?_
        exact lc_rests X s11 hi1 hi2 kk hI hd hS hl
      by_cases q12 : w = 12
      · refine lv_tableIn (off := 420) (tgt := 452) hx hb dL_law_32 (by rw [q12]; decide) (by rw [q12]; decide) (by rw [q12]; rfl) (by decide) ?_
        exact lc_pool X s12 hi1 kk hI hd hS hl
      by_cases q13 : w = 13
      · refine lv_tableIn (off := 443) (tgt := 475) hx hb dL_law_32 (by rw [q13]; decide) (by rw [q13]; decide) (by rw [q13]; rfl) (by decide) ?_
        exact lc_tips X s13 hi1 kk hI hd hS hl
      by_cases q14 : w = 14
      · refine lv_tableIn (off := 466) (tgt := 498) hx hb dL_law_32 (by rw [q14]; decide) (by rw [q14]; decide) (by rw [q14]; rfl) (by decide) ?_
        exact lc_fewest X s14 hi1 hi2 hi3 kk hI hd hS hl
      by_cases q15 : w = 15
      · refine lv_tableIn (off := 509) (tgt := 541) hx hb dL_law_32 (by rw [q15]; decide) (by rw [q15]; decide) (by rw [q15]; rfl) (by decide) ?_
        exact lc_carry X s15  kk hI hd hS hl
      by_cases q16 : w = 16
      · refine lv_tableIn (off := 522) (tgt := 554) hx hb dL_law_32 (by rw [q16]; decide) (by rw [q16]; decide) (by rw [q16]; rfl) (by decide) ?_
        exact lc_waltz X s16 hi1 kk hI hd hS hl
      by_cases q17 : w = 17
      · refine lv_tableIn (off := 545) (tgt := 577) hx hb dL_law_32 (by rw [q17]; decide) (by rw [q17]; decide) (by rw [q17]; rfl) (by decide) ?_
        exact lc_recount X s17 hi1 hi2 kk hI hd hS hl
      by_cases q18 : w = 18
      · refine lv_tableIn (off := 578) (tgt := 610) hx hb dL_law_32 (by rw [q18]; decide) (by rw [q18]; decide) (by rw [q18]; rfl) (by decide) ?_
        exact lc_see X s18 hi1 hi2 kk hI hd hS hl
      by_cases q19 : w = 19
      · refine lv_tableIn (off := 611) (tgt := 643) hx hb dL_law_32 (by rw [q19]; decide) (by rw [q19]; decide) (by rw [q19]; rfl) (by decide) ?_
        exact lc_stood X s19 hi1 kk hI hd hS hl
      by_cases q20 : w = 20
      · refine lv_tableIn (off := 634) (tgt := 666) hx hb dL_law_32 (by rw [q20]; decide) (by rw [q20]; decide) (by rw [q20]; rfl) (by decide) ?_
        exact lc_look X s20  kk hI hd hS hl
      by_cases q21 : w = 21
      · refine lv_tableIn (off := 647) (tgt := 679) hx hb dL_law_32 (by rw [q21]; decide) (by rw [q21]; decide) (by rw [q21]; rfl) (by decide) ?_
        exact lc_write X s21 hi1 hi2 kk hI hd hS hl
      by_cases q22 : w = 22
      · refine lv_tableIn (off := 680) (tgt := 712) hx hb dL_law_32 (by rw [q22]; decide) (by rw [q22]; decide) (by rw [q22]; rfl) (by decide) ?_
        exact lc_tear X s22  kk hI hd hS hl
      by_cases q23 : w = 23
      · refine lv_tableIn (off := 693) (tgt := 725) hx hb dL_law_32 (by rw [q23]; decide) (by rw [q23]; decide) (by rw [q23]; rfl) (by decide) ?_
        exact lc_judge X s23  kk hI hd hS hl
      by_cases q24 : w = 24
      · refine lv_tableIn (off := 706) (tgt := 738) hx hb dL_law_32 (by rw [q24]; decide) (by rw [q24]; decide) (by rw [q24]; rfl) (by decide) ?_
        exact lc_seed X s24 hi1 kk hI hd hS hl
      by_cases q25 : w = 25
      · refine lv_tableIn (off := 729) (tgt := 761) hx hb dL_law_32 (by rw [q25]; decide) (by rw [q25]; decide) (by rw [q25]; rfl) (by decide) ?_
        exact lc_keep X s25 hi1 kk hI hd hS hl
      by_cases q26 : w = 26
      · refine lv_tableIn (off := 752) (tgt := 784) hx hb dL_law_32 (by rw [q26]; decide) (by rw [q26]; decide) (by rw [q26]; rfl) (by decide) ?_
        exact lc_goBack X s26 hi1 kk hI hd hS hl
      refine lv_tableOut (tgt := 807) hx hb dL_law_32 (sw_out 0 27 rfl rfl (by decide) (fun k hk => match k, hk with | 0, _ => q0 | 1, _ => q1 | 2, _ => q2 | 3, _ => q3 | 4, _ => q4 | 5, _ => q5 | 6, _ => q6 | 7, _ => q7 | 8, _ => q8 | 9, _ => q9 | 10, _ => q10 | 11, _ => q11 | 12, _ => q12 | 13, _ => q13 | 14, _ => q14 | 15, _ => q15 | 16, _ => q16 | 17, _ => q17 | 18, _ => q18 | 19, _ => q19 | 20, _ => q20 | 21, _ => q21 | 22, _ => q22 | 23, _ => q23 | 24, _ => q24 | 25, _ => q25 | 26, _ => q26 | k + 27, hk => absurd hk (by omega))) (by decide) ?_
      exact kk μ H locs ls hI hd hS hl
