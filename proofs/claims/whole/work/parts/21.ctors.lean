theorem df_0 : ∀ j, j < 4 → defaultValue (tyX0 j) = if isr 0 j = true then .null else .int 0 := fun j hj => match j, hj with | 0, _ => rfl | 1, _ => rfl | 2, _ => rfl | 3, _ => rfl | j + 4, hj => absurd hj (by omega)
theorem df_1 : ∀ j, j < 1 → defaultValue (tyX1 j) = if isr 1 j = true then .null else .int 0 := fun j hj => match j, hj with | 0, _ => rfl | j + 1, hj => absurd hj (by omega)
theorem df_2 : ∀ j, j < 5 → defaultValue (tyX2 j) = if isr 2 j = true then .null else .int 0 := fun j hj => match j, hj with | 0, _ => rfl | 1, _ => rfl | 2, _ => rfl | 3, _ => rfl | 4, _ => rfl | j + 5, hj => absurd hj (by omega)
theorem df_3 : ∀ j, j < 3 → defaultValue (tyX3 j) = if isr 3 j = true then .null else .int 0 := fun j hj => match j, hj with | 0, _ => rfl | 1, _ => rfl | 2, _ => rfl | j + 3, hj => absurd hj (by omega)
theorem df_4 : ∀ j, j < 11 → defaultValue (tyX4 j) = if isr 4 j = true then .null else .int 0 := fun j hj => match j, hj with | 0, _ => rfl | 1, _ => rfl | 2, _ => rfl | 3, _ => rfl | 4, _ => rfl | 5, _ => rfl | 6, _ => rfl | 7, _ => rfl | 8, _ => rfl | 9, _ => rfl | 10, _ => rfl | j + 11, hj => absurd hj (by omega)
theorem df_5 : ∀ j, j < 3 → defaultValue (tyX5 j) = if isr 5 j = true then .null else .int 0 := fun j hj => match j, hj with | 0, _ => rfl | 1, _ => rfl | 2, _ => rfl | j + 3, hj => absurd hj (by omega)
theorem df_6 : ∀ j, j < 6 → defaultValue (tyX6 j) = if isr 6 j = true then .null else .int 0 := fun j hj => match j, hj with | 0, _ => rfl | 1, _ => rfl | 2, _ => rfl | 3, _ => rfl | 4, _ => rfl | 5, _ => rfl | j + 6, hj => absurd hj (by omega)
theorem df_7 : ∀ j, j < 6 → defaultValue (tyX7 j) = if isr 7 j = true then .null else .int 0 := fun j hj => match j, hj with | 0, _ => rfl | 1, _ => rfl | 2, _ => rfl | 3, _ => rfl | 4, _ => rfl | 5, _ => rfl | j + 6, hj => absurd hj (by omega)
theorem df_8 : ∀ j, j < 2 → defaultValue (tyX8 j) = if isr 8 j = true then .null else .int 0 := fun j hj => match j, hj with | 0, _ => rfl | 1, _ => rfl | j + 2, hj => absurd hj (by omega)
theorem df_9 : ∀ j, j < 13 → defaultValue (tyX9 j) = if isr 9 j = true then .null else .int 0 := fun j hj => match j, hj with | 0, _ => rfl | 1, _ => rfl | 2, _ => rfl | 3, _ => rfl | 4, _ => rfl | 5, _ => rfl | 6, _ => rfl | 7, _ => rfl | 8, _ => rfl | 9, _ => rfl | 10, _ => rfl | 11, _ => rfl | 12, _ => rfl | j + 13, hj => absurd hj (by omega)
theorem df_10 : ∀ j, j < 39 → defaultValue (tyX10 j) = if isr 10 j = true then .null else .int 0 := fun j hj => match j, hj with | 0, _ => rfl | 1, _ => rfl | 2, _ => rfl | 3, _ => rfl | 4, _ => rfl | 5, _ => rfl | 6, _ => rfl | 7, _ => rfl | 8, _ => rfl | 9, _ => rfl | 10, _ => rfl | 11, _ => rfl | 12, _ => rfl | 13, _ => rfl | 14, _ => rfl | 15, _ => rfl | 16, _ => rfl | 17, _ => rfl | 18, _ => rfl | 19, _ => rfl | 20, _ => rfl | 21, _ => rfl | 22, _ => rfl | 23, _ => rfl | 24, _ => rfl | 25, _ => rfl | 26, _ => rfl | 27, _ => rfl | 28, _ => rfl | 29, _ => rfl | 30, _ => rfl | 31, _ => rfl | 32, _ => rfl | 33, _ => rfl | 34, _ => rfl | 35, _ => rfl | 36, _ => rfl | 37, _ => rfl | 38, _ => rfl | j + 39, hj => absurd hj (by omega)
theorem hn_X0_init : yX0_init.cls ≠ "java/lang/invoke/MethodHandle" ∧ yX0_init.cls ≠ "java/lang/invoke/VarHandle" ∧ (parseMethodDescriptor yX0_init.desc).map (fun d => d.parameters.length) = some 0 := by decide +kernel
theorem hn_X1_init : yX1_init.cls ≠ "java/lang/invoke/MethodHandle" ∧ yX1_init.cls ≠ "java/lang/invoke/VarHandle" ∧ (parseMethodDescriptor yX1_init.desc).map (fun d => d.parameters.length) = some 0 := by decide +kernel
theorem hn_X2_init : yX2_init.cls ≠ "java/lang/invoke/MethodHandle" ∧ yX2_init.cls ≠ "java/lang/invoke/VarHandle" ∧ (parseMethodDescriptor yX2_init.desc).map (fun d => d.parameters.length) = some 0 := by decide +kernel
theorem hn_X3_init : yX3_init.cls ≠ "java/lang/invoke/MethodHandle" ∧ yX3_init.cls ≠ "java/lang/invoke/VarHandle" ∧ (parseMethodDescriptor yX3_init.desc).map (fun d => d.parameters.length) = some 0 := by decide +kernel
theorem hn_X4_init : yX4_init.cls ≠ "java/lang/invoke/MethodHandle" ∧ yX4_init.cls ≠ "java/lang/invoke/VarHandle" ∧ (parseMethodDescriptor yX4_init.desc).map (fun d => d.parameters.length) = some 0 := by decide +kernel
theorem hn_X5_init : yX5_init.cls ≠ "java/lang/invoke/MethodHandle" ∧ yX5_init.cls ≠ "java/lang/invoke/VarHandle" ∧ (parseMethodDescriptor yX5_init.desc).map (fun d => d.parameters.length) = some 0 := by decide +kernel
theorem hn_X6_init : yX6_init.cls ≠ "java/lang/invoke/MethodHandle" ∧ yX6_init.cls ≠ "java/lang/invoke/VarHandle" ∧ (parseMethodDescriptor yX6_init.desc).map (fun d => d.parameters.length) = some 0 := by decide +kernel
theorem hn_X7_init : yX7_init.cls ≠ "java/lang/invoke/MethodHandle" ∧ yX7_init.cls ≠ "java/lang/invoke/VarHandle" ∧ (parseMethodDescriptor yX7_init.desc).map (fun d => d.parameters.length) = some 0 := by decide +kernel
theorem hn_X8_init : yX8_init.cls ≠ "java/lang/invoke/MethodHandle" ∧ yX8_init.cls ≠ "java/lang/invoke/VarHandle" ∧ (parseMethodDescriptor yX8_init.desc).map (fun d => d.parameters.length) = some 0 := by decide +kernel
theorem hn_X9_init : yX9_init.cls ≠ "java/lang/invoke/MethodHandle" ∧ yX9_init.cls ≠ "java/lang/invoke/VarHandle" ∧ (parseMethodDescriptor yX9_init.desc).map (fun d => d.parameters.length) = some 0 := by decide +kernel
theorem hn_X10_init : yX10_init.cls ≠ "java/lang/invoke/MethodHandle" ∧ yX10_init.cls ≠ "java/lang/invoke/VarHandle" ∧ (parseMethodDescriptor yX10_init.desc).map (fun d => d.parameters.length) = some 0 := by decide +kernel
def u_X0_1 (a n : Nat) (μ : Mm) : Mm := (μ.1, up2 μ.2 a 0 (some n))
def u_X0_2 (a n : Nat) (μ : Mm) : Mm := ((u_X0_1 a n μ).1, up2 (u_X0_1 a n μ).2 a 1 (some (n + 1)))
def u_X0_3 (a n : Nat) (μ : Mm) : Mm := (up2 (u_X0_2 a n μ).1 a 3 (-1 : Int32), (u_X0_2 a n μ).2)
def u_X0 (a n : Nat) (μ : Mm) : Mm := (u_X0_3 a n μ)
set_option maxRecDepth 100000 in
theorem i_X0 {l : Launch} {D : va_G} {cA : Nat → ClassId} {z : Nat} {μ : Mm} {a n : Nat} (han : a < n) (h0 : kd a = 0) (h1 : kd n = 11) (h2 : ln n = 5) (h3 : kd (n + 1) = 11) (h4 : ln (n + 1) = 5) : Cn l D cA z yX0_init wsX0_init 1 40 2 10 a n (n + 2) μ (u_X0 a n μ) := by
  refine n_in (cc := cX0_init) (maxL := 1) (own := RX0) (by decide) rfl rfl rfl (Nat.le_of_ble_eq_true rfl) ?_
  intro p e s m below meth c ls hx hb hr hlk hml hown hts hK hin2 hw hS hl
  obtain ⟨hK1, hA1, hA2, n1, n2, n3, n4, n5, n6, n7, n8, n9, n10, n11⟩ := id hK
  refine lv_aload_n hx hb dX0_init_0 rfl (lv_at hl 0 rfl) ?_
  refine W.objInit hx hb hown (hts (.methodLink RX0 3 objectInit) (List.mem_of_getElem? (i := 1) rfl)) (hts (.instanceMethod objectInit) (List.mem_of_getElem? (i := 2) rfl)) (hts (.code objectInit ⟨#[0xb1]⟩ 1 none) (List.mem_of_getElem? (i := 3) rfl)) rfl (by rw [hml]; exact hl.1) rfl dX0_init_1 (Nat.le_of_ble_eq_true rfl) (Nat.le_of_ble_eq_true rfl) ?_
  refine W.eq (g2 := F0 m 4 ls []) rfl ?_
  refine lv_aload_n hx hb dX0_init_4 rfl (lv_at hl 0 rfl) ?_
  refine lv_iconst (v := 5) hx hb dX0_init_5 (by decide) ?_
  refine n_newa (atype := .int) (N := 5) (ci := 11) hx hb (hts (.arrayClass .int) (List.mem_of_getElem? (i := 4) rfl)) hK hw hS h1 h2 (Or.inl ⟨rfl, rfl⟩) (by decide) (by decide) (by decide) (Nat.le_of_ble_eq_true rfl) (Nat.le_of_ble_eq_true rfl) dX0_init_6 (fun H hw hS => ?_)
  refine n_putr (a := a) (b := n) (ci := 0) hx hb hts (fun w h => List.mem_cons_of_mem _ (List.mem_append_right _ (h))) tyX0 tyX0_ok nmX0 hown hK hw hS (by omega) h0 rfl 0 fs_0_0 hin2 rfl (hts (.fieldLink RX0 9 "LevelVotes$Ballot" "yes" "[I") (List.mem_of_getElem? (i := 5) rfl)) (by rw [h1]; rfl) rfl rfl dX0_init_8 (fun H locs hw hS => ?_)
  have hw : Wn D cA z (n + 1) (u_X0_1 a n μ) H := hw
  refine lv_aload_n hx hb dX0_init_11 rfl (lv_at hl 0 rfl) ?_
  refine lv_iconst (v := 5) hx hb dX0_init_12 (by decide) ?_
  refine n_newa (atype := .int) (N := 5) (ci := 11) hx hb (hts (.arrayClass .int) (List.mem_of_getElem? (i := 4) rfl)) hK hw hS h3 h4 (Or.inl ⟨rfl, rfl⟩) (by decide) (by decide) (by decide) (Nat.le_of_ble_eq_true rfl) (Nat.le_of_ble_eq_true rfl) dX0_init_13 (fun H hw hS => ?_)
  refine n_putr (a := a) (b := (n + 1)) (ci := 0) hx hb hts (fun w h => List.mem_cons_of_mem _ (List.mem_append_right _ (h))) tyX0 tyX0_ok nmX0 hown hK hw hS (by omega) h0 rfl 1 fs_0_1 hin2 rfl (hts (.fieldLink RX0 15 "LevelVotes$Ballot" "no" "[I") (List.mem_of_getElem? (i := 6) rfl)) (by rw [h3]; rfl) rfl rfl dX0_init_15 (fun H locs hw hS => ?_)
  have hw : Wn D cA z (n + 2) (u_X0_2 a n μ) H := hw
  refine lv_aload_n hx hb dX0_init_18 rfl (lv_at hl 0 rfl) ?_
  refine lv_iconst (v := -1) hx hb dX0_init_19 (by decide) ?_
  refine n_puti (a := a) (ci := 0) hx hb hts (fun w h => List.mem_cons_of_mem _ (List.mem_append_right _ (h))) tyX0 tyX0_ok nmX0 hown hK hw hS (by omega) h0 rfl 3 fs_0_3 hin2 rfl (hts (.fieldLink RX0 18 "LevelVotes$Ballot" "last" "I") (List.mem_of_getElem? (i := 7) rfl)) (vp_nar_int _) rfl dX0_init_20 (fun H locs hw hS => ?_)
  have hw : Wn D cA z (n + 2) (u_X0_3 a n μ) H := hw
  exact n_ret hx hb hr hlk hw hS rfl rfl dX0_init_23
def u_X7_1_1 (μ : Mm) : Mm := (μ.1, up2 μ.2 1 0 (some 2))
def u_X7_1_2 (μ : Mm) : Mm := (up2 (u_X7_1_1 μ).1 1 2 (-1 : Int32), (u_X7_1_1 μ).2)
def u_X7_1 (μ : Mm) : Mm := (u_X7_1_2 μ)
set_option maxRecDepth 100000 in
theorem i_X7_1 {l : Launch} {D : va_G} {cA : Nat → ClassId} {z : Nat} {μ : Mm} : Cn l D cA z yX7_init wsX7_init 1 40 1 240 1 2 3 μ (u_X7_1 μ) := by
  refine n_in (cc := cX7_init) (maxL := 1) (own := RX7) (by decide) rfl rfl rfl (Nat.le_of_ble_eq_true rfl) ?_
  intro p e s m below meth c ls hx hb hr hlk hml hown hts hK hin2 hw hS hl
  obtain ⟨hK1, hA1, hA2, n1, n2, n3, n4, n5, n6, n7, n8, n9, n10, n11⟩ := id hK
  refine lv_aload_n hx hb dX7_init_0 rfl (lv_at hl 0 rfl) ?_
  refine W.objInit hx hb hown (hts (.methodLink RX7 3 objectInit) (List.mem_of_getElem? (i := 1) rfl)) (hts (.instanceMethod objectInit) (List.mem_of_getElem? (i := 2) rfl)) (hts (.code objectInit ⟨#[0xb1]⟩ 1 none) (List.mem_of_getElem? (i := 3) rfl)) rfl (by rw [hml]; exact hl.1) rfl dX7_init_1 (Nat.le_of_ble_eq_true rfl) (Nat.le_of_ble_eq_true rfl) ?_
  refine W.eq (g2 := F0 m 4 ls []) rfl ?_
  refine lv_aload_n hx hb dX7_init_4 rfl (lv_at hl 0 rfl) ?_
  refine lv_sipush (v := 240) hx hb dX7_init_5 (by decide) ?_
  refine n_newa (atype := .int) (N := 240) (ci := 11) hx hb (hts (.arrayClass .int) (List.mem_of_getElem? (i := 4) rfl)) hK hw hS rfl rfl (Or.inl ⟨rfl, rfl⟩) (by decide) (by decide) (by decide) (Nat.le_of_ble_eq_true rfl) (Nat.le_of_ble_eq_true rfl) dX7_init_8 (fun H hw hS => ?_)
  refine n_putr (a := 1) (b := 2) (ci := 7) hx hb hts (fun w h => List.mem_cons_of_mem _ (List.mem_append_right _ (h))) tyX7 tyX7_ok nmX7 hown hK hw hS (by decide) rfl rfl 0 fs_7_0 hin2 rfl (hts (.fieldLink RX7 9 "LevelVotes$Text" "letters" "[I") (List.mem_of_getElem? (i := 5) rfl)) rfl rfl rfl dX7_init_10 (fun H locs hw hS => ?_)
  have hw : Wn D cA z 3 (u_X7_1_1 μ) H := hw
  refine lv_aload_n hx hb dX7_init_13 rfl (lv_at hl 0 rfl) ?_
  refine lv_iconst (v := -1) hx hb dX7_init_14 (by decide) ?_
  refine n_puti (a := 1) (ci := 7) hx hb hts (fun w h => List.mem_cons_of_mem _ (List.mem_append_right _ (h))) tyX7 tyX7_ok nmX7 hown hK hw hS (by decide) rfl rfl 2 fs_7_2 hin2 rfl (hts (.fieldLink RX7 15 "LevelVotes$Text" "flawAt" "I") (List.mem_of_getElem? (i := 6) rfl)) (vp_nar_int _) rfl dX7_init_15 (fun H locs hw hS => ?_)
  have hw : Wn D cA z 3 (u_X7_1_2 μ) H := hw
  exact n_ret hx hb hr hlk hw hS rfl rfl dX7_init_18
def u_X4_3_1 (μ : Mm) : Mm := (μ.1, up2 μ.2 3 6 (some 4))
def u_X4_3_2 (μ : Mm) : Mm := ((u_X4_3_1 μ).1, up2 (u_X4_3_1 μ).2 3 7 (some 5))
def u_X4_3_3 (μ : Mm) : Mm := ((u_X4_3_2 μ).1, up2 (u_X4_3_2 μ).2 3 8 (some 6))
def u_X4_3_4 (μ : Mm) : Mm := ((u_X4_3_3 μ).1, up2 (u_X4_3_3 μ).2 3 9 (some 7))
def u_X4_3_5 (μ : Mm) : Mm := u_X0 8 9 (u_X4_3_4 μ)
def u_X4_3_6 (μ : Mm) : Mm := ((u_X4_3_5 μ).1, up2 (u_X4_3_5 μ).2 3 10 (some 8))
def u_X4_3 (μ : Mm) : Mm := (u_X4_3_6 μ)
set_option maxRecDepth 100000 in
theorem i_X4_3 {l : Launch} {D : va_G} {cA : Nat → ClassId} {z : Nat} {μ : Mm} : Cn l D cA z yX4_init wsX4_init 2 60 7 49 3 4 11 μ (u_X4_3 μ) := by
  refine n_in (cc := cX4_init) (maxL := 1) (own := RX4) (by decide) rfl rfl rfl (Nat.le_of_ble_eq_true rfl) ?_
  intro p e s m below meth c ls hx hb hr hlk hml hown hts hK hin2 hw hS hl
  obtain ⟨hK1, hA1, hA2, n1, n2, n3, n4, n5, n6, n7, n8, n9, n10, n11⟩ := id hK
  refine lv_aload_n hx hb dX4_init_0 rfl (lv_at hl 0 rfl) ?_
  refine W.objInit hx hb hown (hts (.methodLink RX4 3 objectInit) (List.mem_of_getElem? (i := 1) rfl)) (hts (.instanceMethod objectInit) (List.mem_of_getElem? (i := 2) rfl)) (hts (.code objectInit ⟨#[0xb1]⟩ 1 none) (List.mem_of_getElem? (i := 3) rfl)) rfl (by rw [hml]; exact hl.1) rfl dX4_init_1 (Nat.le_of_ble_eq_true rfl) (Nat.le_of_ble_eq_true rfl) ?_
  refine W.eq (g2 := F0 m 4 ls []) rfl ?_
  refine lv_aload_n hx hb dX4_init_4 rfl (lv_at hl 0 rfl) ?_
  refine lv_bipush (v := 20) hx hb dX4_init_5 (by decide) ?_
  refine n_newa (atype := .int) (N := 20) (ci := 11) hx hb (hts (.arrayClass .int) (List.mem_of_getElem? (i := 4) rfl)) hK hw hS rfl rfl (Or.inl ⟨rfl, rfl⟩) (by decide) (by decide) (by decide) (Nat.le_of_ble_eq_true rfl) (Nat.le_of_ble_eq_true rfl) dX4_init_7 (fun H hw hS => ?_)
  refine n_putr (a := 3) (b := 4) (ci := 4) hx hb hts (fun w h => List.mem_cons_of_mem _ (List.mem_append_left _ (List.mem_append_right _ (h)))) tyX4 tyX4_ok nmX4 hown hK hw hS (by decide) rfl rfl 6 fs_4_6 hin2 rfl (hts (.fieldLink RX4 9 "LevelVotes$House" "heights" "[I") (List.mem_of_getElem? (i := 5) rfl)) rfl rfl rfl dX4_init_9 (fun H locs hw hS => ?_)
  have hw : Wn D cA z 5 (u_X4_3_1 μ) H := hw
  refine lv_aload_n hx hb dX4_init_12 rfl (lv_at hl 0 rfl) ?_
  refine lv_iconst (v := 5) hx hb dX4_init_13 (by decide) ?_
  refine n_newa (atype := .int) (N := 5) (ci := 11) hx hb (hts (.arrayClass .int) (List.mem_of_getElem? (i := 4) rfl)) hK hw hS rfl rfl (Or.inl ⟨rfl, rfl⟩) (by decide) (by decide) (by decide) (Nat.le_of_ble_eq_true rfl) (Nat.le_of_ble_eq_true rfl) dX4_init_14 (fun H hw hS => ?_)
  refine n_putr (a := 3) (b := 5) (ci := 4) hx hb hts (fun w h => List.mem_cons_of_mem _ (List.mem_append_left _ (List.mem_append_right _ (h)))) tyX4 tyX4_ok nmX4 hown hK hw hS (by decide) rfl rfl 7 fs_4_7 hin2 rfl (hts (.fieldLink RX4 15 "LevelVotes$House" "sets" "[I") (List.mem_of_getElem? (i := 6) rfl)) rfl rfl rfl dX4_init_16 (fun H locs hw hS => ?_)
  have hw : Wn D cA z 6 (u_X4_3_2 μ) H := hw
  refine lv_aload_n hx hb dX4_init_19 rfl (lv_at hl 0 rfl) ?_
  refine lv_iconst (v := 5) hx hb dX4_init_20 (by decide) ?_
  refine n_newa (atype := .int) (N := 5) (ci := 11) hx hb (hts (.arrayClass .int) (List.mem_of_getElem? (i := 4) rfl)) hK hw hS rfl rfl (Or.inl ⟨rfl, rfl⟩) (by decide) (by decide) (by decide) (Nat.le_of_ble_eq_true rfl) (Nat.le_of_ble_eq_true rfl) dX4_init_21 (fun H hw hS => ?_)
  refine n_putr (a := 3) (b := 6) (ci := 4) hx hb hts (fun w h => List.mem_cons_of_mem _ (List.mem_append_left _ (List.mem_append_right _ (h)))) tyX4 tyX4_ok nmX4 hown hK hw hS (by decide) rfl rfl 8 fs_4_8 hin2 rfl (hts (.fieldLink RX4 18 "LevelVotes$House" "levels" "[I") (List.mem_of_getElem? (i := 7) rfl)) rfl rfl rfl dX4_init_23 (fun H locs hw hS => ?_)
  have hw : Wn D cA z 7 (u_X4_3_3 μ) H := hw
  refine lv_aload_n hx hb dX4_init_26 rfl (lv_at hl 0 rfl) ?_
  refine lv_iconst (v := 5) hx hb dX4_init_27 (by decide) ?_
  refine n_newa (atype := .int) (N := 5) (ci := 11) hx hb (hts (.arrayClass .int) (List.mem_of_getElem? (i := 4) rfl)) hK hw hS rfl rfl (Or.inl ⟨rfl, rfl⟩) (by decide) (by decide) (by decide) (Nat.le_of_ble_eq_true rfl) (Nat.le_of_ble_eq_true rfl) dX4_init_28 (fun H hw hS => ?_)
  refine n_putr (a := 3) (b := 7) (ci := 4) hx hb hts (fun w h => List.mem_cons_of_mem _ (List.mem_append_left _ (List.mem_append_right _ (h)))) tyX4 tyX4_ok nmX4 hown hK hw hS (by decide) rfl rfl 9 fs_4_9 hin2 rfl (hts (.fieldLink RX4 21 "LevelVotes$House" "firstColumns" "[I") (List.mem_of_getElem? (i := 8) rfl)) rfl rfl rfl dX4_init_30 (fun H locs hw hS => ?_)
  have hw : Wn D cA z 8 (u_X4_3_4 μ) H := hw
  refine lv_aload_n hx hb dX4_init_33 rfl (lv_at hl 0 rfl) ?_
  refine n_new (ci := 0) hx hb hts (fun w h => List.mem_cons_of_mem _ (List.mem_append_right _ (h))) tyX0 tyX0_ok hown (hts (.classLink RX4 24 RX0) (List.mem_of_getElem? (i := 9) rfl)) (hts (.instantiable RX0 4) (List.mem_of_getElem? (i := 10) rfl)) (hts (.initialized RX0) (List.mem_of_getElem? (i := 11) rfl)) hK hw hS rfl rfl rfl df_0 (Nat.le_of_ble_eq_true rfl) (Nat.le_of_ble_eq_true rfl) dX4_init_34 (fun H hw hS => ?_)
  refine lv_dup hx hb dX4_init_37 rfl ?_
  refine n_go (rest := [.ref (z + 8), .ref (z + 3)]) ⟨hx, hb, hml, hown, hts⟩ hK hw hS (i_X0 (a := 8) (n := 9) (by decide) rfl rfl rfl rfl rfl) ⟨va_cnB 0 hts gX4_init_X0_init_n26 rfl rfl rfl n2 (hts (.initialized RX0) (List.mem_of_getElem? (i := 11) rfl)) hn_X0_init ⟨(Nat.le_of_ble_eq_true rfl), (Nat.le_of_ble_eq_true rfl)⟩, rfl, (hts (.instanceMethod yX0_init) (List.mem_of_getElem? (i := 13) rfl))⟩ hl.1 rfl (Nat.le_of_ble_eq_true rfl) dX4_init_38 ⟨(Nat.le_of_ble_eq_true rfl), (Nat.le_of_ble_eq_true rfl)⟩ (fun H locs hw hS => ?_)
  have hw : Wn D cA z 11 (u_X4_3_5 μ) H := hw
  refine n_putr (a := 3) (b := 8) (ci := 4) hx hb hts (fun w h => List.mem_cons_of_mem _ (List.mem_append_left _ (List.mem_append_right _ (h)))) tyX4 tyX4_ok nmX4 hown hK hw hS (by decide) rfl rfl 10 fs_4_10 hin2 rfl (hts (.fieldLink RX4 27 "LevelVotes$House" "toldVotes" "LLevelVotes$Ballot;") (List.mem_of_getElem? (i := 12) rfl)) rfl rfl rfl dX4_init_41 (fun H locs hw hS => ?_)
  have hw : Wn D cA z 11 (u_X4_3_6 μ) H := hw
  exact n_ret hx hb hr hlk hw hS rfl rfl dX4_init_44
def u_X4_11_1 (μ : Mm) : Mm := (μ.1, up2 μ.2 11 6 (some 12))
def u_X4_11_2 (μ : Mm) : Mm := ((u_X4_11_1 μ).1, up2 (u_X4_11_1 μ).2 11 7 (some 13))
def u_X4_11_3 (μ : Mm) : Mm := ((u_X4_11_2 μ).1, up2 (u_X4_11_2 μ).2 11 8 (some 14))
def u_X4_11_4 (μ : Mm) : Mm := ((u_X4_11_3 μ).1, up2 (u_X4_11_3 μ).2 11 9 (some 15))
def u_X4_11_5 (μ : Mm) : Mm := u_X0 16 17 (u_X4_11_4 μ)
def u_X4_11_6 (μ : Mm) : Mm := ((u_X4_11_5 μ).1, up2 (u_X4_11_5 μ).2 11 10 (some 16))
def u_X4_11 (μ : Mm) : Mm := (u_X4_11_6 μ)
set_option maxRecDepth 100000 in
theorem i_X4_11 {l : Launch} {D : va_G} {cA : Nat → ClassId} {z : Nat} {μ : Mm} : Cn l D cA z yX4_init wsX4_init 2 60 7 49 11 12 19 μ (u_X4_11 μ) := by
  refine n_in (cc := cX4_init) (maxL := 1) (own := RX4) (by decide) rfl rfl rfl (Nat.le_of_ble_eq_true rfl) ?_
  intro p e s m below meth c ls hx hb hr hlk hml hown hts hK hin2 hw hS hl
  obtain ⟨hK1, hA1, hA2, n1, n2, n3, n4, n5, n6, n7, n8, n9, n10, n11⟩ := id hK
  refine lv_aload_n hx hb dX4_init_0 rfl (lv_at hl 0 rfl) ?_
  refine W.objInit hx hb hown (hts (.methodLink RX4 3 objectInit) (List.mem_of_getElem? (i := 1) rfl)) (hts (.instanceMethod objectInit) (List.mem_of_getElem? (i := 2) rfl)) (hts (.code objectInit ⟨#[0xb1]⟩ 1 none) (List.mem_of_getElem? (i := 3) rfl)) rfl (by rw [hml]; exact hl.1) rfl dX4_init_1 (Nat.le_of_ble_eq_true rfl) (Nat.le_of_ble_eq_true rfl) ?_
  refine W.eq (g2 := F0 m 4 ls []) rfl ?_
  refine lv_aload_n hx hb dX4_init_4 rfl (lv_at hl 0 rfl) ?_
  refine lv_bipush (v := 20) hx hb dX4_init_5 (by decide) ?_
  refine n_newa (atype := .int) (N := 20) (ci := 11) hx hb (hts (.arrayClass .int) (List.mem_of_getElem? (i := 4) rfl)) hK hw hS rfl rfl (Or.inl ⟨rfl, rfl⟩) (by decide) (by decide) (by decide) (Nat.le_of_ble_eq_true rfl) (Nat.le_of_ble_eq_true rfl) dX4_init_7 (fun H hw hS => ?_)
  refine n_putr (a := 11) (b := 12) (ci := 4) hx hb hts (fun w h => List.mem_cons_of_mem _ (List.mem_append_left _ (List.mem_append_right _ (h)))) tyX4 tyX4_ok nmX4 hown hK hw hS (by decide) rfl rfl 6 fs_4_6 hin2 rfl (hts (.fieldLink RX4 9 "LevelVotes$House" "heights" "[I") (List.mem_of_getElem? (i := 5) rfl)) rfl rfl rfl dX4_init_9 (fun H locs hw hS => ?_)
  have hw : Wn D cA z 13 (u_X4_11_1 μ) H := hw
  refine lv_aload_n hx hb dX4_init_12 rfl (lv_at hl 0 rfl) ?_
  refine lv_iconst (v := 5) hx hb dX4_init_13 (by decide) ?_
  refine n_newa (atype := .int) (N := 5) (ci := 11) hx hb (hts (.arrayClass .int) (List.mem_of_getElem? (i := 4) rfl)) hK hw hS rfl rfl (Or.inl ⟨rfl, rfl⟩) (by decide) (by decide) (by decide) (Nat.le_of_ble_eq_true rfl) (Nat.le_of_ble_eq_true rfl) dX4_init_14 (fun H hw hS => ?_)
  refine n_putr (a := 11) (b := 13) (ci := 4) hx hb hts (fun w h => List.mem_cons_of_mem _ (List.mem_append_left _ (List.mem_append_right _ (h)))) tyX4 tyX4_ok nmX4 hown hK hw hS (by decide) rfl rfl 7 fs_4_7 hin2 rfl (hts (.fieldLink RX4 15 "LevelVotes$House" "sets" "[I") (List.mem_of_getElem? (i := 6) rfl)) rfl rfl rfl dX4_init_16 (fun H locs hw hS => ?_)
  have hw : Wn D cA z 14 (u_X4_11_2 μ) H := hw
  refine lv_aload_n hx hb dX4_init_19 rfl (lv_at hl 0 rfl) ?_
  refine lv_iconst (v := 5) hx hb dX4_init_20 (by decide) ?_
  refine n_newa (atype := .int) (N := 5) (ci := 11) hx hb (hts (.arrayClass .int) (List.mem_of_getElem? (i := 4) rfl)) hK hw hS rfl rfl (Or.inl ⟨rfl, rfl⟩) (by decide) (by decide) (by decide) (Nat.le_of_ble_eq_true rfl) (Nat.le_of_ble_eq_true rfl) dX4_init_21 (fun H hw hS => ?_)
  refine n_putr (a := 11) (b := 14) (ci := 4) hx hb hts (fun w h => List.mem_cons_of_mem _ (List.mem_append_left _ (List.mem_append_right _ (h)))) tyX4 tyX4_ok nmX4 hown hK hw hS (by decide) rfl rfl 8 fs_4_8 hin2 rfl (hts (.fieldLink RX4 18 "LevelVotes$House" "levels" "[I") (List.mem_of_getElem? (i := 7) rfl)) rfl rfl rfl dX4_init_23 (fun H locs hw hS => ?_)
  have hw : Wn D cA z 15 (u_X4_11_3 μ) H := hw
  refine lv_aload_n hx hb dX4_init_26 rfl (lv_at hl 0 rfl) ?_
  refine lv_iconst (v := 5) hx hb dX4_init_27 (by decide) ?_
  refine n_newa (atype := .int) (N := 5) (ci := 11) hx hb (hts (.arrayClass .int) (List.mem_of_getElem? (i := 4) rfl)) hK hw hS rfl rfl (Or.inl ⟨rfl, rfl⟩) (by decide) (by decide) (by decide) (Nat.le_of_ble_eq_true rfl) (Nat.le_of_ble_eq_true rfl) dX4_init_28 (fun H hw hS => ?_)
  refine n_putr (a := 11) (b := 15) (ci := 4) hx hb hts (fun w h => List.mem_cons_of_mem _ (List.mem_append_left _ (List.mem_append_right _ (h)))) tyX4 tyX4_ok nmX4 hown hK hw hS (by decide) rfl rfl 9 fs_4_9 hin2 rfl (hts (.fieldLink RX4 21 "LevelVotes$House" "firstColumns" "[I") (List.mem_of_getElem? (i := 8) rfl)) rfl rfl rfl dX4_init_30 (fun H locs hw hS => ?_)
  have hw : Wn D cA z 16 (u_X4_11_4 μ) H := hw
  refine lv_aload_n hx hb dX4_init_33 rfl (lv_at hl 0 rfl) ?_
  refine n_new (ci := 0) hx hb hts (fun w h => List.mem_cons_of_mem _ (List.mem_append_right _ (h))) tyX0 tyX0_ok hown (hts (.classLink RX4 24 RX0) (List.mem_of_getElem? (i := 9) rfl)) (hts (.instantiable RX0 4) (List.mem_of_getElem? (i := 10) rfl)) (hts (.initialized RX0) (List.mem_of_getElem? (i := 11) rfl)) hK hw hS rfl rfl rfl df_0 (Nat.le_of_ble_eq_true rfl) (Nat.le_of_ble_eq_true rfl) dX4_init_34 (fun H hw hS => ?_)
  refine lv_dup hx hb dX4_init_37 rfl ?_
  refine n_go (rest := [.ref (z + 16), .ref (z + 11)]) ⟨hx, hb, hml, hown, hts⟩ hK hw hS (i_X0 (a := 16) (n := 17) (by decide) rfl rfl rfl rfl rfl) ⟨va_cnB 0 hts gX4_init_X0_init_n26 rfl rfl rfl n2 (hts (.initialized RX0) (List.mem_of_getElem? (i := 11) rfl)) hn_X0_init ⟨(Nat.le_of_ble_eq_true rfl), (Nat.le_of_ble_eq_true rfl)⟩, rfl, (hts (.instanceMethod yX0_init) (List.mem_of_getElem? (i := 13) rfl))⟩ hl.1 rfl (Nat.le_of_ble_eq_true rfl) dX4_init_38 ⟨(Nat.le_of_ble_eq_true rfl), (Nat.le_of_ble_eq_true rfl)⟩ (fun H locs hw hS => ?_)
  have hw : Wn D cA z 19 (u_X4_11_5 μ) H := hw
  refine n_putr (a := 11) (b := 16) (ci := 4) hx hb hts (fun w h => List.mem_cons_of_mem _ (List.mem_append_left _ (List.mem_append_right _ (h)))) tyX4 tyX4_ok nmX4 hown hK hw hS (by decide) rfl rfl 10 fs_4_10 hin2 rfl (hts (.fieldLink RX4 27 "LevelVotes$House" "toldVotes" "LLevelVotes$Ballot;") (List.mem_of_getElem? (i := 12) rfl)) rfl rfl rfl dX4_init_41 (fun H locs hw hS => ?_)
  have hw : Wn D cA z 19 (u_X4_11_6 μ) H := hw
  exact n_ret hx hb hr hlk hw hS rfl rfl dX4_init_44
def u_X3_22_1 (μ : Mm) : Mm := (μ.1, up2 μ.2 22 0 (some 23))
def u_X3_22_2 (μ : Mm) : Mm := u_X0 24 25 (u_X3_22_1 μ)
def u_X3_22_3 (μ : Mm) : Mm := ((u_X3_22_2 μ).1, up2 (u_X3_22_2 μ).2 23 0 (some 24))
def u_X3_22_4 (μ : Mm) : Mm := u_X0 27 28 (u_X3_22_3 μ)
def u_X3_22_5 (μ : Mm) : Mm := ((u_X3_22_4 μ).1, up2 (u_X3_22_4 μ).2 23 1 (some 27))
def u_X3_22_6 (μ : Mm) : Mm := u_X0 30 31 (u_X3_22_5 μ)
def u_X3_22_7 (μ : Mm) : Mm := ((u_X3_22_6 μ).1, up2 (u_X3_22_6 μ).2 23 2 (some 30))
def u_X3_22_8 (μ : Mm) : Mm := u_X0 33 34 (u_X3_22_7 μ)
def u_X3_22_9 (μ : Mm) : Mm := ((u_X3_22_8 μ).1, up2 (u_X3_22_8 μ).2 23 3 (some 33))
def u_X3_22_10 (μ : Mm) : Mm := u_X0 36 37 (u_X3_22_9 μ)
def u_X3_22_11 (μ : Mm) : Mm := ((u_X3_22_10 μ).1, up2 (u_X3_22_10 μ).2 23 4 (some 36))
def u_X3_22_12 (μ : Mm) : Mm := u_X0 39 40 (u_X3_22_11 μ)
def u_X3_22_13 (μ : Mm) : Mm := ((u_X3_22_12 μ).1, up2 (u_X3_22_12 μ).2 23 5 (some 39))
def u_X3_22_14 (μ : Mm) : Mm := u_X0 42 43 (u_X3_22_13 μ)
def u_X3_22_15 (μ : Mm) : Mm := ((u_X3_22_14 μ).1, up2 (u_X3_22_14 μ).2 23 6 (some 42))
def u_X3_22_16 (μ : Mm) : Mm := u_X0 45 46 (u_X3_22_15 μ)
def u_X3_22_17 (μ : Mm) : Mm := ((u_X3_22_16 μ).1, up2 (u_X3_22_16 μ).2 23 7 (some 45))
def u_X3_22_18 (μ : Mm) : Mm := u_X0 48 49 (u_X3_22_17 μ)
def u_X3_22_19 (μ : Mm) : Mm := ((u_X3_22_18 μ).1, up2 (u_X3_22_18 μ).2 23 8 (some 48))
def u_X3_22_20 (μ : Mm) : Mm := u_X0 51 52 (u_X3_22_19 μ)
def u_X3_22_21 (μ : Mm) : Mm := ((u_X3_22_20 μ).1, up2 (u_X3_22_20 μ).2 23 9 (some 51))
def u_X3_22_22 (μ : Mm) : Mm := u_X0 54 55 (u_X3_22_21 μ)
def u_X3_22_23 (μ : Mm) : Mm := ((u_X3_22_22 μ).1, up2 (u_X3_22_22 μ).2 23 10 (some 54))
def u_X3_22_24 (μ : Mm) : Mm := u_X0 57 58 (u_X3_22_23 μ)
def u_X3_22_25 (μ : Mm) : Mm := ((u_X3_22_24 μ).1, up2 (u_X3_22_24 μ).2 23 11 (some 57))
def u_X3_22_26 (μ : Mm) : Mm := u_X0 60 61 (u_X3_22_25 μ)
def u_X3_22_27 (μ : Mm) : Mm := ((u_X3_22_26 μ).1, up2 (u_X3_22_26 μ).2 23 12 (some 60))
def u_X3_22_28 (μ : Mm) : Mm := u_X0 63 64 (u_X3_22_27 μ)
def u_X3_22_29 (μ : Mm) : Mm := ((u_X3_22_28 μ).1, up2 (u_X3_22_28 μ).2 23 13 (some 63))
def u_X3_22_30 (μ : Mm) : Mm := u_X0 66 67 (u_X3_22_29 μ)
def u_X3_22_31 (μ : Mm) : Mm := ((u_X3_22_30 μ).1, up2 (u_X3_22_30 μ).2 23 14 (some 66))
def u_X3_22_32 (μ : Mm) : Mm := u_X0 69 70 (u_X3_22_31 μ)
def u_X3_22_33 (μ : Mm) : Mm := ((u_X3_22_32 μ).1, up2 (u_X3_22_32 μ).2 23 15 (some 69))
def u_X3_22_34 (μ : Mm) : Mm := u_X0 72 73 (u_X3_22_33 μ)
def u_X3_22_35 (μ : Mm) : Mm := ((u_X3_22_34 μ).1, up2 (u_X3_22_34 μ).2 23 16 (some 72))
def u_X3_22_36 (μ : Mm) : Mm := u_X0 75 76 (u_X3_22_35 μ)
def u_X3_22_37 (μ : Mm) : Mm := ((u_X3_22_36 μ).1, up2 (u_X3_22_36 μ).2 23 17 (some 75))
def u_X3_22_38 (μ : Mm) : Mm := u_X0 78 79 (u_X3_22_37 μ)
def u_X3_22_39 (μ : Mm) : Mm := ((u_X3_22_38 μ).1, up2 (u_X3_22_38 μ).2 23 18 (some 78))
def u_X3_22_40 (μ : Mm) : Mm := u_X0 81 82 (u_X3_22_39 μ)
def u_X3_22_41 (μ : Mm) : Mm := ((u_X3_22_40 μ).1, up2 (u_X3_22_40 μ).2 23 19 (some 81))
def u_X3_22 (μ : Mm) : Mm := (u_X3_22_41 μ)
set_option maxRecDepth 100000 in
theorem i_X3_22 {l : Launch} {D : va_G} {cA : Nat → ClassId} {z : Nat} {μ : Mm} : Cn l D cA z yX3_init wsX3_init 2 60 61 300 22 23 84 μ (u_X3_22 μ) := by
  refine n_in (cc := cX3_init) (maxL := 2) (own := RX3) (by decide) rfl rfl rfl (Nat.le_of_ble_eq_true rfl) ?_
  intro p e s m below meth c ls hx hb hr hlk hml hown hts hK hin2 hw hS hl
  obtain ⟨hK1, hA1, hA2, n1, n2, n3, n4, n5, n6, n7, n8, n9, n10, n11⟩ := id hK
  refine lv_aload_n hx hb dX3_init_0 rfl (lv_at hl 0 rfl) ?_
  refine W.objInit hx hb hown (hts (.methodLink RX3 3 objectInit) (List.mem_of_getElem? (i := 1) rfl)) (hts (.instanceMethod objectInit) (List.mem_of_getElem? (i := 2) rfl)) (hts (.code objectInit ⟨#[0xb1]⟩ 1 none) (List.mem_of_getElem? (i := 3) rfl)) rfl (by rw [hml]; exact hl.1) rfl dX3_init_1 (Nat.le_of_ble_eq_true rfl) (Nat.le_of_ble_eq_true rfl) ?_
  refine W.eq (g2 := F0 m 4 ls []) rfl ?_
  refine lv_aload_n hx hb dX3_init_4 rfl (lv_at hl 0 rfl) ?_
  refine lv_bipush (v := 20) hx hb dX3_init_5 (by decide) ?_
  refine n_newq (C := RX0) (N := 20) (ci := 13) (t0 := 2) hx hb hown (hts (.classLink RX3 9 RX0) (List.mem_of_getElem? (i := 4) rfl)) hA1 hK hw hS rfl rfl rfl rfl (by decide) (by decide) (by decide) (Nat.le_of_ble_eq_true rfl) (Nat.le_of_ble_eq_true rfl) dX3_init_7 (fun H hw hS => ?_)
  refine n_putr (a := 22) (b := 23) (ci := 3) hx hb hts (fun w h => List.mem_cons_of_mem _ (List.mem_append_left _ (List.mem_append_right _ (h)))) tyX3 tyX3_ok nmX3 hown hK hw hS (by decide) rfl rfl 0 fs_3_0 hin2 rfl (hts (.fieldLink RX3 11 "LevelVotes$History" "past" "[LLevelVotes$Ballot;") (List.mem_of_getElem? (i := 5) rfl)) rfl rfl rfl dX3_init_10 (fun H locs hw hS => ?_)
  have hw : Wn D cA z 24 (u_X3_22_1 μ) H := hw
  refine lv_iconst (v := 0) hx hb dX3_init_13 (by decide) ?_
  refine lv_istore_n (lv' := [(1, .int (0 : Int32)), (0, .ref (z + 22))]) hx hb dX3_init_14 rfl hl (by decide) rfl (fun ls hl => ?_)
  refine lv_iload_n hx hb dX3_init_15 rfl (lv_at hl 0 rfl) ?_
  refine lv_aload_n hx hb dX3_init_16 rfl (lv_at hl 1 rfl) ?_
  refine n_getr (a := 22) (ci := 3) (b := 23) hx hb hts (fun w h => List.mem_cons_of_mem _ (List.mem_append_left _ (List.mem_append_right _ (h)))) hown hK hw (by decide) rfl rfl rfl fs_3_0 (hts (.fieldLink RX3 11 "LevelVotes$History" "past" "[LLevelVotes$Ballot;") (List.mem_of_getElem? (i := 5) rfl)) dX3_init_17 ?_
  refine n_alen (a := 23) (ci := 13) (v := 20) hx hb hK hw (by decide) rfl rfl (by decide) dX3_init_20 ?_
  refine lv_icmp_ge (tgt := 43) hx hb dX3_init_21 (by decide) (fun q => absurd q (by decide)) (fun _ => ?_)
  refine lv_aload_n hx hb dX3_init_24 rfl (lv_at hl 1 rfl) ?_
  refine n_getr (a := 22) (ci := 3) (b := 23) hx hb hts (fun w h => List.mem_cons_of_mem _ (List.mem_append_left _ (List.mem_append_right _ (h)))) hown hK hw (by decide) rfl rfl rfl fs_3_0 (hts (.fieldLink RX3 11 "LevelVotes$History" "past" "[LLevelVotes$Ballot;") (List.mem_of_getElem? (i := 5) rfl)) dX3_init_25 ?_
  refine lv_iload_n hx hb dX3_init_28 rfl (lv_at hl 0 rfl) ?_
  refine n_new (ci := 0) hx hb hts (fun w h => List.mem_cons_of_mem _ (List.mem_append_right _ (h))) tyX0 tyX0_ok hown (hts (.classLink RX3 9 RX0) (List.mem_of_getElem? (i := 4) rfl)) (hts (.instantiable RX0 4) (List.mem_of_getElem? (i := 6) rfl)) (hts (.initialized RX0) (List.mem_of_getElem? (i := 7) rfl)) hK hw hS rfl rfl rfl df_0 (Nat.le_of_ble_eq_true rfl) (Nat.le_of_ble_eq_true rfl) dX3_init_29 (fun H hw hS => ?_)
  refine lv_dup hx hb dX3_init_32 rfl ?_
  refine n_go (rest := [.ref (z + 24), .int (0 : Int32), .ref (z + 23)]) ⟨hx, hb, hml, hown, hts⟩ hK hw hS (i_X0 (a := 24) (n := 25) (by decide) rfl rfl rfl rfl rfl) ⟨va_cnB 0 hts gX3_init_X0_init_n17 rfl rfl rfl n1 (hts (.initialized RX0) (List.mem_of_getElem? (i := 7) rfl)) hn_X0_init ⟨(Nat.le_of_ble_eq_true rfl), (Nat.le_of_ble_eq_true rfl)⟩, rfl, (hts (.instanceMethod yX0_init) (List.mem_of_getElem? (i := 8) rfl))⟩ hl.1 rfl (Nat.le_of_ble_eq_true rfl) dX3_init_33 ⟨(Nat.le_of_ble_eq_true rfl), (Nat.le_of_ble_eq_true rfl)⟩ (fun H locs hw hS => ?_)
  have hw : Wn D cA z 27 (u_X3_22_2 μ) H := hw
  refine n_aast (a := 23) (b := 24) (ca := 13) (ci := 0) (t0 := 2) (r := (RX0, TX0, 4)) (j := 0) hx hb hK hw hS (by decide) (by decide) rfl rfl rfl rfl rfl rfl (by decide) (ckb_in (by decide)) rfl dX3_init_36 (fun H locs hw hS => ?_)
  have hw : Wn D cA z 27 (u_X3_22_3 μ) H := hw
  refine lv_iinc (v := (1 : Int32)) (lv' := [(1, .int (1 : Int32)), (0, .ref (z + 22))]) hx hb dX3_init_37 hl (k := 0) rfl (by decide) (by decide) rfl (fun ls hl => ?_)
  refine lv_goto (tgt := 15) hx hb dX3_init_40 (by decide) ?_
  refine lv_iload_n hx hb dX3_init_15 rfl (lv_at hl 0 rfl) ?_
  refine lv_aload_n hx hb dX3_init_16 rfl (lv_at hl 1 rfl) ?_
  refine n_getr (a := 22) (ci := 3) (b := 23) hx hb hts (fun w h => List.mem_cons_of_mem _ (List.mem_append_left _ (List.mem_append_right _ (h)))) hown hK hw (by decide) rfl rfl rfl fs_3_0 (hts (.fieldLink RX3 11 "LevelVotes$History" "past" "[LLevelVotes$Ballot;") (List.mem_of_getElem? (i := 5) rfl)) dX3_init_17 ?_
  refine n_alen (a := 23) (ci := 13) (v := 20) hx hb hK hw (by decide) rfl rfl (by decide) dX3_init_20 ?_
  refine lv_icmp_ge (tgt := 43) hx hb dX3_init_21 (by decide) (fun q => absurd q (by decide)) (fun _ => ?_)
  refine lv_aload_n hx hb dX3_init_24 rfl (lv_at hl 1 rfl) ?_
  refine n_getr (a := 22) (ci := 3) (b := 23) hx hb hts (fun w h => List.mem_cons_of_mem _ (List.mem_append_left _ (List.mem_append_right _ (h)))) hown hK hw (by decide) rfl rfl rfl fs_3_0 (hts (.fieldLink RX3 11 "LevelVotes$History" "past" "[LLevelVotes$Ballot;") (List.mem_of_getElem? (i := 5) rfl)) dX3_init_25 ?_
  refine lv_iload_n hx hb dX3_init_28 rfl (lv_at hl 0 rfl) ?_
  refine n_new (ci := 0) hx hb hts (fun w h => List.mem_cons_of_mem _ (List.mem_append_right _ (h))) tyX0 tyX0_ok hown (hts (.classLink RX3 9 RX0) (List.mem_of_getElem? (i := 4) rfl)) (hts (.instantiable RX0 4) (List.mem_of_getElem? (i := 6) rfl)) (hts (.initialized RX0) (List.mem_of_getElem? (i := 7) rfl)) hK hw hS rfl rfl rfl df_0 (Nat.le_of_ble_eq_true rfl) (Nat.le_of_ble_eq_true rfl) dX3_init_29 (fun H hw hS => ?_)
  refine lv_dup hx hb dX3_init_32 rfl ?_
  refine n_go (rest := [.ref (z + 27), .int (1 : Int32), .ref (z + 23)]) ⟨hx, hb, hml, hown, hts⟩ hK hw hS (i_X0 (a := 27) (n := 28) (by decide) rfl rfl rfl rfl rfl) ⟨va_cnB 0 hts gX3_init_X0_init_n17 rfl rfl rfl n1 (hts (.initialized RX0) (List.mem_of_getElem? (i := 7) rfl)) hn_X0_init ⟨(Nat.le_of_ble_eq_true rfl), (Nat.le_of_ble_eq_true rfl)⟩, rfl, (hts (.instanceMethod yX0_init) (List.mem_of_getElem? (i := 8) rfl))⟩ hl.1 rfl (Nat.le_of_ble_eq_true rfl) dX3_init_33 ⟨(Nat.le_of_ble_eq_true rfl), (Nat.le_of_ble_eq_true rfl)⟩ (fun H locs hw hS => ?_)
  have hw : Wn D cA z 30 (u_X3_22_4 μ) H := hw
  refine n_aast (a := 23) (b := 27) (ca := 13) (ci := 0) (t0 := 2) (r := (RX0, TX0, 4)) (j := 1) hx hb hK hw hS (by decide) (by decide) rfl rfl rfl rfl rfl rfl (by decide) (ckb_in (by decide)) rfl dX3_init_36 (fun H locs hw hS => ?_)
  have hw : Wn D cA z 30 (u_X3_22_5 μ) H := hw
  refine lv_iinc (v := (2 : Int32)) (lv' := [(1, .int (2 : Int32)), (0, .ref (z + 22))]) hx hb dX3_init_37 hl (k := 0) rfl (by decide) (by decide) rfl (fun ls hl => ?_)
  refine lv_goto (tgt := 15) hx hb dX3_init_40 (by decide) ?_
  refine lv_iload_n hx hb dX3_init_15 rfl (lv_at hl 0 rfl) ?_
  refine lv_aload_n hx hb dX3_init_16 rfl (lv_at hl 1 rfl) ?_
  refine n_getr (a := 22) (ci := 3) (b := 23) hx hb hts (fun w h => List.mem_cons_of_mem _ (List.mem_append_left _ (List.mem_append_right _ (h)))) hown hK hw (by decide) rfl rfl rfl fs_3_0 (hts (.fieldLink RX3 11 "LevelVotes$History" "past" "[LLevelVotes$Ballot;") (List.mem_of_getElem? (i := 5) rfl)) dX3_init_17 ?_
  refine n_alen (a := 23) (ci := 13) (v := 20) hx hb hK hw (by decide) rfl rfl (by decide) dX3_init_20 ?_
  refine lv_icmp_ge (tgt := 43) hx hb dX3_init_21 (by decide) (fun q => absurd q (by decide)) (fun _ => ?_)
  refine lv_aload_n hx hb dX3_init_24 rfl (lv_at hl 1 rfl) ?_
  refine n_getr (a := 22) (ci := 3) (b := 23) hx hb hts (fun w h => List.mem_cons_of_mem _ (List.mem_append_left _ (List.mem_append_right _ (h)))) hown hK hw (by decide) rfl rfl rfl fs_3_0 (hts (.fieldLink RX3 11 "LevelVotes$History" "past" "[LLevelVotes$Ballot;") (List.mem_of_getElem? (i := 5) rfl)) dX3_init_25 ?_
  refine lv_iload_n hx hb dX3_init_28 rfl (lv_at hl 0 rfl) ?_
  refine n_new (ci := 0) hx hb hts (fun w h => List.mem_cons_of_mem _ (List.mem_append_right _ (h))) tyX0 tyX0_ok hown (hts (.classLink RX3 9 RX0) (List.mem_of_getElem? (i := 4) rfl)) (hts (.instantiable RX0 4) (List.mem_of_getElem? (i := 6) rfl)) (hts (.initialized RX0) (List.mem_of_getElem? (i := 7) rfl)) hK hw hS rfl rfl rfl df_0 (Nat.le_of_ble_eq_true rfl) (Nat.le_of_ble_eq_true rfl) dX3_init_29 (fun H hw hS => ?_)
  refine lv_dup hx hb dX3_init_32 rfl ?_
  refine n_go (rest := [.ref (z + 30), .int (2 : Int32), .ref (z + 23)]) ⟨hx, hb, hml, hown, hts⟩ hK hw hS (i_X0 (a := 30) (n := 31) (by decide) rfl rfl rfl rfl rfl) ⟨va_cnB 0 hts gX3_init_X0_init_n17 rfl rfl rfl n1 (hts (.initialized RX0) (List.mem_of_getElem? (i := 7) rfl)) hn_X0_init ⟨(Nat.le_of_ble_eq_true rfl), (Nat.le_of_ble_eq_true rfl)⟩, rfl, (hts (.instanceMethod yX0_init) (List.mem_of_getElem? (i := 8) rfl))⟩ hl.1 rfl (Nat.le_of_ble_eq_true rfl) dX3_init_33 ⟨(Nat.le_of_ble_eq_true rfl), (Nat.le_of_ble_eq_true rfl)⟩ (fun H locs hw hS => ?_)
  have hw : Wn D cA z 33 (u_X3_22_6 μ) H := hw
  refine n_aast (a := 23) (b := 30) (ca := 13) (ci := 0) (t0 := 2) (r := (RX0, TX0, 4)) (j := 2) hx hb hK hw hS (by decide) (by decide) rfl rfl rfl rfl rfl rfl (by decide) (ckb_in (by decide)) rfl dX3_init_36 (fun H locs hw hS => ?_)
  have hw : Wn D cA z 33 (u_X3_22_7 μ) H := hw
  refine lv_iinc (v := (3 : Int32)) (lv' := [(1, .int (3 : Int32)), (0, .ref (z + 22))]) hx hb dX3_init_37 hl (k := 0) rfl (by decide) (by decide) rfl (fun ls hl => ?_)
  refine lv_goto (tgt := 15) hx hb dX3_init_40 (by decide) ?_
  refine lv_iload_n hx hb dX3_init_15 rfl (lv_at hl 0 rfl) ?_
  refine lv_aload_n hx hb dX3_init_16 rfl (lv_at hl 1 rfl) ?_
  refine n_getr (a := 22) (ci := 3) (b := 23) hx hb hts (fun w h => List.mem_cons_of_mem _ (List.mem_append_left _ (List.mem_append_right _ (h)))) hown hK hw (by decide) rfl rfl rfl fs_3_0 (hts (.fieldLink RX3 11 "LevelVotes$History" "past" "[LLevelVotes$Ballot;") (List.mem_of_getElem? (i := 5) rfl)) dX3_init_17 ?_
  refine n_alen (a := 23) (ci := 13) (v := 20) hx hb hK hw (by decide) rfl rfl (by decide) dX3_init_20 ?_
  refine lv_icmp_ge (tgt := 43) hx hb dX3_init_21 (by decide) (fun q => absurd q (by decide)) (fun _ => ?_)
  refine lv_aload_n hx hb dX3_init_24 rfl (lv_at hl 1 rfl) ?_
  refine n_getr (a := 22) (ci := 3) (b := 23) hx hb hts (fun w h => List.mem_cons_of_mem _ (List.mem_append_left _ (List.mem_append_right _ (h)))) hown hK hw (by decide) rfl rfl rfl fs_3_0 (hts (.fieldLink RX3 11 "LevelVotes$History" "past" "[LLevelVotes$Ballot;") (List.mem_of_getElem? (i := 5) rfl)) dX3_init_25 ?_
  refine lv_iload_n hx hb dX3_init_28 rfl (lv_at hl 0 rfl) ?_
  refine n_new (ci := 0) hx hb hts (fun w h => List.mem_cons_of_mem _ (List.mem_append_right _ (h))) tyX0 tyX0_ok hown (hts (.classLink RX3 9 RX0) (List.mem_of_getElem? (i := 4) rfl)) (hts (.instantiable RX0 4) (List.mem_of_getElem? (i := 6) rfl)) (hts (.initialized RX0) (List.mem_of_getElem? (i := 7) rfl)) hK hw hS rfl rfl rfl df_0 (Nat.le_of_ble_eq_true rfl) (Nat.le_of_ble_eq_true rfl) dX3_init_29 (fun H hw hS => ?_)
  refine lv_dup hx hb dX3_init_32 rfl ?_
  refine n_go (rest := [.ref (z + 33), .int (3 : Int32), .ref (z + 23)]) ⟨hx, hb, hml, hown, hts⟩ hK hw hS (i_X0 (a := 33) (n := 34) (by decide) rfl rfl rfl rfl rfl) ⟨va_cnB 0 hts gX3_init_X0_init_n17 rfl rfl rfl n1 (hts (.initialized RX0) (List.mem_of_getElem? (i := 7) rfl)) hn_X0_init ⟨(Nat.le_of_ble_eq_true rfl), (Nat.le_of_ble_eq_true rfl)⟩, rfl, (hts (.instanceMethod yX0_init) (List.mem_of_getElem? (i := 8) rfl))⟩ hl.1 rfl (Nat.le_of_ble_eq_true rfl) dX3_init_33 ⟨(Nat.le_of_ble_eq_true rfl), (Nat.le_of_ble_eq_true rfl)⟩ (fun H locs hw hS => ?_)
  have hw : Wn D cA z 36 (u_X3_22_8 μ) H := hw
  refine n_aast (a := 23) (b := 33) (ca := 13) (ci := 0) (t0 := 2) (r := (RX0, TX0, 4)) (j := 3) hx hb hK hw hS (by decide) (by decide) rfl rfl rfl rfl rfl rfl (by decide) (ckb_in (by decide)) rfl dX3_init_36 (fun H locs hw hS => ?_)
  have hw : Wn D cA z 36 (u_X3_22_9 μ) H := hw
  refine lv_iinc (v := (4 : Int32)) (lv' := [(1, .int (4 : Int32)), (0, .ref (z + 22))]) hx hb dX3_init_37 hl (k := 0) rfl (by decide) (by decide) rfl (fun ls hl => ?_)
  refine lv_goto (tgt := 15) hx hb dX3_init_40 (by decide) ?_
  refine lv_iload_n hx hb dX3_init_15 rfl (lv_at hl 0 rfl) ?_
  refine lv_aload_n hx hb dX3_init_16 rfl (lv_at hl 1 rfl) ?_
  refine n_getr (a := 22) (ci := 3) (b := 23) hx hb hts (fun w h => List.mem_cons_of_mem _ (List.mem_append_left _ (List.mem_append_right _ (h)))) hown hK hw (by decide) rfl rfl rfl fs_3_0 (hts (.fieldLink RX3 11 "LevelVotes$History" "past" "[LLevelVotes$Ballot;") (List.mem_of_getElem? (i := 5) rfl)) dX3_init_17 ?_
  refine n_alen (a := 23) (ci := 13) (v := 20) hx hb hK hw (by decide) rfl rfl (by decide) dX3_init_20 ?_
  refine lv_icmp_ge (tgt := 43) hx hb dX3_init_21 (by decide) (fun q => absurd q (by decide)) (fun _ => ?_)
  refine lv_aload_n hx hb dX3_init_24 rfl (lv_at hl 1 rfl) ?_
  refine n_getr (a := 22) (ci := 3) (b := 23) hx hb hts (fun w h => List.mem_cons_of_mem _ (List.mem_append_left _ (List.mem_append_right _ (h)))) hown hK hw (by decide) rfl rfl rfl fs_3_0 (hts (.fieldLink RX3 11 "LevelVotes$History" "past" "[LLevelVotes$Ballot;") (List.mem_of_getElem? (i := 5) rfl)) dX3_init_25 ?_
  refine lv_iload_n hx hb dX3_init_28 rfl (lv_at hl 0 rfl) ?_
  refine n_new (ci := 0) hx hb hts (fun w h => List.mem_cons_of_mem _ (List.mem_append_right _ (h))) tyX0 tyX0_ok hown (hts (.classLink RX3 9 RX0) (List.mem_of_getElem? (i := 4) rfl)) (hts (.instantiable RX0 4) (List.mem_of_getElem? (i := 6) rfl)) (hts (.initialized RX0) (List.mem_of_getElem? (i := 7) rfl)) hK hw hS rfl rfl rfl df_0 (Nat.le_of_ble_eq_true rfl) (Nat.le_of_ble_eq_true rfl) dX3_init_29 (fun H hw hS => ?_)
  refine lv_dup hx hb dX3_init_32 rfl ?_
  refine n_go (rest := [.ref (z + 36), .int (4 : Int32), .ref (z + 23)]) ⟨hx, hb, hml, hown, hts⟩ hK hw hS (i_X0 (a := 36) (n := 37) (by decide) rfl rfl rfl rfl rfl) ⟨va_cnB 0 hts gX3_init_X0_init_n17 rfl rfl rfl n1 (hts (.initialized RX0) (List.mem_of_getElem? (i := 7) rfl)) hn_X0_init ⟨(Nat.le_of_ble_eq_true rfl), (Nat.le_of_ble_eq_true rfl)⟩, rfl, (hts (.instanceMethod yX0_init) (List.mem_of_getElem? (i := 8) rfl))⟩ hl.1 rfl (Nat.le_of_ble_eq_true rfl) dX3_init_33 ⟨(Nat.le_of_ble_eq_true rfl), (Nat.le_of_ble_eq_true rfl)⟩ (fun H locs hw hS => ?_)
  have hw : Wn D cA z 39 (u_X3_22_10 μ) H := hw
  refine n_aast (a := 23) (b := 36) (ca := 13) (ci := 0) (t0 := 2) (r := (RX0, TX0, 4)) (j := 4) hx hb hK hw hS (by decide) (by decide) rfl rfl rfl rfl rfl rfl (by decide) (ckb_in (by decide)) rfl dX3_init_36 (fun H locs hw hS => ?_)
  have hw : Wn D cA z 39 (u_X3_22_11 μ) H := hw
  refine lv_iinc (v := (5 : Int32)) (lv' := [(1, .int (5 : Int32)), (0, .ref (z + 22))]) hx hb dX3_init_37 hl (k := 0) rfl (by decide) (by decide) rfl (fun ls hl => ?_)
  refine lv_goto (tgt := 15) hx hb dX3_init_40 (by decide) ?_
  refine lv_iload_n hx hb dX3_init_15 rfl (lv_at hl 0 rfl) ?_
  refine lv_aload_n hx hb dX3_init_16 rfl (lv_at hl 1 rfl) ?_
  refine n_getr (a := 22) (ci := 3) (b := 23) hx hb hts (fun w h => List.mem_cons_of_mem _ (List.mem_append_left _ (List.mem_append_right _ (h)))) hown hK hw (by decide) rfl rfl rfl fs_3_0 (hts (.fieldLink RX3 11 "LevelVotes$History" "past" "[LLevelVotes$Ballot;") (List.mem_of_getElem? (i := 5) rfl)) dX3_init_17 ?_
  refine n_alen (a := 23) (ci := 13) (v := 20) hx hb hK hw (by decide) rfl rfl (by decide) dX3_init_20 ?_
  refine lv_icmp_ge (tgt := 43) hx hb dX3_init_21 (by decide) (fun q => absurd q (by decide)) (fun _ => ?_)
  refine lv_aload_n hx hb dX3_init_24 rfl (lv_at hl 1 rfl) ?_
  refine n_getr (a := 22) (ci := 3) (b := 23) hx hb hts (fun w h => List.mem_cons_of_mem _ (List.mem_append_left _ (List.mem_append_right _ (h)))) hown hK hw (by decide) rfl rfl rfl fs_3_0 (hts (.fieldLink RX3 11 "LevelVotes$History" "past" "[LLevelVotes$Ballot;") (List.mem_of_getElem? (i := 5) rfl)) dX3_init_25 ?_
  refine lv_iload_n hx hb dX3_init_28 rfl (lv_at hl 0 rfl) ?_
  refine n_new (ci := 0) hx hb hts (fun w h => List.mem_cons_of_mem _ (List.mem_append_right _ (h))) tyX0 tyX0_ok hown (hts (.classLink RX3 9 RX0) (List.mem_of_getElem? (i := 4) rfl)) (hts (.instantiable RX0 4) (List.mem_of_getElem? (i := 6) rfl)) (hts (.initialized RX0) (List.mem_of_getElem? (i := 7) rfl)) hK hw hS rfl rfl rfl df_0 (Nat.le_of_ble_eq_true rfl) (Nat.le_of_ble_eq_true rfl) dX3_init_29 (fun H hw hS => ?_)
  refine lv_dup hx hb dX3_init_32 rfl ?_
  refine n_go (rest := [.ref (z + 39), .int (5 : Int32), .ref (z + 23)]) ⟨hx, hb, hml, hown, hts⟩ hK hw hS (i_X0 (a := 39) (n := 40) (by decide) rfl rfl rfl rfl rfl) ⟨va_cnB 0 hts gX3_init_X0_init_n17 rfl rfl rfl n1 (hts (.initialized RX0) (List.mem_of_getElem? (i := 7) rfl)) hn_X0_init ⟨(Nat.le_of_ble_eq_true rfl), (Nat.le_of_ble_eq_true rfl)⟩, rfl, (hts (.instanceMethod yX0_init) (List.mem_of_getElem? (i := 8) rfl))⟩ hl.1 rfl (Nat.le_of_ble_eq_true rfl) dX3_init_33 ⟨(Nat.le_of_ble_eq_true rfl), (Nat.le_of_ble_eq_true rfl)⟩ (fun H locs hw hS => ?_)
  have hw : Wn D cA z 42 (u_X3_22_12 μ) H := hw
  refine n_aast (a := 23) (b := 39) (ca := 13) (ci := 0) (t0 := 2) (r := (RX0, TX0, 4)) (j := 5) hx hb hK hw hS (by decide) (by decide) rfl rfl rfl rfl rfl rfl (by decide) (ckb_in (by decide)) rfl dX3_init_36 (fun H locs hw hS => ?_)
  have hw : Wn D cA z 42 (u_X3_22_13 μ) H := hw
  refine lv_iinc (v := (6 : Int32)) (lv' := [(1, .int (6 : Int32)), (0, .ref (z + 22))]) hx hb dX3_init_37 hl (k := 0) rfl (by decide) (by decide) rfl (fun ls hl => ?_)
  refine lv_goto (tgt := 15) hx hb dX3_init_40 (by decide) ?_
  refine lv_iload_n hx hb dX3_init_15 rfl (lv_at hl 0 rfl) ?_
  refine lv_aload_n hx hb dX3_init_16 rfl (lv_at hl 1 rfl) ?_
  refine n_getr (a := 22) (ci := 3) (b := 23) hx hb hts (fun w h => List.mem_cons_of_mem _ (List.mem_append_left _ (List.mem_append_right _ (h)))) hown hK hw (by decide) rfl rfl rfl fs_3_0 (hts (.fieldLink RX3 11 "LevelVotes$History" "past" "[LLevelVotes$Ballot;") (List.mem_of_getElem? (i := 5) rfl)) dX3_init_17 ?_
  refine n_alen (a := 23) (ci := 13) (v := 20) hx hb hK hw (by decide) rfl rfl (by decide) dX3_init_20 ?_
  refine lv_icmp_ge (tgt := 43) hx hb dX3_init_21 (by decide) (fun q => absurd q (by decide)) (fun _ => ?_)
  refine lv_aload_n hx hb dX3_init_24 rfl (lv_at hl 1 rfl) ?_
  refine n_getr (a := 22) (ci := 3) (b := 23) hx hb hts (fun w h => List.mem_cons_of_mem _ (List.mem_append_left _ (List.mem_append_right _ (h)))) hown hK hw (by decide) rfl rfl rfl fs_3_0 (hts (.fieldLink RX3 11 "LevelVotes$History" "past" "[LLevelVotes$Ballot;") (List.mem_of_getElem? (i := 5) rfl)) dX3_init_25 ?_
  refine lv_iload_n hx hb dX3_init_28 rfl (lv_at hl 0 rfl) ?_
  refine n_new (ci := 0) hx hb hts (fun w h => List.mem_cons_of_mem _ (List.mem_append_right _ (h))) tyX0 tyX0_ok hown (hts (.classLink RX3 9 RX0) (List.mem_of_getElem? (i := 4) rfl)) (hts (.instantiable RX0 4) (List.mem_of_getElem? (i := 6) rfl)) (hts (.initialized RX0) (List.mem_of_getElem? (i := 7) rfl)) hK hw hS rfl rfl rfl df_0 (Nat.le_of_ble_eq_true rfl) (Nat.le_of_ble_eq_true rfl) dX3_init_29 (fun H hw hS => ?_)
  refine lv_dup hx hb dX3_init_32 rfl ?_
  refine n_go (rest := [.ref (z + 42), .int (6 : Int32), .ref (z + 23)]) ⟨hx, hb, hml, hown, hts⟩ hK hw hS (i_X0 (a := 42) (n := 43) (by decide) rfl rfl rfl rfl rfl) ⟨va_cnB 0 hts gX3_init_X0_init_n17 rfl rfl rfl n1 (hts (.initialized RX0) (List.mem_of_getElem? (i := 7) rfl)) hn_X0_init ⟨(Nat.le_of_ble_eq_true rfl), (Nat.le_of_ble_eq_true rfl)⟩, rfl, (hts (.instanceMethod yX0_init) (List.mem_of_getElem? (i := 8) rfl))⟩ hl.1 rfl (Nat.le_of_ble_eq_true rfl) dX3_init_33 ⟨(Nat.le_of_ble_eq_true rfl), (Nat.le_of_ble_eq_true rfl)⟩ (fun H locs hw hS => ?_)
  have hw : Wn D cA z 45 (u_X3_22_14 μ) H := hw
  refine n_aast (a := 23) (b := 42) (ca := 13) (ci := 0) (t0 := 2) (r := (RX0, TX0, 4)) (j := 6) hx hb hK hw hS (by decide) (by decide) rfl rfl rfl rfl rfl rfl (by decide) (ckb_in (by decide)) rfl dX3_init_36 (fun H locs hw hS => ?_)
  have hw : Wn D cA z 45 (u_X3_22_15 μ) H := hw
  refine lv_iinc (v := (7 : Int32)) (lv' := [(1, .int (7 : Int32)), (0, .ref (z + 22))]) hx hb dX3_init_37 hl (k := 0) rfl (by decide) (by decide) rfl (fun ls hl => ?_)
  refine lv_goto (tgt := 15) hx hb dX3_init_40 (by decide) ?_
  refine lv_iload_n hx hb dX3_init_15 rfl (lv_at hl 0 rfl) ?_
  refine lv_aload_n hx hb dX3_init_16 rfl (lv_at hl 1 rfl) ?_
  refine n_getr (a := 22) (ci := 3) (b := 23) hx hb hts (fun w h => List.mem_cons_of_mem _ (List.mem_append_left _ (List.mem_append_right _ (h)))) hown hK hw (by decide) rfl rfl rfl fs_3_0 (hts (.fieldLink RX3 11 "LevelVotes$History" "past" "[LLevelVotes$Ballot;") (List.mem_of_getElem? (i := 5) rfl)) dX3_init_17 ?_
  refine n_alen (a := 23) (ci := 13) (v := 20) hx hb hK hw (by decide) rfl rfl (by decide) dX3_init_20 ?_
  refine lv_icmp_ge (tgt := 43) hx hb dX3_init_21 (by decide) (fun q => absurd q (by decide)) (fun _ => ?_)
  refine lv_aload_n hx hb dX3_init_24 rfl (lv_at hl 1 rfl) ?_
  refine n_getr (a := 22) (ci := 3) (b := 23) hx hb hts (fun w h => List.mem_cons_of_mem _ (List.mem_append_left _ (List.mem_append_right _ (h)))) hown hK hw (by decide) rfl rfl rfl fs_3_0 (hts (.fieldLink RX3 11 "LevelVotes$History" "past" "[LLevelVotes$Ballot;") (List.mem_of_getElem? (i := 5) rfl)) dX3_init_25 ?_
  refine lv_iload_n hx hb dX3_init_28 rfl (lv_at hl 0 rfl) ?_
  refine n_new (ci := 0) hx hb hts (fun w h => List.mem_cons_of_mem _ (List.mem_append_right _ (h))) tyX0 tyX0_ok hown (hts (.classLink RX3 9 RX0) (List.mem_of_getElem? (i := 4) rfl)) (hts (.instantiable RX0 4) (List.mem_of_getElem? (i := 6) rfl)) (hts (.initialized RX0) (List.mem_of_getElem? (i := 7) rfl)) hK hw hS rfl rfl rfl df_0 (Nat.le_of_ble_eq_true rfl) (Nat.le_of_ble_eq_true rfl) dX3_init_29 (fun H hw hS => ?_)
  refine lv_dup hx hb dX3_init_32 rfl ?_
  refine n_go (rest := [.ref (z + 45), .int (7 : Int32), .ref (z + 23)]) ⟨hx, hb, hml, hown, hts⟩ hK hw hS (i_X0 (a := 45) (n := 46) (by decide) rfl rfl rfl rfl rfl) ⟨va_cnB 0 hts gX3_init_X0_init_n17 rfl rfl rfl n1 (hts (.initialized RX0) (List.mem_of_getElem? (i := 7) rfl)) hn_X0_init ⟨(Nat.le_of_ble_eq_true rfl), (Nat.le_of_ble_eq_true rfl)⟩, rfl, (hts (.instanceMethod yX0_init) (List.mem_of_getElem? (i := 8) rfl))⟩ hl.1 rfl (Nat.le_of_ble_eq_true rfl) dX3_init_33 ⟨(Nat.le_of_ble_eq_true rfl), (Nat.le_of_ble_eq_true rfl)⟩ (fun H locs hw hS => ?_)
  have hw : Wn D cA z 48 (u_X3_22_16 μ) H := hw
  refine n_aast (a := 23) (b := 45) (ca := 13) (ci := 0) (t0 := 2) (r := (RX0, TX0, 4)) (j := 7) hx hb hK hw hS (by decide) (by decide) rfl rfl rfl rfl rfl rfl (by decide) (ckb_in (by decide)) rfl dX3_init_36 (fun H locs hw hS => ?_)
  have hw : Wn D cA z 48 (u_X3_22_17 μ) H := hw
  refine lv_iinc (v := (8 : Int32)) (lv' := [(1, .int (8 : Int32)), (0, .ref (z + 22))]) hx hb dX3_init_37 hl (k := 0) rfl (by decide) (by decide) rfl (fun ls hl => ?_)
  refine lv_goto (tgt := 15) hx hb dX3_init_40 (by decide) ?_
  refine lv_iload_n hx hb dX3_init_15 rfl (lv_at hl 0 rfl) ?_
  refine lv_aload_n hx hb dX3_init_16 rfl (lv_at hl 1 rfl) ?_
  refine n_getr (a := 22) (ci := 3) (b := 23) hx hb hts (fun w h => List.mem_cons_of_mem _ (List.mem_append_left _ (List.mem_append_right _ (h)))) hown hK hw (by decide) rfl rfl rfl fs_3_0 (hts (.fieldLink RX3 11 "LevelVotes$History" "past" "[LLevelVotes$Ballot;") (List.mem_of_getElem? (i := 5) rfl)) dX3_init_17 ?_
  refine n_alen (a := 23) (ci := 13) (v := 20) hx hb hK hw (by decide) rfl rfl (by decide) dX3_init_20 ?_
  refine lv_icmp_ge (tgt := 43) hx hb dX3_init_21 (by decide) (fun q => absurd q (by decide)) (fun _ => ?_)
  refine lv_aload_n hx hb dX3_init_24 rfl (lv_at hl 1 rfl) ?_
  refine n_getr (a := 22) (ci := 3) (b := 23) hx hb hts (fun w h => List.mem_cons_of_mem _ (List.mem_append_left _ (List.mem_append_right _ (h)))) hown hK hw (by decide) rfl rfl rfl fs_3_0 (hts (.fieldLink RX3 11 "LevelVotes$History" "past" "[LLevelVotes$Ballot;") (List.mem_of_getElem? (i := 5) rfl)) dX3_init_25 ?_
  refine lv_iload_n hx hb dX3_init_28 rfl (lv_at hl 0 rfl) ?_
  refine n_new (ci := 0) hx hb hts (fun w h => List.mem_cons_of_mem _ (List.mem_append_right _ (h))) tyX0 tyX0_ok hown (hts (.classLink RX3 9 RX0) (List.mem_of_getElem? (i := 4) rfl)) (hts (.instantiable RX0 4) (List.mem_of_getElem? (i := 6) rfl)) (hts (.initialized RX0) (List.mem_of_getElem? (i := 7) rfl)) hK hw hS rfl rfl rfl df_0 (Nat.le_of_ble_eq_true rfl) (Nat.le_of_ble_eq_true rfl) dX3_init_29 (fun H hw hS => ?_)
  refine lv_dup hx hb dX3_init_32 rfl ?_
  refine n_go (rest := [.ref (z + 48), .int (8 : Int32), .ref (z + 23)]) ⟨hx, hb, hml, hown, hts⟩ hK hw hS (i_X0 (a := 48) (n := 49) (by decide) rfl rfl rfl rfl rfl) ⟨va_cnB 0 hts gX3_init_X0_init_n17 rfl rfl rfl n1 (hts (.initialized RX0) (List.mem_of_getElem? (i := 7) rfl)) hn_X0_init ⟨(Nat.le_of_ble_eq_true rfl), (Nat.le_of_ble_eq_true rfl)⟩, rfl, (hts (.instanceMethod yX0_init) (List.mem_of_getElem? (i := 8) rfl))⟩ hl.1 rfl (Nat.le_of_ble_eq_true rfl) dX3_init_33 ⟨(Nat.le_of_ble_eq_true rfl), (Nat.le_of_ble_eq_true rfl)⟩ (fun H locs hw hS => ?_)
  have hw : Wn D cA z 51 (u_X3_22_18 μ) H := hw
  refine n_aast (a := 23) (b := 48) (ca := 13) (ci := 0) (t0 := 2) (r := (RX0, TX0, 4)) (j := 8) hx hb hK hw hS (by decide) (by decide) rfl rfl rfl rfl rfl rfl (by decide) (ckb_in (by decide)) rfl dX3_init_36 (fun H locs hw hS => ?_)
  have hw : Wn D cA z 51 (u_X3_22_19 μ) H := hw
  refine lv_iinc (v := (9 : Int32)) (lv' := [(1, .int (9 : Int32)), (0, .ref (z + 22))]) hx hb dX3_init_37 hl (k := 0) rfl (by decide) (by decide) rfl (fun ls hl => ?_)
  refine lv_goto (tgt := 15) hx hb dX3_init_40 (by decide) ?_
  refine lv_iload_n hx hb dX3_init_15 rfl (lv_at hl 0 rfl) ?_
  refine lv_aload_n hx hb dX3_init_16 rfl (lv_at hl 1 rfl) ?_
  refine n_getr (a := 22) (ci := 3) (b := 23) hx hb hts (fun w h => List.mem_cons_of_mem _ (List.mem_append_left _ (List.mem_append_right _ (h)))) hown hK hw (by decide) rfl rfl rfl fs_3_0 (hts (.fieldLink RX3 11 "LevelVotes$History" "past" "[LLevelVotes$Ballot;") (List.mem_of_getElem? (i := 5) rfl)) dX3_init_17 ?_
  refine n_alen (a := 23) (ci := 13) (v := 20) hx hb hK hw (by decide) rfl rfl (by decide) dX3_init_20 ?_
  refine lv_icmp_ge (tgt := 43) hx hb dX3_init_21 (by decide) (fun q => absurd q (by decide)) (fun _ => ?_)
  refine lv_aload_n hx hb dX3_init_24 rfl (lv_at hl 1 rfl) ?_
  refine n_getr (a := 22) (ci := 3) (b := 23) hx hb hts (fun w h => List.mem_cons_of_mem _ (List.mem_append_left _ (List.mem_append_right _ (h)))) hown hK hw (by decide) rfl rfl rfl fs_3_0 (hts (.fieldLink RX3 11 "LevelVotes$History" "past" "[LLevelVotes$Ballot;") (List.mem_of_getElem? (i := 5) rfl)) dX3_init_25 ?_
  refine lv_iload_n hx hb dX3_init_28 rfl (lv_at hl 0 rfl) ?_
  refine n_new (ci := 0) hx hb hts (fun w h => List.mem_cons_of_mem _ (List.mem_append_right _ (h))) tyX0 tyX0_ok hown (hts (.classLink RX3 9 RX0) (List.mem_of_getElem? (i := 4) rfl)) (hts (.instantiable RX0 4) (List.mem_of_getElem? (i := 6) rfl)) (hts (.initialized RX0) (List.mem_of_getElem? (i := 7) rfl)) hK hw hS rfl rfl rfl df_0 (Nat.le_of_ble_eq_true rfl) (Nat.le_of_ble_eq_true rfl) dX3_init_29 (fun H hw hS => ?_)
  refine lv_dup hx hb dX3_init_32 rfl ?_
  refine n_go (rest := [.ref (z + 51), .int (9 : Int32), .ref (z + 23)]) ⟨hx, hb, hml, hown, hts⟩ hK hw hS (i_X0 (a := 51) (n := 52) (by decide) rfl rfl rfl rfl rfl) ⟨va_cnB 0 hts gX3_init_X0_init_n17 rfl rfl rfl n1 (hts (.initialized RX0) (List.mem_of_getElem? (i := 7) rfl)) hn_X0_init ⟨(Nat.le_of_ble_eq_true rfl), (Nat.le_of_ble_eq_true rfl)⟩, rfl, (hts (.instanceMethod yX0_init) (List.mem_of_getElem? (i := 8) rfl))⟩ hl.1 rfl (Nat.le_of_ble_eq_true rfl) dX3_init_33 ⟨(Nat.le_of_ble_eq_true rfl), (Nat.le_of_ble_eq_true rfl)⟩ (fun H locs hw hS => ?_)
  have hw : Wn D cA z 54 (u_X3_22_20 μ) H := hw
  refine n_aast (a := 23) (b := 51) (ca := 13) (ci := 0) (t0 := 2) (r := (RX0, TX0, 4)) (j := 9) hx hb hK hw hS (by decide) (by decide) rfl rfl rfl rfl rfl rfl (by decide) (ckb_in (by decide)) rfl dX3_init_36 (fun H locs hw hS => ?_)
  have hw : Wn D cA z 54 (u_X3_22_21 μ) H := hw
  refine lv_iinc (v := (10 : Int32)) (lv' := [(1, .int (10 : Int32)), (0, .ref (z + 22))]) hx hb dX3_init_37 hl (k := 0) rfl (by decide) (by decide) rfl (fun ls hl => ?_)
  refine lv_goto (tgt := 15) hx hb dX3_init_40 (by decide) ?_
  refine lv_iload_n hx hb dX3_init_15 rfl (lv_at hl 0 rfl) ?_
  refine lv_aload_n hx hb dX3_init_16 rfl (lv_at hl 1 rfl) ?_
  refine n_getr (a := 22) (ci := 3) (b := 23) hx hb hts (fun w h => List.mem_cons_of_mem _ (List.mem_append_left _ (List.mem_append_right _ (h)))) hown hK hw (by decide) rfl rfl rfl fs_3_0 (hts (.fieldLink RX3 11 "LevelVotes$History" "past" "[LLevelVotes$Ballot;") (List.mem_of_getElem? (i := 5) rfl)) dX3_init_17 ?_
  refine n_alen (a := 23) (ci := 13) (v := 20) hx hb hK hw (by decide) rfl rfl (by decide) dX3_init_20 ?_
  refine lv_icmp_ge (tgt := 43) hx hb dX3_init_21 (by decide) (fun q => absurd q (by decide)) (fun _ => ?_)
  refine lv_aload_n hx hb dX3_init_24 rfl (lv_at hl 1 rfl) ?_
  refine n_getr (a := 22) (ci := 3) (b := 23) hx hb hts (fun w h => List.mem_cons_of_mem _ (List.mem_append_left _ (List.mem_append_right _ (h)))) hown hK hw (by decide) rfl rfl rfl fs_3_0 (hts (.fieldLink RX3 11 "LevelVotes$History" "past" "[LLevelVotes$Ballot;") (List.mem_of_getElem? (i := 5) rfl)) dX3_init_25 ?_
  refine lv_iload_n hx hb dX3_init_28 rfl (lv_at hl 0 rfl) ?_
  refine n_new (ci := 0) hx hb hts (fun w h => List.mem_cons_of_mem _ (List.mem_append_right _ (h))) tyX0 tyX0_ok hown (hts (.classLink RX3 9 RX0) (List.mem_of_getElem? (i := 4) rfl)) (hts (.instantiable RX0 4) (List.mem_of_getElem? (i := 6) rfl)) (hts (.initialized RX0) (List.mem_of_getElem? (i := 7) rfl)) hK hw hS rfl rfl rfl df_0 (Nat.le_of_ble_eq_true rfl) (Nat.le_of_ble_eq_true rfl) dX3_init_29 (fun H hw hS => ?_)
  refine lv_dup hx hb dX3_init_32 rfl ?_
  refine n_go (rest := [.ref (z + 54), .int (10 : Int32), .ref (z + 23)]) ⟨hx, hb, hml, hown, hts⟩ hK hw hS (i_X0 (a := 54) (n := 55) (by decide) rfl rfl rfl rfl rfl) ⟨va_cnB 0 hts gX3_init_X0_init_n17 rfl rfl rfl n1 (hts (.initialized RX0) (List.mem_of_getElem? (i := 7) rfl)) hn_X0_init ⟨(Nat.le_of_ble_eq_true rfl), (Nat.le_of_ble_eq_true rfl)⟩, rfl, (hts (.instanceMethod yX0_init) (List.mem_of_getElem? (i := 8) rfl))⟩ hl.1 rfl (Nat.le_of_ble_eq_true rfl) dX3_init_33 ⟨(Nat.le_of_ble_eq_true rfl), (Nat.le_of_ble_eq_true rfl)⟩ (fun H locs hw hS => ?_)
  have hw : Wn D cA z 57 (u_X3_22_22 μ) H := hw
  refine n_aast (a := 23) (b := 54) (ca := 13) (ci := 0) (t0 := 2) (r := (RX0, TX0, 4)) (j := 10) hx hb hK hw hS (by decide) (by decide) rfl rfl rfl rfl rfl rfl (by decide) (ckb_in (by decide)) rfl dX3_init_36 (fun H locs hw hS => ?_)
  have hw : Wn D cA z 57 (u_X3_22_23 μ) H := hw
  refine lv_iinc (v := (11 : Int32)) (lv' := [(1, .int (11 : Int32)), (0, .ref (z + 22))]) hx hb dX3_init_37 hl (k := 0) rfl (by decide) (by decide) rfl (fun ls hl => ?_)
  refine lv_goto (tgt := 15) hx hb dX3_init_40 (by decide) ?_
  refine lv_iload_n hx hb dX3_init_15 rfl (lv_at hl 0 rfl) ?_
  refine lv_aload_n hx hb dX3_init_16 rfl (lv_at hl 1 rfl) ?_
  refine n_getr (a := 22) (ci := 3) (b := 23) hx hb hts (fun w h => List.mem_cons_of_mem _ (List.mem_append_left _ (List.mem_append_right _ (h)))) hown hK hw (by decide) rfl rfl rfl fs_3_0 (hts (.fieldLink RX3 11 "LevelVotes$History" "past" "[LLevelVotes$Ballot;") (List.mem_of_getElem? (i := 5) rfl)) dX3_init_17 ?_
  refine n_alen (a := 23) (ci := 13) (v := 20) hx hb hK hw (by decide) rfl rfl (by decide) dX3_init_20 ?_
  refine lv_icmp_ge (tgt := 43) hx hb dX3_init_21 (by decide) (fun q => absurd q (by decide)) (fun _ => ?_)
  refine lv_aload_n hx hb dX3_init_24 rfl (lv_at hl 1 rfl) ?_
  refine n_getr (a := 22) (ci := 3) (b := 23) hx hb hts (fun w h => List.mem_cons_of_mem _ (List.mem_append_left _ (List.mem_append_right _ (h)))) hown hK hw (by decide) rfl rfl rfl fs_3_0 (hts (.fieldLink RX3 11 "LevelVotes$History" "past" "[LLevelVotes$Ballot;") (List.mem_of_getElem? (i := 5) rfl)) dX3_init_25 ?_
  refine lv_iload_n hx hb dX3_init_28 rfl (lv_at hl 0 rfl) ?_
  refine n_new (ci := 0) hx hb hts (fun w h => List.mem_cons_of_mem _ (List.mem_append_right _ (h))) tyX0 tyX0_ok hown (hts (.classLink RX3 9 RX0) (List.mem_of_getElem? (i := 4) rfl)) (hts (.instantiable RX0 4) (List.mem_of_getElem? (i := 6) rfl)) (hts (.initialized RX0) (List.mem_of_getElem? (i := 7) rfl)) hK hw hS rfl rfl rfl df_0 (Nat.le_of_ble_eq_true rfl) (Nat.le_of_ble_eq_true rfl) dX3_init_29 (fun H hw hS => ?_)
  refine lv_dup hx hb dX3_init_32 rfl ?_
  refine n_go (rest := [.ref (z + 57), .int (11 : Int32), .ref (z + 23)]) ⟨hx, hb, hml, hown, hts⟩ hK hw hS (i_X0 (a := 57) (n := 58) (by decide) rfl rfl rfl rfl rfl) ⟨va_cnB 0 hts gX3_init_X0_init_n17 rfl rfl rfl n1 (hts (.initialized RX0) (List.mem_of_getElem? (i := 7) rfl)) hn_X0_init ⟨(Nat.le_of_ble_eq_true rfl), (Nat.le_of_ble_eq_true rfl)⟩, rfl, (hts (.instanceMethod yX0_init) (List.mem_of_getElem? (i := 8) rfl))⟩ hl.1 rfl (Nat.le_of_ble_eq_true rfl) dX3_init_33 ⟨(Nat.le_of_ble_eq_true rfl), (Nat.le_of_ble_eq_true rfl)⟩ (fun H locs hw hS => ?_)
  have hw : Wn D cA z 60 (u_X3_22_24 μ) H := hw
  refine n_aast (a := 23) (b := 57) (ca := 13) (ci := 0) (t0 := 2) (r := (RX0, TX0, 4)) (j := 11) hx hb hK hw hS (by decide) (by decide) rfl rfl rfl rfl rfl rfl (by decide) (ckb_in (by decide)) rfl dX3_init_36 (fun H locs hw hS => ?_)
  have hw : Wn D cA z 60 (u_X3_22_25 μ) H := hw
  refine lv_iinc (v := (12 : Int32)) (lv' := [(1, .int (12 : Int32)), (0, .ref (z + 22))]) hx hb dX3_init_37 hl (k := 0) rfl (by decide) (by decide) rfl (fun ls hl => ?_)
  refine lv_goto (tgt := 15) hx hb dX3_init_40 (by decide) ?_
  refine lv_iload_n hx hb dX3_init_15 rfl (lv_at hl 0 rfl) ?_
  refine lv_aload_n hx hb dX3_init_16 rfl (lv_at hl 1 rfl) ?_
  refine n_getr (a := 22) (ci := 3) (b := 23) hx hb hts (fun w h => List.mem_cons_of_mem _ (List.mem_append_left _ (List.mem_append_right _ (h)))) hown hK hw (by decide) rfl rfl rfl fs_3_0 (hts (.fieldLink RX3 11 "LevelVotes$History" "past" "[LLevelVotes$Ballot;") (List.mem_of_getElem? (i := 5) rfl)) dX3_init_17 ?_
  refine n_alen (a := 23) (ci := 13) (v := 20) hx hb hK hw (by decide) rfl rfl (by decide) dX3_init_20 ?_
  refine lv_icmp_ge (tgt := 43) hx hb dX3_init_21 (by decide) (fun q => absurd q (by decide)) (fun _ => ?_)
  refine lv_aload_n hx hb dX3_init_24 rfl (lv_at hl 1 rfl) ?_
  refine n_getr (a := 22) (ci := 3) (b := 23) hx hb hts (fun w h => List.mem_cons_of_mem _ (List.mem_append_left _ (List.mem_append_right _ (h)))) hown hK hw (by decide) rfl rfl rfl fs_3_0 (hts (.fieldLink RX3 11 "LevelVotes$History" "past" "[LLevelVotes$Ballot;") (List.mem_of_getElem? (i := 5) rfl)) dX3_init_25 ?_
  refine lv_iload_n hx hb dX3_init_28 rfl (lv_at hl 0 rfl) ?_
  refine n_new (ci := 0) hx hb hts (fun w h => List.mem_cons_of_mem _ (List.mem_append_right _ (h))) tyX0 tyX0_ok hown (hts (.classLink RX3 9 RX0) (List.mem_of_getElem? (i := 4) rfl)) (hts (.instantiable RX0 4) (List.mem_of_getElem? (i := 6) rfl)) (hts (.initialized RX0) (List.mem_of_getElem? (i := 7) rfl)) hK hw hS rfl rfl rfl df_0 (Nat.le_of_ble_eq_true rfl) (Nat.le_of_ble_eq_true rfl) dX3_init_29 (fun H hw hS => ?_)
  refine lv_dup hx hb dX3_init_32 rfl ?_
  refine n_go (rest := [.ref (z + 60), .int (12 : Int32), .ref (z + 23)]) ⟨hx, hb, hml, hown, hts⟩ hK hw hS (i_X0 (a := 60) (n := 61) (by decide) rfl rfl rfl rfl rfl) ⟨va_cnB 0 hts gX3_init_X0_init_n17 rfl rfl rfl n1 (hts (.initialized RX0) (List.mem_of_getElem? (i := 7) rfl)) hn_X0_init ⟨(Nat.le_of_ble_eq_true rfl), (Nat.le_of_ble_eq_true rfl)⟩, rfl, (hts (.instanceMethod yX0_init) (List.mem_of_getElem? (i := 8) rfl))⟩ hl.1 rfl (Nat.le_of_ble_eq_true rfl) dX3_init_33 ⟨(Nat.le_of_ble_eq_true rfl), (Nat.le_of_ble_eq_true rfl)⟩ (fun H locs hw hS => ?_)
  have hw : Wn D cA z 63 (u_X3_22_26 μ) H := hw
  refine n_aast (a := 23) (b := 60) (ca := 13) (ci := 0) (t0 := 2) (r := (RX0, TX0, 4)) (j := 12) hx hb hK hw hS (by decide) (by decide) rfl rfl rfl rfl rfl rfl (by decide) (ckb_in (by decide)) rfl dX3_init_36 (fun H locs hw hS => ?_)
  have hw : Wn D cA z 63 (u_X3_22_27 μ) H := hw
  refine lv_iinc (v := (13 : Int32)) (lv' := [(1, .int (13 : Int32)), (0, .ref (z + 22))]) hx hb dX3_init_37 hl (k := 0) rfl (by decide) (by decide) rfl (fun ls hl => ?_)
  refine lv_goto (tgt := 15) hx hb dX3_init_40 (by decide) ?_
  refine lv_iload_n hx hb dX3_init_15 rfl (lv_at hl 0 rfl) ?_
  refine lv_aload_n hx hb dX3_init_16 rfl (lv_at hl 1 rfl) ?_
  refine n_getr (a := 22) (ci := 3) (b := 23) hx hb hts (fun w h => List.mem_cons_of_mem _ (List.mem_append_left _ (List.mem_append_right _ (h)))) hown hK hw (by decide) rfl rfl rfl fs_3_0 (hts (.fieldLink RX3 11 "LevelVotes$History" "past" "[LLevelVotes$Ballot;") (List.mem_of_getElem? (i := 5) rfl)) dX3_init_17 ?_
  refine n_alen (a := 23) (ci := 13) (v := 20) hx hb hK hw (by decide) rfl rfl (by decide) dX3_init_20 ?_
  refine lv_icmp_ge (tgt := 43) hx hb dX3_init_21 (by decide) (fun q => absurd q (by decide)) (fun _ => ?_)
  refine lv_aload_n hx hb dX3_init_24 rfl (lv_at hl 1 rfl) ?_
  refine n_getr (a := 22) (ci := 3) (b := 23) hx hb hts (fun w h => List.mem_cons_of_mem _ (List.mem_append_left _ (List.mem_append_right _ (h)))) hown hK hw (by decide) rfl rfl rfl fs_3_0 (hts (.fieldLink RX3 11 "LevelVotes$History" "past" "[LLevelVotes$Ballot;") (List.mem_of_getElem? (i := 5) rfl)) dX3_init_25 ?_
  refine lv_iload_n hx hb dX3_init_28 rfl (lv_at hl 0 rfl) ?_
  refine n_new (ci := 0) hx hb hts (fun w h => List.mem_cons_of_mem _ (List.mem_append_right _ (h))) tyX0 tyX0_ok hown (hts (.classLink RX3 9 RX0) (List.mem_of_getElem? (i := 4) rfl)) (hts (.instantiable RX0 4) (List.mem_of_getElem? (i := 6) rfl)) (hts (.initialized RX0) (List.mem_of_getElem? (i := 7) rfl)) hK hw hS rfl rfl rfl df_0 (Nat.le_of_ble_eq_true rfl) (Nat.le_of_ble_eq_true rfl) dX3_init_29 (fun H hw hS => ?_)
  refine lv_dup hx hb dX3_init_32 rfl ?_
  refine n_go (rest := [.ref (z + 63), .int (13 : Int32), .ref (z + 23)]) ⟨hx, hb, hml, hown, hts⟩ hK hw hS (i_X0 (a := 63) (n := 64) (by decide) rfl rfl rfl rfl rfl) ⟨va_cnB 0 hts gX3_init_X0_init_n17 rfl rfl rfl n1 (hts (.initialized RX0) (List.mem_of_getElem? (i := 7) rfl)) hn_X0_init ⟨(Nat.le_of_ble_eq_true rfl), (Nat.le_of_ble_eq_true rfl)⟩, rfl, (hts (.instanceMethod yX0_init) (List.mem_of_getElem? (i := 8) rfl))⟩ hl.1 rfl (Nat.le_of_ble_eq_true rfl) dX3_init_33 ⟨(Nat.le_of_ble_eq_true rfl), (Nat.le_of_ble_eq_true rfl)⟩ (fun H locs hw hS => ?_)
  have hw : Wn D cA z 66 (u_X3_22_28 μ) H := hw
  refine n_aast (a := 23) (b := 63) (ca := 13) (ci := 0) (t0 := 2) (r := (RX0, TX0, 4)) (j := 13) hx hb hK hw hS (by decide) (by decide) rfl rfl rfl rfl rfl rfl (by decide) (ckb_in (by decide)) rfl dX3_init_36 (fun H locs hw hS => ?_)
  have hw : Wn D cA z 66 (u_X3_22_29 μ) H := hw
  refine lv_iinc (v := (14 : Int32)) (lv' := [(1, .int (14 : Int32)), (0, .ref (z + 22))]) hx hb dX3_init_37 hl (k := 0) rfl (by decide) (by decide) rfl (fun ls hl => ?_)
  refine lv_goto (tgt := 15) hx hb dX3_init_40 (by decide) ?_
  refine lv_iload_n hx hb dX3_init_15 rfl (lv_at hl 0 rfl) ?_
  refine lv_aload_n hx hb dX3_init_16 rfl (lv_at hl 1 rfl) ?_
  refine n_getr (a := 22) (ci := 3) (b := 23) hx hb hts (fun w h => List.mem_cons_of_mem _ (List.mem_append_left _ (List.mem_append_right _ (h)))) hown hK hw (by decide) rfl rfl rfl fs_3_0 (hts (.fieldLink RX3 11 "LevelVotes$History" "past" "[LLevelVotes$Ballot;") (List.mem_of_getElem? (i := 5) rfl)) dX3_init_17 ?_
  refine n_alen (a := 23) (ci := 13) (v := 20) hx hb hK hw (by decide) rfl rfl (by decide) dX3_init_20 ?_
  refine lv_icmp_ge (tgt := 43) hx hb dX3_init_21 (by decide) (fun q => absurd q (by decide)) (fun _ => ?_)
  refine lv_aload_n hx hb dX3_init_24 rfl (lv_at hl 1 rfl) ?_
  refine n_getr (a := 22) (ci := 3) (b := 23) hx hb hts (fun w h => List.mem_cons_of_mem _ (List.mem_append_left _ (List.mem_append_right _ (h)))) hown hK hw (by decide) rfl rfl rfl fs_3_0 (hts (.fieldLink RX3 11 "LevelVotes$History" "past" "[LLevelVotes$Ballot;") (List.mem_of_getElem? (i := 5) rfl)) dX3_init_25 ?_
  refine lv_iload_n hx hb dX3_init_28 rfl (lv_at hl 0 rfl) ?_
  refine n_new (ci := 0) hx hb hts (fun w h => List.mem_cons_of_mem _ (List.mem_append_right _ (h))) tyX0 tyX0_ok hown (hts (.classLink RX3 9 RX0) (List.mem_of_getElem? (i := 4) rfl)) (hts (.instantiable RX0 4) (List.mem_of_getElem? (i := 6) rfl)) (hts (.initialized RX0) (List.mem_of_getElem? (i := 7) rfl)) hK hw hS rfl rfl rfl df_0 (Nat.le_of_ble_eq_true rfl) (Nat.le_of_ble_eq_true rfl) dX3_init_29 (fun H hw hS => ?_)
  refine lv_dup hx hb dX3_init_32 rfl ?_
  refine n_go (rest := [.ref (z + 66), .int (14 : Int32), .ref (z + 23)]) ⟨hx, hb, hml, hown, hts⟩ hK hw hS (i_X0 (a := 66) (n := 67) (by decide) rfl rfl rfl rfl rfl) ⟨va_cnB 0 hts gX3_init_X0_init_n17 rfl rfl rfl n1 (hts (.initialized RX0) (List.mem_of_getElem? (i := 7) rfl)) hn_X0_init ⟨(Nat.le_of_ble_eq_true rfl), (Nat.le_of_ble_eq_true rfl)⟩, rfl, (hts (.instanceMethod yX0_init) (List.mem_of_getElem? (i := 8) rfl))⟩ hl.1 rfl (Nat.le_of_ble_eq_true rfl) dX3_init_33 ⟨(Nat.le_of_ble_eq_true rfl), (Nat.le_of_ble_eq_true rfl)⟩ (fun H locs hw hS => ?_)
  have hw : Wn D cA z 69 (u_X3_22_30 μ) H := hw
  refine n_aast (a := 23) (b := 66) (ca := 13) (ci := 0) (t0 := 2) (r := (RX0, TX0, 4)) (j := 14) hx hb hK hw hS (by decide) (by decide) rfl rfl rfl rfl rfl rfl (by decide) (ckb_in (by decide)) rfl dX3_init_36 (fun H locs hw hS => ?_)
  have hw : Wn D cA z 69 (u_X3_22_31 μ) H := hw
  refine lv_iinc (v := (15 : Int32)) (lv' := [(1, .int (15 : Int32)), (0, .ref (z + 22))]) hx hb dX3_init_37 hl (k := 0) rfl (by decide) (by decide) rfl (fun ls hl => ?_)
  refine lv_goto (tgt := 15) hx hb dX3_init_40 (by decide) ?_
  refine lv_iload_n hx hb dX3_init_15 rfl (lv_at hl 0 rfl) ?_
  refine lv_aload_n hx hb dX3_init_16 rfl (lv_at hl 1 rfl) ?_
  refine n_getr (a := 22) (ci := 3) (b := 23) hx hb hts (fun w h => List.mem_cons_of_mem _ (List.mem_append_left _ (List.mem_append_right _ (h)))) hown hK hw (by decide) rfl rfl rfl fs_3_0 (hts (.fieldLink RX3 11 "LevelVotes$History" "past" "[LLevelVotes$Ballot;") (List.mem_of_getElem? (i := 5) rfl)) dX3_init_17 ?_
  refine n_alen (a := 23) (ci := 13) (v := 20) hx hb hK hw (by decide) rfl rfl (by decide) dX3_init_20 ?_
  refine lv_icmp_ge (tgt := 43) hx hb dX3_init_21 (by decide) (fun q => absurd q (by decide)) (fun _ => ?_)
  refine lv_aload_n hx hb dX3_init_24 rfl (lv_at hl 1 rfl) ?_
  refine n_getr (a := 22) (ci := 3) (b := 23) hx hb hts (fun w h => List.mem_cons_of_mem _ (List.mem_append_left _ (List.mem_append_right _ (h)))) hown hK hw (by decide) rfl rfl rfl fs_3_0 (hts (.fieldLink RX3 11 "LevelVotes$History" "past" "[LLevelVotes$Ballot;") (List.mem_of_getElem? (i := 5) rfl)) dX3_init_25 ?_
  refine lv_iload_n hx hb dX3_init_28 rfl (lv_at hl 0 rfl) ?_
  refine n_new (ci := 0) hx hb hts (fun w h => List.mem_cons_of_mem _ (List.mem_append_right _ (h))) tyX0 tyX0_ok hown (hts (.classLink RX3 9 RX0) (List.mem_of_getElem? (i := 4) rfl)) (hts (.instantiable RX0 4) (List.mem_of_getElem? (i := 6) rfl)) (hts (.initialized RX0) (List.mem_of_getElem? (i := 7) rfl)) hK hw hS rfl rfl rfl df_0 (Nat.le_of_ble_eq_true rfl) (Nat.le_of_ble_eq_true rfl) dX3_init_29 (fun H hw hS => ?_)
  refine lv_dup hx hb dX3_init_32 rfl ?_
  refine n_go (rest := [.ref (z + 69), .int (15 : Int32), .ref (z + 23)]) ⟨hx, hb, hml, hown, hts⟩ hK hw hS (i_X0 (a := 69) (n := 70) (by decide) rfl rfl rfl rfl rfl) ⟨va_cnB 0 hts gX3_init_X0_init_n17 rfl rfl rfl n1 (hts (.initialized RX0) (List.mem_of_getElem? (i := 7) rfl)) hn_X0_init ⟨(Nat.le_of_ble_eq_true rfl), (Nat.le_of_ble_eq_true rfl)⟩, rfl, (hts (.instanceMethod yX0_init) (List.mem_of_getElem? (i := 8) rfl))⟩ hl.1 rfl (Nat.le_of_ble_eq_true rfl) dX3_init_33 ⟨(Nat.le_of_ble_eq_true rfl), (Nat.le_of_ble_eq_true rfl)⟩ (fun H locs hw hS => ?_)
  have hw : Wn D cA z 72 (u_X3_22_32 μ) H := hw
  refine n_aast (a := 23) (b := 69) (ca := 13) (ci := 0) (t0 := 2) (r := (RX0, TX0, 4)) (j := 15) hx hb hK hw hS (by decide) (by decide) rfl rfl rfl rfl rfl rfl (by decide) (ckb_in (by decide)) rfl dX3_init_36 (fun H locs hw hS => ?_)
  have hw : Wn D cA z 72 (u_X3_22_33 μ) H := hw
  refine lv_iinc (v := (16 : Int32)) (lv' := [(1, .int (16 : Int32)), (0, .ref (z + 22))]) hx hb dX3_init_37 hl (k := 0) rfl (by decide) (by decide) rfl (fun ls hl => ?_)
  refine lv_goto (tgt := 15) hx hb dX3_init_40 (by decide) ?_
  refine lv_iload_n hx hb dX3_init_15 rfl (lv_at hl 0 rfl) ?_
  refine lv_aload_n hx hb dX3_init_16 rfl (lv_at hl 1 rfl) ?_
  refine n_getr (a := 22) (ci := 3) (b := 23) hx hb hts (fun w h => List.mem_cons_of_mem _ (List.mem_append_left _ (List.mem_append_right _ (h)))) hown hK hw (by decide) rfl rfl rfl fs_3_0 (hts (.fieldLink RX3 11 "LevelVotes$History" "past" "[LLevelVotes$Ballot;") (List.mem_of_getElem? (i := 5) rfl)) dX3_init_17 ?_
  refine n_alen (a := 23) (ci := 13) (v := 20) hx hb hK hw (by decide) rfl rfl (by decide) dX3_init_20 ?_
  refine lv_icmp_ge (tgt := 43) hx hb dX3_init_21 (by decide) (fun q => absurd q (by decide)) (fun _ => ?_)
  refine lv_aload_n hx hb dX3_init_24 rfl (lv_at hl 1 rfl) ?_
  refine n_getr (a := 22) (ci := 3) (b := 23) hx hb hts (fun w h => List.mem_cons_of_mem _ (List.mem_append_left _ (List.mem_append_right _ (h)))) hown hK hw (by decide) rfl rfl rfl fs_3_0 (hts (.fieldLink RX3 11 "LevelVotes$History" "past" "[LLevelVotes$Ballot;") (List.mem_of_getElem? (i := 5) rfl)) dX3_init_25 ?_
  refine lv_iload_n hx hb dX3_init_28 rfl (lv_at hl 0 rfl) ?_
  refine n_new (ci := 0) hx hb hts (fun w h => List.mem_cons_of_mem _ (List.mem_append_right _ (h))) tyX0 tyX0_ok hown (hts (.classLink RX3 9 RX0) (List.mem_of_getElem? (i := 4) rfl)) (hts (.instantiable RX0 4) (List.mem_of_getElem? (i := 6) rfl)) (hts (.initialized RX0) (List.mem_of_getElem? (i := 7) rfl)) hK hw hS rfl rfl rfl df_0 (Nat.le_of_ble_eq_true rfl) (Nat.le_of_ble_eq_true rfl) dX3_init_29 (fun H hw hS => ?_)
  refine lv_dup hx hb dX3_init_32 rfl ?_
  refine n_go (rest := [.ref (z + 72), .int (16 : Int32), .ref (z + 23)]) ⟨hx, hb, hml, hown, hts⟩ hK hw hS (i_X0 (a := 72) (n := 73) (by decide) rfl rfl rfl rfl rfl) ⟨va_cnB 0 hts gX3_init_X0_init_n17 rfl rfl rfl n1 (hts (.initialized RX0) (List.mem_of_getElem? (i := 7) rfl)) hn_X0_init ⟨(Nat.le_of_ble_eq_true rfl), (Nat.le_of_ble_eq_true rfl)⟩, rfl, (hts (.instanceMethod yX0_init) (List.mem_of_getElem? (i := 8) rfl))⟩ hl.1 rfl (Nat.le_of_ble_eq_true rfl) dX3_init_33 ⟨(Nat.le_of_ble_eq_true rfl), (Nat.le_of_ble_eq_true rfl)⟩ (fun H locs hw hS => ?_)
  have hw : Wn D cA z 75 (u_X3_22_34 μ) H := hw
  refine n_aast (a := 23) (b := 72) (ca := 13) (ci := 0) (t0 := 2) (r := (RX0, TX0, 4)) (j := 16) hx hb hK hw hS (by decide) (by decide) rfl rfl rfl rfl rfl rfl (by decide) (ckb_in (by decide)) rfl dX3_init_36 (fun H locs hw hS => ?_)
  have hw : Wn D cA z 75 (u_X3_22_35 μ) H := hw
  refine lv_iinc (v := (17 : Int32)) (lv' := [(1, .int (17 : Int32)), (0, .ref (z + 22))]) hx hb dX3_init_37 hl (k := 0) rfl (by decide) (by decide) rfl (fun ls hl => ?_)
  refine lv_goto (tgt := 15) hx hb dX3_init_40 (by decide) ?_
  refine lv_iload_n hx hb dX3_init_15 rfl (lv_at hl 0 rfl) ?_
  refine lv_aload_n hx hb dX3_init_16 rfl (lv_at hl 1 rfl) ?_
  refine n_getr (a := 22) (ci := 3) (b := 23) hx hb hts (fun w h => List.mem_cons_of_mem _ (List.mem_append_left _ (List.mem_append_right _ (h)))) hown hK hw (by decide) rfl rfl rfl fs_3_0 (hts (.fieldLink RX3 11 "LevelVotes$History" "past" "[LLevelVotes$Ballot;") (List.mem_of_getElem? (i := 5) rfl)) dX3_init_17 ?_
  refine n_alen (a := 23) (ci := 13) (v := 20) hx hb hK hw (by decide) rfl rfl (by decide) dX3_init_20 ?_
  refine lv_icmp_ge (tgt := 43) hx hb dX3_init_21 (by decide) (fun q => absurd q (by decide)) (fun _ => ?_)
  refine lv_aload_n hx hb dX3_init_24 rfl (lv_at hl 1 rfl) ?_
  refine n_getr (a := 22) (ci := 3) (b := 23) hx hb hts (fun w h => List.mem_cons_of_mem _ (List.mem_append_left _ (List.mem_append_right _ (h)))) hown hK hw (by decide) rfl rfl rfl fs_3_0 (hts (.fieldLink RX3 11 "LevelVotes$History" "past" "[LLevelVotes$Ballot;") (List.mem_of_getElem? (i := 5) rfl)) dX3_init_25 ?_
  refine lv_iload_n hx hb dX3_init_28 rfl (lv_at hl 0 rfl) ?_
  refine n_new (ci := 0) hx hb hts (fun w h => List.mem_cons_of_mem _ (List.mem_append_right _ (h))) tyX0 tyX0_ok hown (hts (.classLink RX3 9 RX0) (List.mem_of_getElem? (i := 4) rfl)) (hts (.instantiable RX0 4) (List.mem_of_getElem? (i := 6) rfl)) (hts (.initialized RX0) (List.mem_of_getElem? (i := 7) rfl)) hK hw hS rfl rfl rfl df_0 (Nat.le_of_ble_eq_true rfl) (Nat.le_of_ble_eq_true rfl) dX3_init_29 (fun H hw hS => ?_)
  refine lv_dup hx hb dX3_init_32 rfl ?_
  refine n_go (rest := [.ref (z + 75), .int (17 : Int32), .ref (z + 23)]) ⟨hx, hb, hml, hown, hts⟩ hK hw hS (i_X0 (a := 75) (n := 76) (by decide) rfl rfl rfl rfl rfl) ⟨va_cnB 0 hts gX3_init_X0_init_n17 rfl rfl rfl n1 (hts (.initialized RX0) (List.mem_of_getElem? (i := 7) rfl)) hn_X0_init ⟨(Nat.le_of_ble_eq_true rfl), (Nat.le_of_ble_eq_true rfl)⟩, rfl, (hts (.instanceMethod yX0_init) (List.mem_of_getElem? (i := 8) rfl))⟩ hl.1 rfl (Nat.le_of_ble_eq_true rfl) dX3_init_33 ⟨(Nat.le_of_ble_eq_true rfl), (Nat.le_of_ble_eq_true rfl)⟩ (fun H locs hw hS => ?_)
  have hw : Wn D cA z 78 (u_X3_22_36 μ) H := hw
  refine n_aast (a := 23) (b := 75) (ca := 13) (ci := 0) (t0 := 2) (r := (RX0, TX0, 4)) (j := 17) hx hb hK hw hS (by decide) (by decide) rfl rfl rfl rfl rfl rfl (by decide) (ckb_in (by decide)) rfl dX3_init_36 (fun H locs hw hS => ?_)
  have hw : Wn D cA z 78 (u_X3_22_37 μ) H := hw
  refine lv_iinc (v := (18 : Int32)) (lv' := [(1, .int (18 : Int32)), (0, .ref (z + 22))]) hx hb dX3_init_37 hl (k := 0) rfl (by decide) (by decide) rfl (fun ls hl => ?_)
  refine lv_goto (tgt := 15) hx hb dX3_init_40 (by decide) ?_
  refine lv_iload_n hx hb dX3_init_15 rfl (lv_at hl 0 rfl) ?_
  refine lv_aload_n hx hb dX3_init_16 rfl (lv_at hl 1 rfl) ?_
  refine n_getr (a := 22) (ci := 3) (b := 23) hx hb hts (fun w h => List.mem_cons_of_mem _ (List.mem_append_left _ (List.mem_append_right _ (h)))) hown hK hw (by decide) rfl rfl rfl fs_3_0 (hts (.fieldLink RX3 11 "LevelVotes$History" "past" "[LLevelVotes$Ballot;") (List.mem_of_getElem? (i := 5) rfl)) dX3_init_17 ?_
  refine n_alen (a := 23) (ci := 13) (v := 20) hx hb hK hw (by decide) rfl rfl (by decide) dX3_init_20 ?_
  refine lv_icmp_ge (tgt := 43) hx hb dX3_init_21 (by decide) (fun q => absurd q (by decide)) (fun _ => ?_)
  refine lv_aload_n hx hb dX3_init_24 rfl (lv_at hl 1 rfl) ?_
  refine n_getr (a := 22) (ci := 3) (b := 23) hx hb hts (fun w h => List.mem_cons_of_mem _ (List.mem_append_left _ (List.mem_append_right _ (h)))) hown hK hw (by decide) rfl rfl rfl fs_3_0 (hts (.fieldLink RX3 11 "LevelVotes$History" "past" "[LLevelVotes$Ballot;") (List.mem_of_getElem? (i := 5) rfl)) dX3_init_25 ?_
  refine lv_iload_n hx hb dX3_init_28 rfl (lv_at hl 0 rfl) ?_
  refine n_new (ci := 0) hx hb hts (fun w h => List.mem_cons_of_mem _ (List.mem_append_right _ (h))) tyX0 tyX0_ok hown (hts (.classLink RX3 9 RX0) (List.mem_of_getElem? (i := 4) rfl)) (hts (.instantiable RX0 4) (List.mem_of_getElem? (i := 6) rfl)) (hts (.initialized RX0) (List.mem_of_getElem? (i := 7) rfl)) hK hw hS rfl rfl rfl df_0 (Nat.le_of_ble_eq_true rfl) (Nat.le_of_ble_eq_true rfl) dX3_init_29 (fun H hw hS => ?_)
  refine lv_dup hx hb dX3_init_32 rfl ?_
  refine n_go (rest := [.ref (z + 78), .int (18 : Int32), .ref (z + 23)]) ⟨hx, hb, hml, hown, hts⟩ hK hw hS (i_X0 (a := 78) (n := 79) (by decide) rfl rfl rfl rfl rfl) ⟨va_cnB 0 hts gX3_init_X0_init_n17 rfl rfl rfl n1 (hts (.initialized RX0) (List.mem_of_getElem? (i := 7) rfl)) hn_X0_init ⟨(Nat.le_of_ble_eq_true rfl), (Nat.le_of_ble_eq_true rfl)⟩, rfl, (hts (.instanceMethod yX0_init) (List.mem_of_getElem? (i := 8) rfl))⟩ hl.1 rfl (Nat.le_of_ble_eq_true rfl) dX3_init_33 ⟨(Nat.le_of_ble_eq_true rfl), (Nat.le_of_ble_eq_true rfl)⟩ (fun H locs hw hS => ?_)
  have hw : Wn D cA z 81 (u_X3_22_38 μ) H := hw
  refine n_aast (a := 23) (b := 78) (ca := 13) (ci := 0) (t0 := 2) (r := (RX0, TX0, 4)) (j := 18) hx hb hK hw hS (by decide) (by decide) rfl rfl rfl rfl rfl rfl (by decide) (ckb_in (by decide)) rfl dX3_init_36 (fun H locs hw hS => ?_)
  have hw : Wn D cA z 81 (u_X3_22_39 μ) H := hw
  refine lv_iinc (v := (19 : Int32)) (lv' := [(1, .int (19 : Int32)), (0, .ref (z + 22))]) hx hb dX3_init_37 hl (k := 0) rfl (by decide) (by decide) rfl (fun ls hl => ?_)
  refine lv_goto (tgt := 15) hx hb dX3_init_40 (by decide) ?_
  refine lv_iload_n hx hb dX3_init_15 rfl (lv_at hl 0 rfl) ?_
  refine lv_aload_n hx hb dX3_init_16 rfl (lv_at hl 1 rfl) ?_
  refine n_getr (a := 22) (ci := 3) (b := 23) hx hb hts (fun w h => List.mem_cons_of_mem _ (List.mem_append_left _ (List.mem_append_right _ (h)))) hown hK hw (by decide) rfl rfl rfl fs_3_0 (hts (.fieldLink RX3 11 "LevelVotes$History" "past" "[LLevelVotes$Ballot;") (List.mem_of_getElem? (i := 5) rfl)) dX3_init_17 ?_
  refine n_alen (a := 23) (ci := 13) (v := 20) hx hb hK hw (by decide) rfl rfl (by decide) dX3_init_20 ?_
  refine lv_icmp_ge (tgt := 43) hx hb dX3_init_21 (by decide) (fun q => absurd q (by decide)) (fun _ => ?_)
  refine lv_aload_n hx hb dX3_init_24 rfl (lv_at hl 1 rfl) ?_
  refine n_getr (a := 22) (ci := 3) (b := 23) hx hb hts (fun w h => List.mem_cons_of_mem _ (List.mem_append_left _ (List.mem_append_right _ (h)))) hown hK hw (by decide) rfl rfl rfl fs_3_0 (hts (.fieldLink RX3 11 "LevelVotes$History" "past" "[LLevelVotes$Ballot;") (List.mem_of_getElem? (i := 5) rfl)) dX3_init_25 ?_
  refine lv_iload_n hx hb dX3_init_28 rfl (lv_at hl 0 rfl) ?_
  refine n_new (ci := 0) hx hb hts (fun w h => List.mem_cons_of_mem _ (List.mem_append_right _ (h))) tyX0 tyX0_ok hown (hts (.classLink RX3 9 RX0) (List.mem_of_getElem? (i := 4) rfl)) (hts (.instantiable RX0 4) (List.mem_of_getElem? (i := 6) rfl)) (hts (.initialized RX0) (List.mem_of_getElem? (i := 7) rfl)) hK hw hS rfl rfl rfl df_0 (Nat.le_of_ble_eq_true rfl) (Nat.le_of_ble_eq_true rfl) dX3_init_29 (fun H hw hS => ?_)
  refine lv_dup hx hb dX3_init_32 rfl ?_
  refine n_go (rest := [.ref (z + 81), .int (19 : Int32), .ref (z + 23)]) ⟨hx, hb, hml, hown, hts⟩ hK hw hS (i_X0 (a := 81) (n := 82) (by decide) rfl rfl rfl rfl rfl) ⟨va_cnB 0 hts gX3_init_X0_init_n17 rfl rfl rfl n1 (hts (.initialized RX0) (List.mem_of_getElem? (i := 7) rfl)) hn_X0_init ⟨(Nat.le_of_ble_eq_true rfl), (Nat.le_of_ble_eq_true rfl)⟩, rfl, (hts (.instanceMethod yX0_init) (List.mem_of_getElem? (i := 8) rfl))⟩ hl.1 rfl (Nat.le_of_ble_eq_true rfl) dX3_init_33 ⟨(Nat.le_of_ble_eq_true rfl), (Nat.le_of_ble_eq_true rfl)⟩ (fun H locs hw hS => ?_)
  have hw : Wn D cA z 84 (u_X3_22_40 μ) H := hw
  refine n_aast (a := 23) (b := 81) (ca := 13) (ci := 0) (t0 := 2) (r := (RX0, TX0, 4)) (j := 19) hx hb hK hw hS (by decide) (by decide) rfl rfl rfl rfl rfl rfl (by decide) (ckb_in (by decide)) rfl dX3_init_36 (fun H locs hw hS => ?_)
  have hw : Wn D cA z 84 (u_X3_22_41 μ) H := hw
  refine lv_iinc (v := (20 : Int32)) (lv' := [(1, .int (20 : Int32)), (0, .ref (z + 22))]) hx hb dX3_init_37 hl (k := 0) rfl (by decide) (by decide) rfl (fun ls hl => ?_)
  refine lv_goto (tgt := 15) hx hb dX3_init_40 (by decide) ?_
  refine lv_iload_n hx hb dX3_init_15 rfl (lv_at hl 0 rfl) ?_
  refine lv_aload_n hx hb dX3_init_16 rfl (lv_at hl 1 rfl) ?_
  refine n_getr (a := 22) (ci := 3) (b := 23) hx hb hts (fun w h => List.mem_cons_of_mem _ (List.mem_append_left _ (List.mem_append_right _ (h)))) hown hK hw (by decide) rfl rfl rfl fs_3_0 (hts (.fieldLink RX3 11 "LevelVotes$History" "past" "[LLevelVotes$Ballot;") (List.mem_of_getElem? (i := 5) rfl)) dX3_init_17 ?_
  refine n_alen (a := 23) (ci := 13) (v := 20) hx hb hK hw (by decide) rfl rfl (by decide) dX3_init_20 ?_
  refine lv_icmp_ge (tgt := 43) hx hb dX3_init_21 (by decide) (fun _ => ?_) (fun q => absurd (by decide) q)
  exact n_ret hx hb hr hlk hw hS rfl rfl dX3_init_43
def u_X1_85 (μ : Mm) : Mm := μ
set_option maxRecDepth 100000 in
theorem i_X1_85 {l : Launch} {D : va_G} {cA : Nat → ClassId} {z : Nat} {μ : Mm} : Cn l D cA z yX1_init wsX1_init 1 40 0 0 85 86 86 μ (u_X1_85 μ) := by
  refine n_in (cc := cX1_init) (maxL := 1) (own := RX1) (by decide) rfl rfl rfl (Nat.le_of_ble_eq_true rfl) ?_
  intro p e s m below meth c ls hx hb hr hlk hml hown hts hK hin2 hw hS hl
  obtain ⟨hK1, hA1, hA2, n1, n2, n3, n4, n5, n6, n7, n8, n9, n10, n11⟩ := id hK
  refine lv_aload_n hx hb dX1_init_0 rfl (lv_at hl 0 rfl) ?_
  refine W.objInit hx hb hown (hts (.methodLink RX1 3 objectInit) (List.mem_of_getElem? (i := 1) rfl)) (hts (.instanceMethod objectInit) (List.mem_of_getElem? (i := 2) rfl)) (hts (.code objectInit ⟨#[0xb1]⟩ 1 none) (List.mem_of_getElem? (i := 3) rfl)) rfl (by rw [hml]; exact hl.1) rfl dX1_init_1 (Nat.le_of_ble_eq_true rfl) (Nat.le_of_ble_eq_true rfl) ?_
  refine W.eq (g2 := F0 m 4 ls []) rfl ?_
  exact n_ret hx hb hr hlk hw hS rfl rfl dX1_init_4
def u_X6_86_1 (μ : Mm) : Mm := (μ.1, up2 μ.2 86 0 (some 87))
def u_X6_86_2 (μ : Mm) : Mm := ((u_X6_86_1 μ).1, up2 (u_X6_86_1 μ).2 86 1 (some 88))
def u_X6_86_3 (μ : Mm) : Mm := ((u_X6_86_2 μ).1, up2 (u_X6_86_2 μ).2 86 2 (some 89))
def u_X6_86_4 (μ : Mm) : Mm := ((u_X6_86_3 μ).1, up2 (u_X6_86_3 μ).2 86 3 (some 90))
def u_X6_86 (μ : Mm) : Mm := (u_X6_86_4 μ)
set_option maxRecDepth 100000 in
theorem i_X6_86 {l : Launch} {D : va_G} {cA : Nat → ClassId} {z : Nat} {μ : Mm} : Cn l D cA z yX6_init wsX6_init 1 40 4 42 86 87 91 μ (u_X6_86 μ) := by
  refine n_in (cc := cX6_init) (maxL := 1) (own := RX6) (by decide) rfl rfl rfl (Nat.le_of_ble_eq_true rfl) ?_
  intro p e s m below meth c ls hx hb hr hlk hml hown hts hK hin2 hw hS hl
  obtain ⟨hK1, hA1, hA2, n1, n2, n3, n4, n5, n6, n7, n8, n9, n10, n11⟩ := id hK
  refine lv_aload_n hx hb dX6_init_0 rfl (lv_at hl 0 rfl) ?_
  refine W.objInit hx hb hown (hts (.methodLink RX6 3 objectInit) (List.mem_of_getElem? (i := 1) rfl)) (hts (.instanceMethod objectInit) (List.mem_of_getElem? (i := 2) rfl)) (hts (.code objectInit ⟨#[0xb1]⟩ 1 none) (List.mem_of_getElem? (i := 3) rfl)) rfl (by rw [hml]; exact hl.1) rfl dX6_init_1 (Nat.le_of_ble_eq_true rfl) (Nat.le_of_ble_eq_true rfl) ?_
  refine W.eq (g2 := F0 m 4 ls []) rfl ?_
  refine lv_aload_n hx hb dX6_init_4 rfl (lv_at hl 0 rfl) ?_
  refine lv_bipush (v := 6) hx hb dX6_init_5 (by decide) ?_
  refine n_newa (atype := .int) (N := 6) (ci := 11) hx hb (hts (.arrayClass .int) (List.mem_of_getElem? (i := 4) rfl)) hK hw hS rfl rfl (Or.inl ⟨rfl, rfl⟩) (by decide) (by decide) (by decide) (Nat.le_of_ble_eq_true rfl) (Nat.le_of_ble_eq_true rfl) dX6_init_7 (fun H hw hS => ?_)
  refine n_putr (a := 86) (b := 87) (ci := 6) hx hb hts (fun w h => List.mem_cons_of_mem _ (List.mem_append_right _ (h))) tyX6 tyX6_ok nmX6 hown hK hw hS (by decide) rfl rfl 0 fs_6_0 hin2 rfl (hts (.fieldLink RX6 9 "LevelVotes$Notebook" "from" "[I") (List.mem_of_getElem? (i := 5) rfl)) rfl rfl rfl dX6_init_9 (fun H locs hw hS => ?_)
  have hw : Wn D cA z 88 (u_X6_86_1 μ) H := hw
  refine lv_aload_n hx hb dX6_init_12 rfl (lv_at hl 0 rfl) ?_
  refine lv_bipush (v := 6) hx hb dX6_init_13 (by decide) ?_
  refine n_newa (atype := .int) (N := 6) (ci := 11) hx hb (hts (.arrayClass .int) (List.mem_of_getElem? (i := 4) rfl)) hK hw hS rfl rfl (Or.inl ⟨rfl, rfl⟩) (by decide) (by decide) (by decide) (Nat.le_of_ble_eq_true rfl) (Nat.le_of_ble_eq_true rfl) dX6_init_15 (fun H hw hS => ?_)
  refine n_putr (a := 86) (b := 88) (ci := 6) hx hb hts (fun w h => List.mem_cons_of_mem _ (List.mem_append_right _ (h))) tyX6 tyX6_ok nmX6 hown hK hw hS (by decide) rfl rfl 1 fs_6_1 hin2 rfl (hts (.fieldLink RX6 15 "LevelVotes$Notebook" "to" "[I") (List.mem_of_getElem? (i := 6) rfl)) rfl rfl rfl dX6_init_17 (fun H locs hw hS => ?_)
  have hw : Wn D cA z 89 (u_X6_86_2 μ) H := hw
  refine lv_aload_n hx hb dX6_init_20 rfl (lv_at hl 0 rfl) ?_
  refine lv_bipush (v := 15) hx hb dX6_init_21 (by decide) ?_
  refine n_newa (atype := .int) (N := 15) (ci := 11) hx hb (hts (.arrayClass .int) (List.mem_of_getElem? (i := 4) rfl)) hK hw hS rfl rfl (Or.inl ⟨rfl, rfl⟩) (by decide) (by decide) (by decide) (Nat.le_of_ble_eq_true rfl) (Nat.le_of_ble_eq_true rfl) dX6_init_23 (fun H hw hS => ?_)
  refine n_putr (a := 86) (b := 89) (ci := 6) hx hb hts (fun w h => List.mem_cons_of_mem _ (List.mem_append_right _ (h))) tyX6 tyX6_ok nmX6 hown hK hw hS (by decide) rfl rfl 2 fs_6_2 hin2 rfl (hts (.fieldLink RX6 18 "LevelVotes$Notebook" "where" "[I") (List.mem_of_getElem? (i := 7) rfl)) rfl rfl rfl dX6_init_25 (fun H locs hw hS => ?_)
  have hw : Wn D cA z 90 (u_X6_86_3 μ) H := hw
  refine lv_aload_n hx hb dX6_init_28 rfl (lv_at hl 0 rfl) ?_
  refine lv_bipush (v := 15) hx hb dX6_init_29 (by decide) ?_
  refine n_newa (atype := .int) (N := 15) (ci := 11) hx hb (hts (.arrayClass .int) (List.mem_of_getElem? (i := 4) rfl)) hK hw hS rfl rfl (Or.inl ⟨rfl, rfl⟩) (by decide) (by decide) (by decide) (Nat.le_of_ble_eq_true rfl) (Nat.le_of_ble_eq_true rfl) dX6_init_31 (fun H hw hS => ?_)
  refine n_putr (a := 86) (b := 90) (ci := 6) hx hb hts (fun w h => List.mem_cons_of_mem _ (List.mem_append_right _ (h))) tyX6 tyX6_ok nmX6 hown hK hw hS (by decide) rfl rfl 3 fs_6_3 hin2 rfl (hts (.fieldLink RX6 21 "LevelVotes$Notebook" "height" "[I") (List.mem_of_getElem? (i := 8) rfl)) rfl rfl rfl dX6_init_33 (fun H locs hw hS => ?_)
  have hw : Wn D cA z 91 (u_X6_86_4 μ) H := hw
  exact n_ret hx hb hr hlk hw hS rfl rfl dX6_init_36
def u_X8_91_1 (μ : Mm) : Mm := (μ.1, up2 μ.2 91 0 (some 92))
def u_X8_91 (μ : Mm) : Mm := (u_X8_91_1 μ)
set_option maxRecDepth 100000 in
theorem i_X8_91 {l : Launch} {D : va_G} {cA : Nat → ClassId} {z : Nat} {μ : Mm} : Cn l D cA z yX8_init wsX8_init 1 40 1 5 91 92 93 μ (u_X8_91 μ) := by
  refine n_in (cc := cX8_init) (maxL := 1) (own := RX8) (by decide) rfl rfl rfl (Nat.le_of_ble_eq_true rfl) ?_
  intro p e s m below meth c ls hx hb hr hlk hml hown hts hK hin2 hw hS hl
  obtain ⟨hK1, hA1, hA2, n1, n2, n3, n4, n5, n6, n7, n8, n9, n10, n11⟩ := id hK
  refine lv_aload_n hx hb dX8_init_0 rfl (lv_at hl 0 rfl) ?_
  refine W.objInit hx hb hown (hts (.methodLink RX8 3 objectInit) (List.mem_of_getElem? (i := 1) rfl)) (hts (.instanceMethod objectInit) (List.mem_of_getElem? (i := 2) rfl)) (hts (.code objectInit ⟨#[0xb1]⟩ 1 none) (List.mem_of_getElem? (i := 3) rfl)) rfl (by rw [hml]; exact hl.1) rfl dX8_init_1 (Nat.le_of_ble_eq_true rfl) (Nat.le_of_ble_eq_true rfl) ?_
  refine W.eq (g2 := F0 m 4 ls []) rfl ?_
  refine lv_aload_n hx hb dX8_init_4 rfl (lv_at hl 0 rfl) ?_
  refine lv_iconst (v := 5) hx hb dX8_init_5 (by decide) ?_
  refine n_newa (atype := .int) (N := 5) (ci := 11) hx hb (hts (.arrayClass .int) (List.mem_of_getElem? (i := 4) rfl)) hK hw hS rfl rfl (Or.inl ⟨rfl, rfl⟩) (by decide) (by decide) (by decide) (Nat.le_of_ble_eq_true rfl) (Nat.le_of_ble_eq_true rfl) dX8_init_6 (fun H hw hS => ?_)
  refine n_putr (a := 91) (b := 92) (ci := 8) hx hb hts (fun w h => List.mem_cons_of_mem _ (List.mem_append_right _ (h))) tyX8 tyX8_ok nmX8 hown hK hw hS (by decide) rfl rfl 0 fs_8_0 hin2 rfl (hts (.fieldLink RX8 9 "LevelVotes$Way" "stands" "[I") (List.mem_of_getElem? (i := 5) rfl)) rfl rfl rfl dX8_init_8 (fun H locs hw hS => ?_)
  have hw : Wn D cA z 93 (u_X8_91_1 μ) H := hw
  exact n_ret hx hb hr hlk hw hS rfl rfl dX8_init_11
def u_X2_93_1 (μ : Mm) : Mm := (μ.1, up2 μ.2 93 0 (some 94))
def u_X2_93_2 (μ : Mm) : Mm := ((u_X2_93_1 μ).1, up2 (u_X2_93_1 μ).2 93 1 (some 95))
def u_X2_93_3 (μ : Mm) : Mm := ((u_X2_93_2 μ).1, up2 (u_X2_93_2 μ).2 93 2 (some 96))
def u_X2_93 (μ : Mm) : Mm := (u_X2_93_3 μ)
set_option maxRecDepth 100000 in
theorem i_X2_93 {l : Launch} {D : va_G} {cA : Nat → ClassId} {z : Nat} {μ : Mm} : Cn l D cA z yX2_init wsX2_init 1 40 3 60 93 94 97 μ (u_X2_93 μ) := by
  refine n_in (cc := cX2_init) (maxL := 1) (own := RX2) (by decide) rfl rfl rfl (Nat.le_of_ble_eq_true rfl) ?_
  intro p e s m below meth c ls hx hb hr hlk hml hown hts hK hin2 hw hS hl
  obtain ⟨hK1, hA1, hA2, n1, n2, n3, n4, n5, n6, n7, n8, n9, n10, n11⟩ := id hK
  refine lv_aload_n hx hb dX2_init_0 rfl (lv_at hl 0 rfl) ?_
  refine W.objInit hx hb hown (hts (.methodLink RX2 3 objectInit) (List.mem_of_getElem? (i := 1) rfl)) (hts (.instanceMethod objectInit) (List.mem_of_getElem? (i := 2) rfl)) (hts (.code objectInit ⟨#[0xb1]⟩ 1 none) (List.mem_of_getElem? (i := 3) rfl)) rfl (by rw [hml]; exact hl.1) rfl dX2_init_1 (Nat.le_of_ble_eq_true rfl) (Nat.le_of_ble_eq_true rfl) ?_
  refine W.eq (g2 := F0 m 4 ls []) rfl ?_
  refine lv_aload_n hx hb dX2_init_4 rfl (lv_at hl 0 rfl) ?_
  refine lv_bipush (v := 20) hx hb dX2_init_5 (by decide) ?_
  refine n_newa (atype := .int) (N := 20) (ci := 11) hx hb (hts (.arrayClass .int) (List.mem_of_getElem? (i := 4) rfl)) hK hw hS rfl rfl (Or.inl ⟨rfl, rfl⟩) (by decide) (by decide) (by decide) (Nat.le_of_ble_eq_true rfl) (Nat.le_of_ble_eq_true rfl) dX2_init_7 (fun H hw hS => ?_)
  refine n_putr (a := 93) (b := 94) (ci := 2) hx hb hts (fun w h => List.mem_cons_of_mem _ (List.mem_append_right _ (h))) tyX2 tyX2_ok nmX2 hown hK hw hS (by decide) rfl rfl 0 fs_2_0 hin2 rfl (hts (.fieldLink RX2 9 "LevelVotes$Hill" "heights" "[I") (List.mem_of_getElem? (i := 5) rfl)) rfl rfl rfl dX2_init_9 (fun H locs hw hS => ?_)
  have hw : Wn D cA z 95 (u_X2_93_1 μ) H := hw
  refine lv_aload_n hx hb dX2_init_12 rfl (lv_at hl 0 rfl) ?_
  refine lv_bipush (v := 20) hx hb dX2_init_13 (by decide) ?_
  refine n_newa (atype := .int) (N := 20) (ci := 11) hx hb (hts (.arrayClass .int) (List.mem_of_getElem? (i := 4) rfl)) hK hw hS rfl rfl (Or.inl ⟨rfl, rfl⟩) (by decide) (by decide) (by decide) (Nat.le_of_ble_eq_true rfl) (Nat.le_of_ble_eq_true rfl) dX2_init_15 (fun H hw hS => ?_)
  refine n_putr (a := 93) (b := 95) (ci := 2) hx hb hts (fun w h => List.mem_cons_of_mem _ (List.mem_append_right _ (h))) tyX2 tyX2_ok nmX2 hown hK hw hS (by decide) rfl rfl 1 fs_2_1 hin2 rfl (hts (.fieldLink RX2 15 "LevelVotes$Hill" "shapers" "[I") (List.mem_of_getElem? (i := 6) rfl)) rfl rfl rfl dX2_init_17 (fun H locs hw hS => ?_)
  have hw : Wn D cA z 96 (u_X2_93_2 μ) H := hw
  refine lv_aload_n hx hb dX2_init_20 rfl (lv_at hl 0 rfl) ?_
  refine lv_bipush (v := 20) hx hb dX2_init_21 (by decide) ?_
  refine n_newa (atype := .int) (N := 20) (ci := 11) hx hb (hts (.arrayClass .int) (List.mem_of_getElem? (i := 4) rfl)) hK hw hS rfl rfl (Or.inl ⟨rfl, rfl⟩) (by decide) (by decide) (by decide) (Nat.le_of_ble_eq_true rfl) (Nat.le_of_ble_eq_true rfl) dX2_init_23 (fun H hw hS => ?_)
  refine n_putr (a := 93) (b := 96) (ci := 2) hx hb hts (fun w h => List.mem_cons_of_mem _ (List.mem_append_right _ (h))) tyX2 tyX2_ok nmX2 hown hK hw hS (by decide) rfl rfl 2 fs_2_2 hin2 rfl (hts (.fieldLink RX2 18 "LevelVotes$Hill" "nexts" "[I") (List.mem_of_getElem? (i := 7) rfl)) rfl rfl rfl dX2_init_25 (fun H locs hw hS => ?_)
  have hw : Wn D cA z 97 (u_X2_93_3 μ) H := hw
  exact n_ret hx hb hr hlk hw hS rfl rfl dX2_init_28
def u_X5_99_1 (μ : Mm) : Mm := u_X0 100 101 μ
def u_X5_99_2 (μ : Mm) : Mm := ((u_X5_99_1 μ).1, up2 (u_X5_99_1 μ).2 99 0 (some 100))
def u_X5_99 (μ : Mm) : Mm := (u_X5_99_2 μ)
set_option maxRecDepth 100000 in
theorem i_X5_99 {l : Launch} {D : va_G} {cA : Nat → ClassId} {z : Nat} {μ : Mm} : Cn l D cA z yX5_init wsX5_init 2 60 3 14 99 100 103 μ (u_X5_99 μ) := by
  refine n_in (cc := cX5_init) (maxL := 1) (own := RX5) (by decide) rfl rfl rfl (Nat.le_of_ble_eq_true rfl) ?_
  intro p e s m below meth c ls hx hb hr hlk hml hown hts hK hin2 hw hS hl
  obtain ⟨hK1, hA1, hA2, n1, n2, n3, n4, n5, n6, n7, n8, n9, n10, n11⟩ := id hK
  refine lv_aload_n hx hb dX5_init_0 rfl (lv_at hl 0 rfl) ?_
  refine W.objInit hx hb hown (hts (.methodLink RX5 1 objectInit) (List.mem_of_getElem? (i := 1) rfl)) (hts (.instanceMethod objectInit) (List.mem_of_getElem? (i := 2) rfl)) (hts (.code objectInit ⟨#[0xb1]⟩ 1 none) (List.mem_of_getElem? (i := 3) rfl)) rfl (by rw [hml]; exact hl.1) rfl dX5_init_1 (Nat.le_of_ble_eq_true rfl) (Nat.le_of_ble_eq_true rfl) ?_
  refine W.eq (g2 := F0 m 4 ls []) rfl ?_
  refine lv_aload_n hx hb dX5_init_4 rfl (lv_at hl 0 rfl) ?_
  refine n_new (ci := 0) hx hb hts (fun w h => List.mem_cons_of_mem _ (List.mem_append_left _ (List.mem_append_right _ (h)))) tyX0 tyX0_ok hown (hts (.classLink RX5 7 RX0) (List.mem_of_getElem? (i := 4) rfl)) (hts (.instantiable RX0 4) (List.mem_of_getElem? (i := 5) rfl)) (hts (.initialized RX0) (List.mem_of_getElem? (i := 6) rfl)) hK hw hS rfl rfl rfl df_0 (Nat.le_of_ble_eq_true rfl) (Nat.le_of_ble_eq_true rfl) dX5_init_5 (fun H hw hS => ?_)
  refine lv_dup hx hb dX5_init_8 rfl ?_
  refine n_go (rest := [.ref (z + 100), .ref (z + 99)]) ⟨hx, hb, hml, hown, hts⟩ hK hw hS (i_X0 (a := 100) (n := 101) (by decide) rfl rfl rfl rfl rfl) ⟨va_cnB 0 hts gX5_init_X0_init_n9 rfl rfl rfl n3 (hts (.initialized RX0) (List.mem_of_getElem? (i := 6) rfl)) hn_X0_init ⟨(Nat.le_of_ble_eq_true rfl), (Nat.le_of_ble_eq_true rfl)⟩, rfl, (hts (.instanceMethod yX0_init) (List.mem_of_getElem? (i := 8) rfl))⟩ hl.1 rfl (Nat.le_of_ble_eq_true rfl) dX5_init_9 ⟨(Nat.le_of_ble_eq_true rfl), (Nat.le_of_ble_eq_true rfl)⟩ (fun H locs hw hS => ?_)
  have hw : Wn D cA z 103 (u_X5_99_1 μ) H := hw
  refine n_putr (a := 99) (b := 100) (ci := 5) hx hb hts (fun w h => List.mem_cons_of_mem _ (List.mem_append_right _ (h))) tyX5 tyX5_ok nmX5 hown hK hw hS (by decide) rfl rfl 0 fs_5_0 hin2 rfl (hts (.fieldLink RX5 10 "LevelVotes$Image" "ballot" "LLevelVotes$Ballot;") (List.mem_of_getElem? (i := 7) rfl)) rfl rfl rfl dX5_init_12 (fun H locs hw hS => ?_)
  have hw : Wn D cA z 103 (u_X5_99_2 μ) H := hw
  exact n_ret hx hb hr hlk hw hS rfl rfl dX5_init_15
def u_X5_103_1 (μ : Mm) : Mm := u_X0 104 105 μ
def u_X5_103_2 (μ : Mm) : Mm := ((u_X5_103_1 μ).1, up2 (u_X5_103_1 μ).2 103 0 (some 104))
def u_X5_103 (μ : Mm) : Mm := (u_X5_103_2 μ)
set_option maxRecDepth 100000 in
theorem i_X5_103 {l : Launch} {D : va_G} {cA : Nat → ClassId} {z : Nat} {μ : Mm} : Cn l D cA z yX5_init wsX5_init 2 60 3 14 103 104 107 μ (u_X5_103 μ) := by
  refine n_in (cc := cX5_init) (maxL := 1) (own := RX5) (by decide) rfl rfl rfl (Nat.le_of_ble_eq_true rfl) ?_
  intro p e s m below meth c ls hx hb hr hlk hml hown hts hK hin2 hw hS hl
  obtain ⟨hK1, hA1, hA2, n1, n2, n3, n4, n5, n6, n7, n8, n9, n10, n11⟩ := id hK
  refine lv_aload_n hx hb dX5_init_0 rfl (lv_at hl 0 rfl) ?_
  refine W.objInit hx hb hown (hts (.methodLink RX5 1 objectInit) (List.mem_of_getElem? (i := 1) rfl)) (hts (.instanceMethod objectInit) (List.mem_of_getElem? (i := 2) rfl)) (hts (.code objectInit ⟨#[0xb1]⟩ 1 none) (List.mem_of_getElem? (i := 3) rfl)) rfl (by rw [hml]; exact hl.1) rfl dX5_init_1 (Nat.le_of_ble_eq_true rfl) (Nat.le_of_ble_eq_true rfl) ?_
  refine W.eq (g2 := F0 m 4 ls []) rfl ?_
  refine lv_aload_n hx hb dX5_init_4 rfl (lv_at hl 0 rfl) ?_
  refine n_new (ci := 0) hx hb hts (fun w h => List.mem_cons_of_mem _ (List.mem_append_left _ (List.mem_append_right _ (h)))) tyX0 tyX0_ok hown (hts (.classLink RX5 7 RX0) (List.mem_of_getElem? (i := 4) rfl)) (hts (.instantiable RX0 4) (List.mem_of_getElem? (i := 5) rfl)) (hts (.initialized RX0) (List.mem_of_getElem? (i := 6) rfl)) hK hw hS rfl rfl rfl df_0 (Nat.le_of_ble_eq_true rfl) (Nat.le_of_ble_eq_true rfl) dX5_init_5 (fun H hw hS => ?_)
  refine lv_dup hx hb dX5_init_8 rfl ?_
  refine n_go (rest := [.ref (z + 104), .ref (z + 103)]) ⟨hx, hb, hml, hown, hts⟩ hK hw hS (i_X0 (a := 104) (n := 105) (by decide) rfl rfl rfl rfl rfl) ⟨va_cnB 0 hts gX5_init_X0_init_n9 rfl rfl rfl n3 (hts (.initialized RX0) (List.mem_of_getElem? (i := 6) rfl)) hn_X0_init ⟨(Nat.le_of_ble_eq_true rfl), (Nat.le_of_ble_eq_true rfl)⟩, rfl, (hts (.instanceMethod yX0_init) (List.mem_of_getElem? (i := 8) rfl))⟩ hl.1 rfl (Nat.le_of_ble_eq_true rfl) dX5_init_9 ⟨(Nat.le_of_ble_eq_true rfl), (Nat.le_of_ble_eq_true rfl)⟩ (fun H locs hw hS => ?_)
  have hw : Wn D cA z 107 (u_X5_103_1 μ) H := hw
  refine n_putr (a := 103) (b := 104) (ci := 5) hx hb hts (fun w h => List.mem_cons_of_mem _ (List.mem_append_right _ (h))) tyX5 tyX5_ok nmX5 hown hK hw hS (by decide) rfl rfl 0 fs_5_0 hin2 rfl (hts (.fieldLink RX5 10 "LevelVotes$Image" "ballot" "LLevelVotes$Ballot;") (List.mem_of_getElem? (i := 7) rfl)) rfl rfl rfl dX5_init_12 (fun H locs hw hS => ?_)
  have hw : Wn D cA z 107 (u_X5_103_2 μ) H := hw
  exact n_ret hx hb hr hlk hw hS rfl rfl dX5_init_15
def u_X9_0_1 (μ : Mm) : Mm := u_X7_1 μ
def u_X9_0_2 (μ : Mm) : Mm := ((u_X9_0_1 μ).1, up2 (u_X9_0_1 μ).2 0 0 (some 1))
def u_X9_0_3 (μ : Mm) : Mm := u_X4_3 (u_X9_0_2 μ)
def u_X9_0_4 (μ : Mm) : Mm := ((u_X9_0_3 μ).1, up2 (u_X9_0_3 μ).2 0 1 (some 3))
def u_X9_0_5 (μ : Mm) : Mm := u_X4_11 (u_X9_0_4 μ)
def u_X9_0_6 (μ : Mm) : Mm := ((u_X9_0_5 μ).1, up2 (u_X9_0_5 μ).2 0 2 (some 11))
def u_X9_0_7 (μ : Mm) : Mm := (up2 (u_X9_0_6 μ).1 0 3 (-1 : Int32), (u_X9_0_6 μ).2)
def u_X9_0_8 (μ : Mm) : Mm := u_X0 19 20 (u_X9_0_7 μ)
def u_X9_0_9 (μ : Mm) : Mm := ((u_X9_0_8 μ).1, up2 (u_X9_0_8 μ).2 0 4 (some 19))
def u_X9_0_10 (μ : Mm) : Mm := u_X3_22 (u_X9_0_9 μ)
def u_X9_0_11 (μ : Mm) : Mm := ((u_X9_0_10 μ).1, up2 (u_X9_0_10 μ).2 0 5 (some 22))
def u_X9_0_12 (μ : Mm) : Mm := ((u_X9_0_11 μ).1, up2 (u_X9_0_11 μ).2 0 6 (some 84))
def u_X9_0_13 (μ : Mm) : Mm := u_X1_85 (u_X9_0_12 μ)
def u_X9_0_14 (μ : Mm) : Mm := ((u_X9_0_13 μ).1, up2 (u_X9_0_13 μ).2 0 7 (some 85))
def u_X9_0_15 (μ : Mm) : Mm := u_X6_86 (u_X9_0_14 μ)
def u_X9_0_16 (μ : Mm) : Mm := ((u_X9_0_15 μ).1, up2 (u_X9_0_15 μ).2 0 8 (some 86))
def u_X9_0_17 (μ : Mm) : Mm := u_X8_91 (u_X9_0_16 μ)
def u_X9_0_18 (μ : Mm) : Mm := ((u_X9_0_17 μ).1, up2 (u_X9_0_17 μ).2 0 9 (some 91))
def u_X9_0_19 (μ : Mm) : Mm := u_X2_93 (u_X9_0_18 μ)
def u_X9_0_20 (μ : Mm) : Mm := ((u_X9_0_19 μ).1, up2 (u_X9_0_19 μ).2 0 10 (some 93))
def u_X9_0_21 (μ : Mm) : Mm := ((u_X9_0_20 μ).1, up2 (u_X9_0_20 μ).2 0 11 (some 97))
def u_X9_0_22 (μ : Mm) : Mm := ((u_X9_0_21 μ).1, up2 (u_X9_0_21 μ).2 0 12 (some 98))
def u_X9_0_23 (μ : Mm) : Mm := u_X5_99 (u_X9_0_22 μ)
def u_X9_0_24 (μ : Mm) : Mm := ((u_X9_0_23 μ).1, up2 (u_X9_0_23 μ).2 84 0 (some 99))
def u_X9_0_25 (μ : Mm) : Mm := u_X5_103 (u_X9_0_24 μ)
def u_X9_0_26 (μ : Mm) : Mm := ((u_X9_0_25 μ).1, up2 (u_X9_0_25 μ).2 84 1 (some 103))
def u_X9_0 (μ : Mm) : Mm := (u_X9_0_26 μ)
set_option maxRecDepth 100000 in
theorem i_X9_0 {l : Launch} {D : va_G} {cA : Nat → ClassId} {z : Nat} {μ : Mm} : Cn l D cA z yX9_init wsX9_init 3 81 106 1255 0 1 107 μ (u_X9_0 μ) := by
  refine n_in (cc := cX9_init) (maxL := 2) (own := RX9) (by decide) rfl rfl rfl (Nat.le_of_ble_eq_true rfl) ?_
  intro p e s m below meth c ls hx hb hr hlk hml hown hts hK hin2 hw hS hl
  obtain ⟨hK1, hA1, hA2, n1, n2, n3, n4, n5, n6, n7, n8, n9, n10, n11⟩ := id hK
  refine lv_aload_n hx hb dX9_init_0 rfl (lv_at hl 0 rfl) ?_
  refine W.objInit hx hb hown (hts (.methodLink RX9 1 objectInit) (List.mem_of_getElem? (i := 1) rfl)) (hts (.instanceMethod objectInit) (List.mem_of_getElem? (i := 2) rfl)) (hts (.code objectInit ⟨#[0xb1]⟩ 1 none) (List.mem_of_getElem? (i := 3) rfl)) rfl (by rw [hml]; exact hl.1) rfl dX9_init_1 (Nat.le_of_ble_eq_true rfl) (Nat.le_of_ble_eq_true rfl) ?_
  refine W.eq (g2 := F0 m 4 ls []) rfl ?_
  refine lv_aload_n hx hb dX9_init_4 rfl (lv_at hl 0 rfl) ?_
  refine n_new (ci := 7) hx hb hts (fun w h => List.mem_cons_of_mem _ (List.mem_append_left _ (List.mem_append_left _ (List.mem_append_left _ (List.mem_append_left _ (List.mem_append_left _ (List.mem_append_left _ (List.mem_append_left _ (List.mem_append_left _ (List.mem_append_left _ (List.mem_append_right _ (h)))))))))))) tyX7 tyX7_ok hown (hts (.classLink RX9 7 RX7) (List.mem_of_getElem? (i := 4) rfl)) (hts (.instantiable RX7 6) (List.mem_of_getElem? (i := 5) rfl)) (hts (.initialized RX7) (List.mem_of_getElem? (i := 6) rfl)) hK hw hS rfl rfl rfl df_7 (Nat.le_of_ble_eq_true rfl) (Nat.le_of_ble_eq_true rfl) dX9_init_5 (fun H hw hS => ?_)
  refine lv_dup hx hb dX9_init_8 rfl ?_
  refine n_go (rest := [.ref (z + 1), .ref (z + 0)]) ⟨hx, hb, hml, hown, hts⟩ hK hw hS (i_X7_1) ⟨va_cnB 0 hts gX9_init_X7_init_n9 rfl rfl rfl n4 (hts (.initialized RX7) (List.mem_of_getElem? (i := 6) rfl)) hn_X7_init ⟨(Nat.le_of_ble_eq_true rfl), (Nat.le_of_ble_eq_true rfl)⟩, rfl, (hts (.instanceMethod yX7_init) (List.mem_of_getElem? (i := 45) rfl))⟩ hl.1 rfl (Nat.le_of_ble_eq_true rfl) dX9_init_9 ⟨(Nat.le_of_ble_eq_true rfl), (Nat.le_of_ble_eq_true rfl)⟩ (fun H locs hw hS => ?_)
  have hw : Wn D cA z 3 (u_X9_0_1 μ) H := hw
  refine n_putr (a := 0) (b := 1) (ci := 9) hx hb hts (fun w h => List.mem_cons_of_mem _ (List.mem_append_left _ (List.mem_append_left _ (List.mem_append_left _ (List.mem_append_left _ (List.mem_append_left _ (List.mem_append_left _ (List.mem_append_left _ (List.mem_append_left _ (List.mem_append_right _ (h))))))))))) tyX9 tyX9_ok nmX9 hown hK hw hS (by decide) rfl rfl 0 fs_9_0 hin2 rfl (hts (.fieldLink RX9 10 "LevelVotes" "text" "LLevelVotes$Text;") (List.mem_of_getElem? (i := 7) rfl)) rfl rfl rfl dX9_init_12 (fun H locs hw hS => ?_)
  have hw : Wn D cA z 3 (u_X9_0_2 μ) H := hw
  refine lv_aload_n hx hb dX9_init_15 rfl (lv_at hl 0 rfl) ?_
  refine n_new (ci := 4) hx hb hts (fun w h => List.mem_cons_of_mem _ (List.mem_append_left _ (List.mem_append_left _ (List.mem_append_left _ (List.mem_append_left _ (List.mem_append_left _ (List.mem_append_left _ (List.mem_append_left _ (List.mem_append_right _ (h)))))))))) tyX4 tyX4_ok hown (hts (.classLink RX9 16 RX4) (List.mem_of_getElem? (i := 8) rfl)) (hts (.instantiable RX4 11) (List.mem_of_getElem? (i := 9) rfl)) (hts (.initialized RX4) (List.mem_of_getElem? (i := 10) rfl)) hK hw hS rfl rfl rfl df_4 (Nat.le_of_ble_eq_true rfl) (Nat.le_of_ble_eq_true rfl) dX9_init_16 (fun H hw hS => ?_)
  refine lv_dup hx hb dX9_init_19 rfl ?_
  refine n_go (rest := [.ref (z + 3), .ref (z + 0)]) ⟨hx, hb, hml, hown, hts⟩ hK hw hS (i_X4_3) ⟨va_cnB 0 hts gX9_init_X4_init_n18 rfl rfl rfl n5 (hts (.initialized RX4) (List.mem_of_getElem? (i := 10) rfl)) hn_X4_init ⟨(Nat.le_of_ble_eq_true rfl), (Nat.le_of_ble_eq_true rfl)⟩, rfl, (hts (.instanceMethod yX4_init) (List.mem_of_getElem? (i := 50) rfl))⟩ hl.1 rfl (Nat.le_of_ble_eq_true rfl) dX9_init_20 ⟨(Nat.le_of_ble_eq_true rfl), (Nat.le_of_ble_eq_true rfl)⟩ (fun H locs hw hS => ?_)
  have hw : Wn D cA z 11 (u_X9_0_3 μ) H := hw
  refine n_putr (a := 0) (b := 3) (ci := 9) hx hb hts (fun w h => List.mem_cons_of_mem _ (List.mem_append_left _ (List.mem_append_left _ (List.mem_append_left _ (List.mem_append_left _ (List.mem_append_left _ (List.mem_append_left _ (List.mem_append_left _ (List.mem_append_left _ (List.mem_append_right _ (h))))))))))) tyX9 tyX9_ok nmX9 hown hK hw hS (by decide) rfl rfl 1 fs_9_1 hin2 rfl (hts (.fieldLink RX9 19 "LevelVotes" "plan" "LLevelVotes$House;") (List.mem_of_getElem? (i := 11) rfl)) rfl rfl rfl dX9_init_23 (fun H locs hw hS => ?_)
  have hw : Wn D cA z 11 (u_X9_0_4 μ) H := hw
  refine lv_aload_n hx hb dX9_init_26 rfl (lv_at hl 0 rfl) ?_
  refine n_new (ci := 4) hx hb hts (fun w h => List.mem_cons_of_mem _ (List.mem_append_left _ (List.mem_append_left _ (List.mem_append_left _ (List.mem_append_left _ (List.mem_append_left _ (List.mem_append_left _ (List.mem_append_left _ (List.mem_append_right _ (h)))))))))) tyX4 tyX4_ok hown (hts (.classLink RX9 16 RX4) (List.mem_of_getElem? (i := 8) rfl)) (hts (.instantiable RX4 11) (List.mem_of_getElem? (i := 9) rfl)) (hts (.initialized RX4) (List.mem_of_getElem? (i := 10) rfl)) hK hw hS rfl rfl rfl df_4 (Nat.le_of_ble_eq_true rfl) (Nat.le_of_ble_eq_true rfl) dX9_init_27 (fun H hw hS => ?_)
  refine lv_dup hx hb dX9_init_30 rfl ?_
  refine n_go (rest := [.ref (z + 11), .ref (z + 0)]) ⟨hx, hb, hml, hown, hts⟩ hK hw hS (i_X4_11) ⟨va_cnB 0 hts gX9_init_X4_init_n18 rfl rfl rfl n5 (hts (.initialized RX4) (List.mem_of_getElem? (i := 10) rfl)) hn_X4_init ⟨(Nat.le_of_ble_eq_true rfl), (Nat.le_of_ble_eq_true rfl)⟩, rfl, (hts (.instanceMethod yX4_init) (List.mem_of_getElem? (i := 50) rfl))⟩ hl.1 rfl (Nat.le_of_ble_eq_true rfl) dX9_init_31 ⟨(Nat.le_of_ble_eq_true rfl), (Nat.le_of_ble_eq_true rfl)⟩ (fun H locs hw hS => ?_)
  have hw : Wn D cA z 19 (u_X9_0_5 μ) H := hw
  refine n_putr (a := 0) (b := 11) (ci := 9) hx hb hts (fun w h => List.mem_cons_of_mem _ (List.mem_append_left _ (List.mem_append_left _ (List.mem_append_left _ (List.mem_append_left _ (List.mem_append_left _ (List.mem_append_left _ (List.mem_append_left _ (List.mem_append_left _ (List.mem_append_right _ (h))))))))))) tyX9 tyX9_ok nmX9 hown hK hw hS (by decide) rfl rfl 2 fs_9_2 hin2 rfl (hts (.fieldLink RX9 23 "LevelVotes" "draft" "LLevelVotes$House;") (List.mem_of_getElem? (i := 12) rfl)) rfl rfl rfl dX9_init_34 (fun H locs hw hS => ?_)
  have hw : Wn D cA z 19 (u_X9_0_6 μ) H := hw
  refine lv_aload_n hx hb dX9_init_37 rfl (lv_at hl 0 rfl) ?_
  refine lv_iconst (v := -1) hx hb dX9_init_38 (by decide) ?_
  refine n_puti (a := 0) (ci := 9) hx hb hts (fun w h => List.mem_cons_of_mem _ (List.mem_append_left _ (List.mem_append_left _ (List.mem_append_left _ (List.mem_append_left _ (List.mem_append_left _ (List.mem_append_left _ (List.mem_append_left _ (List.mem_append_left _ (List.mem_append_right _ (h))))))))))) tyX9 tyX9_ok nmX9 hown hK hw hS (by decide) rfl rfl 3 fs_9_3 hin2 rfl (hts (.fieldLink RX9 26 "LevelVotes" "faultAt" "I") (List.mem_of_getElem? (i := 13) rfl)) (vp_nar_int _) rfl dX9_init_39 (fun H locs hw hS => ?_)
  have hw : Wn D cA z 19 (u_X9_0_7 μ) H := hw
  refine lv_aload_n hx hb dX9_init_42 rfl (lv_at hl 0 rfl) ?_
  refine n_new (ci := 0) hx hb hts (fun w h => List.mem_cons_of_mem _ (List.mem_append_left _ (List.mem_append_left _ (List.mem_append_left _ (List.mem_append_left _ (List.mem_append_left _ (List.mem_append_left _ (List.mem_append_right _ (h))))))))) tyX0 tyX0_ok hown (hts (.classLink RX9 30 RX0) (List.mem_of_getElem? (i := 14) rfl)) (hts (.instantiable RX0 4) (List.mem_of_getElem? (i := 15) rfl)) (hts (.initialized RX0) (List.mem_of_getElem? (i := 16) rfl)) hK hw hS rfl rfl rfl df_0 (Nat.le_of_ble_eq_true rfl) (Nat.le_of_ble_eq_true rfl) dX9_init_43 (fun H hw hS => ?_)
  refine lv_dup hx hb dX9_init_46 rfl ?_
  refine n_go (rest := [.ref (z + 19), .ref (z + 0)]) ⟨hx, hb, hml, hown, hts⟩ hK hw hS (i_X0 (a := 19) (n := 20) (by decide) rfl rfl rfl rfl rfl) ⟨va_cnB 0 hts gX9_init_X0_init_n32 rfl rfl rfl n6 (hts (.initialized RX0) (List.mem_of_getElem? (i := 16) rfl)) hn_X0_init ⟨(Nat.le_of_ble_eq_true rfl), (Nat.le_of_ble_eq_true rfl)⟩, rfl, (hts (.instanceMethod yX0_init) (List.mem_of_getElem? (i := 59) rfl))⟩ hl.1 rfl (Nat.le_of_ble_eq_true rfl) dX9_init_47 ⟨(Nat.le_of_ble_eq_true rfl), (Nat.le_of_ble_eq_true rfl)⟩ (fun H locs hw hS => ?_)
  have hw : Wn D cA z 22 (u_X9_0_8 μ) H := hw
  refine n_putr (a := 0) (b := 19) (ci := 9) hx hb hts (fun w h => List.mem_cons_of_mem _ (List.mem_append_left _ (List.mem_append_left _ (List.mem_append_left _ (List.mem_append_left _ (List.mem_append_left _ (List.mem_append_left _ (List.mem_append_left _ (List.mem_append_left _ (List.mem_append_right _ (h))))))))))) tyX9 tyX9_ok nmX9 hown hK hw hS (by decide) rfl rfl 4 fs_9_4 hin2 rfl (hts (.fieldLink RX9 33 "LevelVotes" "now" "LLevelVotes$Ballot;") (List.mem_of_getElem? (i := 17) rfl)) rfl rfl rfl dX9_init_50 (fun H locs hw hS => ?_)
  have hw : Wn D cA z 22 (u_X9_0_9 μ) H := hw
  refine lv_aload_n hx hb dX9_init_53 rfl (lv_at hl 0 rfl) ?_
  refine n_new (ci := 3) hx hb hts (fun w h => List.mem_cons_of_mem _ (List.mem_append_left _ (List.mem_append_left _ (List.mem_append_left _ (List.mem_append_left _ (List.mem_append_left _ (List.mem_append_right _ (h)))))))) tyX3 tyX3_ok hown (hts (.classLink RX9 37 RX3) (List.mem_of_getElem? (i := 18) rfl)) (hts (.instantiable RX3 3) (List.mem_of_getElem? (i := 19) rfl)) (hts (.initialized RX3) (List.mem_of_getElem? (i := 20) rfl)) hK hw hS rfl rfl rfl df_3 (Nat.le_of_ble_eq_true rfl) (Nat.le_of_ble_eq_true rfl) dX9_init_54 (fun H hw hS => ?_)
  refine lv_dup hx hb dX9_init_57 rfl ?_
  refine n_goI (rest := [.ref (z + 22), .ref (z + 0)]) ⟨hx, hb, hml, hown, hts⟩ hK hw hS (i_X3_22) (cwI 0 hts gX9_init_X3_init rfl rfl rfl (hts (.initialized RX3) (List.mem_of_getElem? (i := 20) rfl)) (hts (.methodLink RX9 39 yX3_init) (List.mem_of_getElem? (i := 65) rfl)) (hts (.instanceMethod yX3_init) (List.mem_of_getElem? (i := 66) rfl)) rfl hn_X3_init ⟨(Nat.le_of_ble_eq_true rfl), (Nat.le_of_ble_eq_true rfl)⟩) hl.1 rfl (Nat.le_of_ble_eq_true rfl) dX9_init_58 ⟨(Nat.le_of_ble_eq_true rfl), (Nat.le_of_ble_eq_true rfl)⟩ (fun H locs hw hS => ?_)
  have hw : Wn D cA z 84 (u_X9_0_10 μ) H := hw
  refine n_putr (a := 0) (b := 22) (ci := 9) hx hb hts (fun w h => List.mem_cons_of_mem _ (List.mem_append_left _ (List.mem_append_left _ (List.mem_append_left _ (List.mem_append_left _ (List.mem_append_left _ (List.mem_append_left _ (List.mem_append_left _ (List.mem_append_left _ (List.mem_append_right _ (h))))))))))) tyX9 tyX9_ok nmX9 hown hK hw hS (by decide) rfl rfl 5 fs_9_5 hin2 rfl (hts (.fieldLink RX9 40 "LevelVotes" "history" "LLevelVotes$History;") (List.mem_of_getElem? (i := 21) rfl)) rfl rfl rfl dX9_init_61 (fun H locs hw hS => ?_)
  have hw : Wn D cA z 84 (u_X9_0_11 μ) H := hw
  refine lv_aload_n hx hb dX9_init_64 rfl (lv_at hl 0 rfl) ?_
  refine lv_iconst (v := 2) hx hb dX9_init_65 (by decide) ?_
  refine n_newq (C := RX5) (N := 2) (ci := 14) (t0 := 3) hx hb hown (hts (.classLink RX9 44 RX5) (List.mem_of_getElem? (i := 22) rfl)) hA2 hK hw hS rfl rfl rfl rfl (by decide) (by decide) (by decide) (Nat.le_of_ble_eq_true rfl) (Nat.le_of_ble_eq_true rfl) dX9_init_66 (fun H hw hS => ?_)
  refine n_putr (a := 0) (b := 84) (ci := 9) hx hb hts (fun w h => List.mem_cons_of_mem _ (List.mem_append_left _ (List.mem_append_left _ (List.mem_append_left _ (List.mem_append_left _ (List.mem_append_left _ (List.mem_append_left _ (List.mem_append_left _ (List.mem_append_left _ (List.mem_append_right _ (h))))))))))) tyX9 tyX9_ok nmX9 hown hK hw hS (by decide) rfl rfl 6 fs_9_6 hin2 rfl (hts (.fieldLink RX9 46 "LevelVotes" "images" "[LLevelVotes$Image;") (List.mem_of_getElem? (i := 23) rfl)) rfl rfl rfl dX9_init_69 (fun H locs hw hS => ?_)
  have hw : Wn D cA z 85 (u_X9_0_12 μ) H := hw
  refine lv_aload_n hx hb dX9_init_72 rfl (lv_at hl 0 rfl) ?_
  refine n_new (ci := 1) hx hb hts (fun w h => List.mem_cons_of_mem _ (List.mem_append_left _ (List.mem_append_left _ (List.mem_append_left _ (List.mem_append_left _ (List.mem_append_right _ (h))))))) tyX1 tyX1_ok hown (hts (.classLink RX9 50 RX1) (List.mem_of_getElem? (i := 24) rfl)) (hts (.instantiable RX1 1) (List.mem_of_getElem? (i := 25) rfl)) (hts (.initialized RX1) (List.mem_of_getElem? (i := 26) rfl)) hK hw hS rfl rfl rfl df_1 (Nat.le_of_ble_eq_true rfl) (Nat.le_of_ble_eq_true rfl) dX9_init_73 (fun H hw hS => ?_)
  refine lv_dup hx hb dX9_init_76 rfl ?_
  refine n_go (rest := [.ref (z + 85), .ref (z + 0)]) ⟨hx, hb, hml, hown, hts⟩ hK hw hS (i_X1_85) ⟨va_cnB 0 hts gX9_init_X1_init_n52 rfl rfl rfl n7 (hts (.initialized RX1) (List.mem_of_getElem? (i := 26) rfl)) hn_X1_init ⟨(Nat.le_of_ble_eq_true rfl), (Nat.le_of_ble_eq_true rfl)⟩, rfl, (hts (.instanceMethod yX1_init) (List.mem_of_getElem? (i := 71) rfl))⟩ hl.1 rfl (Nat.le_of_ble_eq_true rfl) dX9_init_77 ⟨(Nat.le_of_ble_eq_true rfl), (Nat.le_of_ble_eq_true rfl)⟩ (fun H locs hw hS => ?_)
  have hw : Wn D cA z 86 (u_X9_0_13 μ) H := hw
  refine n_putr (a := 0) (b := 85) (ci := 9) hx hb hts (fun w h => List.mem_cons_of_mem _ (List.mem_append_left _ (List.mem_append_left _ (List.mem_append_left _ (List.mem_append_left _ (List.mem_append_left _ (List.mem_append_left _ (List.mem_append_left _ (List.mem_append_left _ (List.mem_append_right _ (h))))))))))) tyX9 tyX9_ok nmX9 hown hK hw hS (by decide) rfl rfl 7 fs_9_7 hin2 rfl (hts (.fieldLink RX9 53 "LevelVotes" "draws" "LLevelVotes$Draws;") (List.mem_of_getElem? (i := 27) rfl)) rfl rfl rfl dX9_init_80 (fun H locs hw hS => ?_)
  have hw : Wn D cA z 86 (u_X9_0_14 μ) H := hw
  refine lv_aload_n hx hb dX9_init_83 rfl (lv_at hl 0 rfl) ?_
  refine n_new (ci := 6) hx hb hts (fun w h => List.mem_cons_of_mem _ (List.mem_append_left _ (List.mem_append_left _ (List.mem_append_left _ (List.mem_append_right _ (h)))))) tyX6 tyX6_ok hown (hts (.classLink RX9 57 RX6) (List.mem_of_getElem? (i := 28) rfl)) (hts (.instantiable RX6 6) (List.mem_of_getElem? (i := 29) rfl)) (hts (.initialized RX6) (List.mem_of_getElem? (i := 30) rfl)) hK hw hS rfl rfl rfl df_6 (Nat.le_of_ble_eq_true rfl) (Nat.le_of_ble_eq_true rfl) dX9_init_84 (fun H hw hS => ?_)
  refine lv_dup hx hb dX9_init_87 rfl ?_
  refine n_go (rest := [.ref (z + 86), .ref (z + 0)]) ⟨hx, hb, hml, hown, hts⟩ hK hw hS (i_X6_86) ⟨va_cnB 0 hts gX9_init_X6_init_n59 rfl rfl rfl n8 (hts (.initialized RX6) (List.mem_of_getElem? (i := 30) rfl)) hn_X6_init ⟨(Nat.le_of_ble_eq_true rfl), (Nat.le_of_ble_eq_true rfl)⟩, rfl, (hts (.instanceMethod yX6_init) (List.mem_of_getElem? (i := 74) rfl))⟩ hl.1 rfl (Nat.le_of_ble_eq_true rfl) dX9_init_88 ⟨(Nat.le_of_ble_eq_true rfl), (Nat.le_of_ble_eq_true rfl)⟩ (fun H locs hw hS => ?_)
  have hw : Wn D cA z 91 (u_X9_0_15 μ) H := hw
  refine n_putr (a := 0) (b := 86) (ci := 9) hx hb hts (fun w h => List.mem_cons_of_mem _ (List.mem_append_left _ (List.mem_append_left _ (List.mem_append_left _ (List.mem_append_left _ (List.mem_append_left _ (List.mem_append_left _ (List.mem_append_left _ (List.mem_append_left _ (List.mem_append_right _ (h))))))))))) tyX9 tyX9_ok nmX9 hown hK hw hS (by decide) rfl rfl 8 fs_9_8 hin2 rfl (hts (.fieldLink RX9 60 "LevelVotes" "notebook" "LLevelVotes$Notebook;") (List.mem_of_getElem? (i := 31) rfl)) rfl rfl rfl dX9_init_91 (fun H locs hw hS => ?_)
  have hw : Wn D cA z 91 (u_X9_0_16 μ) H := hw
  refine lv_aload_n hx hb dX9_init_94 rfl (lv_at hl 0 rfl) ?_
  refine n_new (ci := 8) hx hb hts (fun w h => List.mem_cons_of_mem _ (List.mem_append_left _ (List.mem_append_left _ (List.mem_append_right _ (h))))) tyX8 tyX8_ok hown (hts (.classLink RX9 64 RX8) (List.mem_of_getElem? (i := 32) rfl)) (hts (.instantiable RX8 2) (List.mem_of_getElem? (i := 33) rfl)) (hts (.initialized RX8) (List.mem_of_getElem? (i := 34) rfl)) hK hw hS rfl rfl rfl df_8 (Nat.le_of_ble_eq_true rfl) (Nat.le_of_ble_eq_true rfl) dX9_init_95 (fun H hw hS => ?_)
  refine lv_dup hx hb dX9_init_98 rfl ?_
  refine n_go (rest := [.ref (z + 91), .ref (z + 0)]) ⟨hx, hb, hml, hown, hts⟩ hK hw hS (i_X8_91) ⟨va_cnB 0 hts gX9_init_X8_init_n66 rfl rfl rfl n9 (hts (.initialized RX8) (List.mem_of_getElem? (i := 34) rfl)) hn_X8_init ⟨(Nat.le_of_ble_eq_true rfl), (Nat.le_of_ble_eq_true rfl)⟩, rfl, (hts (.instanceMethod yX8_init) (List.mem_of_getElem? (i := 81) rfl))⟩ hl.1 rfl (Nat.le_of_ble_eq_true rfl) dX9_init_99 ⟨(Nat.le_of_ble_eq_true rfl), (Nat.le_of_ble_eq_true rfl)⟩ (fun H locs hw hS => ?_)
  have hw : Wn D cA z 93 (u_X9_0_17 μ) H := hw
  refine n_putr (a := 0) (b := 91) (ci := 9) hx hb hts (fun w h => List.mem_cons_of_mem _ (List.mem_append_left _ (List.mem_append_left _ (List.mem_append_left _ (List.mem_append_left _ (List.mem_append_left _ (List.mem_append_left _ (List.mem_append_left _ (List.mem_append_left _ (List.mem_append_right _ (h))))))))))) tyX9 tyX9_ok nmX9 hown hK hw hS (by decide) rfl rfl 9 fs_9_9 hin2 rfl (hts (.fieldLink RX9 67 "LevelVotes" "way" "LLevelVotes$Way;") (List.mem_of_getElem? (i := 35) rfl)) rfl rfl rfl dX9_init_102 (fun H locs hw hS => ?_)
  have hw : Wn D cA z 93 (u_X9_0_18 μ) H := hw
  refine lv_aload_n hx hb dX9_init_105 rfl (lv_at hl 0 rfl) ?_
  refine n_new (ci := 2) hx hb hts (fun w h => List.mem_cons_of_mem _ (List.mem_append_left _ (List.mem_append_right _ (h)))) tyX2 tyX2_ok hown (hts (.classLink RX9 71 RX2) (List.mem_of_getElem? (i := 36) rfl)) (hts (.instantiable RX2 5) (List.mem_of_getElem? (i := 37) rfl)) (hts (.initialized RX2) (List.mem_of_getElem? (i := 38) rfl)) hK hw hS rfl rfl rfl df_2 (Nat.le_of_ble_eq_true rfl) (Nat.le_of_ble_eq_true rfl) dX9_init_106 (fun H hw hS => ?_)
  refine lv_dup hx hb dX9_init_109 rfl ?_
  refine n_go (rest := [.ref (z + 93), .ref (z + 0)]) ⟨hx, hb, hml, hown, hts⟩ hK hw hS (i_X2_93) ⟨va_cnB 0 hts gX9_init_X2_init_n73 rfl rfl rfl n10 (hts (.initialized RX2) (List.mem_of_getElem? (i := 38) rfl)) hn_X2_init ⟨(Nat.le_of_ble_eq_true rfl), (Nat.le_of_ble_eq_true rfl)⟩, rfl, (hts (.instanceMethod yX2_init) (List.mem_of_getElem? (i := 85) rfl))⟩ hl.1 rfl (Nat.le_of_ble_eq_true rfl) dX9_init_110 ⟨(Nat.le_of_ble_eq_true rfl), (Nat.le_of_ble_eq_true rfl)⟩ (fun H locs hw hS => ?_)
  have hw : Wn D cA z 97 (u_X9_0_19 μ) H := hw
  refine n_putr (a := 0) (b := 93) (ci := 9) hx hb hts (fun w h => List.mem_cons_of_mem _ (List.mem_append_left _ (List.mem_append_left _ (List.mem_append_left _ (List.mem_append_left _ (List.mem_append_left _ (List.mem_append_left _ (List.mem_append_left _ (List.mem_append_left _ (List.mem_append_right _ (h))))))))))) tyX9 tyX9_ok nmX9 hown hK hw hS (by decide) rfl rfl 10 fs_9_10 hin2 rfl (hts (.fieldLink RX9 74 "LevelVotes" "hill" "LLevelVotes$Hill;") (List.mem_of_getElem? (i := 39) rfl)) rfl rfl rfl dX9_init_113 (fun H locs hw hS => ?_)
  have hw : Wn D cA z 97 (u_X9_0_20 μ) H := hw
  refine lv_aload_n hx hb dX9_init_116 rfl (lv_at hl 0 rfl) ?_
  refine lv_bipush (v := 15) hx hb dX9_init_117 (by decide) ?_
  refine n_newa (atype := .int) (N := 15) (ci := 11) hx hb (hts (.arrayClass .int) (List.mem_of_getElem? (i := 40) rfl)) hK hw hS rfl rfl (Or.inl ⟨rfl, rfl⟩) (by decide) (by decide) (by decide) (Nat.le_of_ble_eq_true rfl) (Nat.le_of_ble_eq_true rfl) dX9_init_119 (fun H hw hS => ?_)
  refine n_putr (a := 0) (b := 97) (ci := 9) hx hb hts (fun w h => List.mem_cons_of_mem _ (List.mem_append_left _ (List.mem_append_left _ (List.mem_append_left _ (List.mem_append_left _ (List.mem_append_left _ (List.mem_append_left _ (List.mem_append_left _ (List.mem_append_left _ (List.mem_append_right _ (h))))))))))) tyX9 tyX9_ok nmX9 hown hK hw hS (by decide) rfl rfl 11 fs_9_11 hin2 rfl (hts (.fieldLink RX9 78 "LevelVotes" "prices" "[I") (List.mem_of_getElem? (i := 41) rfl)) rfl rfl rfl dX9_init_121 (fun H locs hw hS => ?_)
  have hw : Wn D cA z 98 (u_X9_0_21 μ) H := hw
  refine lv_aload_n hx hb dX9_init_124 rfl (lv_at hl 0 rfl) ?_
  refine lv_sipush (v := 400) hx hb dX9_init_125 (by decide) ?_
  refine n_newa (atype := .int) (N := 400) (ci := 11) hx hb (hts (.arrayClass .int) (List.mem_of_getElem? (i := 40) rfl)) hK hw hS rfl rfl (Or.inl ⟨rfl, rfl⟩) (by decide) (by decide) (by decide) (Nat.le_of_ble_eq_true rfl) (Nat.le_of_ble_eq_true rfl) dX9_init_128 (fun H hw hS => ?_)
  refine n_putr (a := 0) (b := 98) (ci := 9) hx hb hts (fun w h => List.mem_cons_of_mem _ (List.mem_append_left _ (List.mem_append_left _ (List.mem_append_left _ (List.mem_append_left _ (List.mem_append_left _ (List.mem_append_left _ (List.mem_append_left _ (List.mem_append_left _ (List.mem_append_right _ (h))))))))))) tyX9 tyX9_ok nmX9 hown hK hw hS (by decide) rfl rfl 12 fs_9_12 hin2 rfl (hts (.fieldLink RX9 82 "LevelVotes" "alike" "[I") (List.mem_of_getElem? (i := 42) rfl)) rfl rfl rfl dX9_init_130 (fun H locs hw hS => ?_)
  have hw : Wn D cA z 99 (u_X9_0_22 μ) H := hw
  refine lv_iconst (v := 0) hx hb dX9_init_133 (by decide) ?_
  refine lv_istore_n (lv' := [(1, .int (0 : Int32)), (0, .ref (z + 0))]) hx hb dX9_init_134 rfl hl (by decide) rfl (fun ls hl => ?_)
  refine lv_iload_n hx hb dX9_init_135 rfl (lv_at hl 0 rfl) ?_
  refine lv_aload_n hx hb dX9_init_136 rfl (lv_at hl 1 rfl) ?_
  refine n_getr (a := 0) (ci := 9) (b := 84) hx hb hts (fun w h => List.mem_cons_of_mem _ (List.mem_append_left _ (List.mem_append_left _ (List.mem_append_left _ (List.mem_append_left _ (List.mem_append_left _ (List.mem_append_left _ (List.mem_append_left _ (List.mem_append_left _ (List.mem_append_right _ (h))))))))))) hown hK hw (by decide) rfl rfl rfl fs_9_6 (hts (.fieldLink RX9 46 "LevelVotes" "images" "[LLevelVotes$Image;") (List.mem_of_getElem? (i := 23) rfl)) dX9_init_137 ?_
  refine n_alen (a := 84) (ci := 14) (v := 2) hx hb hK hw (by decide) rfl rfl (by decide) dX9_init_140 ?_
  refine lv_icmp_ge (tgt := 163) hx hb dX9_init_141 (by decide) (fun q => absurd q (by decide)) (fun _ => ?_)
  refine lv_aload_n hx hb dX9_init_144 rfl (lv_at hl 1 rfl) ?_
  refine n_getr (a := 0) (ci := 9) (b := 84) hx hb hts (fun w h => List.mem_cons_of_mem _ (List.mem_append_left _ (List.mem_append_left _ (List.mem_append_left _ (List.mem_append_left _ (List.mem_append_left _ (List.mem_append_left _ (List.mem_append_left _ (List.mem_append_left _ (List.mem_append_right _ (h))))))))))) hown hK hw (by decide) rfl rfl rfl fs_9_6 (hts (.fieldLink RX9 46 "LevelVotes" "images" "[LLevelVotes$Image;") (List.mem_of_getElem? (i := 23) rfl)) dX9_init_145 ?_
  refine lv_iload_n hx hb dX9_init_148 rfl (lv_at hl 0 rfl) ?_
  refine n_new (ci := 5) hx hb hts (fun w h => List.mem_cons_of_mem _ (List.mem_append_right _ (h))) tyX5 tyX5_ok hown (hts (.classLink RX9 44 RX5) (List.mem_of_getElem? (i := 22) rfl)) (hts (.instantiable RX5 3) (List.mem_of_getElem? (i := 43) rfl)) (hts (.initialized RX5) (List.mem_of_getElem? (i := 44) rfl)) hK hw hS rfl rfl rfl df_5 (Nat.le_of_ble_eq_true rfl) (Nat.le_of_ble_eq_true rfl) dX9_init_149 (fun H hw hS => ?_)
  refine lv_dup hx hb dX9_init_152 rfl ?_
  refine n_go (rest := [.ref (z + 99), .int (0 : Int32), .ref (z + 84)]) ⟨hx, hb, hml, hown, hts⟩ hK hw hS (i_X5_99) ⟨va_cnB 0 hts gX9_init_X5_init_n85 rfl rfl rfl n11 (hts (.initialized RX5) (List.mem_of_getElem? (i := 44) rfl)) hn_X5_init ⟨(Nat.le_of_ble_eq_true rfl), (Nat.le_of_ble_eq_true rfl)⟩, rfl, (hts (.instanceMethod yX5_init) (List.mem_of_getElem? (i := 91) rfl))⟩ hl.1 rfl (Nat.le_of_ble_eq_true rfl) dX9_init_153 ⟨(Nat.le_of_ble_eq_true rfl), (Nat.le_of_ble_eq_true rfl)⟩ (fun H locs hw hS => ?_)
  have hw : Wn D cA z 103 (u_X9_0_23 μ) H := hw
  refine n_aast (a := 84) (b := 99) (ca := 14) (ci := 5) (t0 := 3) (r := (RX5, TX5, 3)) (j := 0) hx hb hK hw hS (by decide) (by decide) rfl rfl rfl rfl rfl rfl (by decide) (ckb_in (by decide)) rfl dX9_init_156 (fun H locs hw hS => ?_)
  have hw : Wn D cA z 103 (u_X9_0_24 μ) H := hw
  refine lv_iinc (v := (1 : Int32)) (lv' := [(1, .int (1 : Int32)), (0, .ref (z + 0))]) hx hb dX9_init_157 hl (k := 0) rfl (by decide) (by decide) rfl (fun ls hl => ?_)
  refine lv_goto (tgt := 135) hx hb dX9_init_160 (by decide) ?_
  refine lv_iload_n hx hb dX9_init_135 rfl (lv_at hl 0 rfl) ?_
  refine lv_aload_n hx hb dX9_init_136 rfl (lv_at hl 1 rfl) ?_
  refine n_getr (a := 0) (ci := 9) (b := 84) hx hb hts (fun w h => List.mem_cons_of_mem _ (List.mem_append_left _ (List.mem_append_left _ (List.mem_append_left _ (List.mem_append_left _ (List.mem_append_left _ (List.mem_append_left _ (List.mem_append_left _ (List.mem_append_left _ (List.mem_append_right _ (h))))))))))) hown hK hw (by decide) rfl rfl rfl fs_9_6 (hts (.fieldLink RX9 46 "LevelVotes" "images" "[LLevelVotes$Image;") (List.mem_of_getElem? (i := 23) rfl)) dX9_init_137 ?_
  refine n_alen (a := 84) (ci := 14) (v := 2) hx hb hK hw (by decide) rfl rfl (by decide) dX9_init_140 ?_
  refine lv_icmp_ge (tgt := 163) hx hb dX9_init_141 (by decide) (fun q => absurd q (by decide)) (fun _ => ?_)
  refine lv_aload_n hx hb dX9_init_144 rfl (lv_at hl 1 rfl) ?_
  refine n_getr (a := 0) (ci := 9) (b := 84) hx hb hts (fun w h => List.mem_cons_of_mem _ (List.mem_append_left _ (List.mem_append_left _ (List.mem_append_left _ (List.mem_append_left _ (List.mem_append_left _ (List.mem_append_left _ (List.mem_append_left _ (List.mem_append_left _ (List.mem_append_right _ (h))))))))))) hown hK hw (by decide) rfl rfl rfl fs_9_6 (hts (.fieldLink RX9 46 "LevelVotes" "images" "[LLevelVotes$Image;") (List.mem_of_getElem? (i := 23) rfl)) dX9_init_145 ?_
  refine lv_iload_n hx hb dX9_init_148 rfl (lv_at hl 0 rfl) ?_
  refine n_new (ci := 5) hx hb hts (fun w h => List.mem_cons_of_mem _ (List.mem_append_right _ (h))) tyX5 tyX5_ok hown (hts (.classLink RX9 44 RX5) (List.mem_of_getElem? (i := 22) rfl)) (hts (.instantiable RX5 3) (List.mem_of_getElem? (i := 43) rfl)) (hts (.initialized RX5) (List.mem_of_getElem? (i := 44) rfl)) hK hw hS rfl rfl rfl df_5 (Nat.le_of_ble_eq_true rfl) (Nat.le_of_ble_eq_true rfl) dX9_init_149 (fun H hw hS => ?_)
  refine lv_dup hx hb dX9_init_152 rfl ?_
  refine n_go (rest := [.ref (z + 103), .int (1 : Int32), .ref (z + 84)]) ⟨hx, hb, hml, hown, hts⟩ hK hw hS (i_X5_103) ⟨va_cnB 0 hts gX9_init_X5_init_n85 rfl rfl rfl n11 (hts (.initialized RX5) (List.mem_of_getElem? (i := 44) rfl)) hn_X5_init ⟨(Nat.le_of_ble_eq_true rfl), (Nat.le_of_ble_eq_true rfl)⟩, rfl, (hts (.instanceMethod yX5_init) (List.mem_of_getElem? (i := 91) rfl))⟩ hl.1 rfl (Nat.le_of_ble_eq_true rfl) dX9_init_153 ⟨(Nat.le_of_ble_eq_true rfl), (Nat.le_of_ble_eq_true rfl)⟩ (fun H locs hw hS => ?_)
  have hw : Wn D cA z 107 (u_X9_0_25 μ) H := hw
  refine n_aast (a := 84) (b := 103) (ca := 14) (ci := 5) (t0 := 3) (r := (RX5, TX5, 3)) (j := 1) hx hb hK hw hS (by decide) (by decide) rfl rfl rfl rfl rfl rfl (by decide) (ckb_in (by decide)) rfl dX9_init_156 (fun H locs hw hS => ?_)
  have hw : Wn D cA z 107 (u_X9_0_26 μ) H := hw
  refine lv_iinc (v := (2 : Int32)) (lv' := [(1, .int (2 : Int32)), (0, .ref (z + 0))]) hx hb dX9_init_157 hl (k := 0) rfl (by decide) (by decide) rfl (fun ls hl => ?_)
  refine lv_goto (tgt := 135) hx hb dX9_init_160 (by decide) ?_
  refine lv_iload_n hx hb dX9_init_135 rfl (lv_at hl 0 rfl) ?_
  refine lv_aload_n hx hb dX9_init_136 rfl (lv_at hl 1 rfl) ?_
  refine n_getr (a := 0) (ci := 9) (b := 84) hx hb hts (fun w h => List.mem_cons_of_mem _ (List.mem_append_left _ (List.mem_append_left _ (List.mem_append_left _ (List.mem_append_left _ (List.mem_append_left _ (List.mem_append_left _ (List.mem_append_left _ (List.mem_append_left _ (List.mem_append_right _ (h))))))))))) hown hK hw (by decide) rfl rfl rfl fs_9_6 (hts (.fieldLink RX9 46 "LevelVotes" "images" "[LLevelVotes$Image;") (List.mem_of_getElem? (i := 23) rfl)) dX9_init_137 ?_
  refine n_alen (a := 84) (ci := 14) (v := 2) hx hb hK hw (by decide) rfl rfl (by decide) dX9_init_140 ?_
  refine lv_icmp_ge (tgt := 163) hx hb dX9_init_141 (by decide) (fun _ => ?_) (fun q => absurd (by decide) q)
  exact n_ret hx hb hr hlk hw hS rfl rfl dX9_init_163
def u_X10_107_1 (μ : Mm) : Mm := (μ.1, up2 μ.2 107 2 (some 108))
def u_X10_107_2 (μ : Mm) : Mm := ((u_X10_107_1 μ).1, up2 (u_X10_107_1 μ).2 107 4 (some 109))
def u_X10_107_3 (μ : Mm) : Mm := ((u_X10_107_2 μ).1, up2 (u_X10_107_2 μ).2 107 5 (some 110))
def u_X10_107_4 (μ : Mm) : Mm := ((u_X10_107_3 μ).1, up2 (u_X10_107_3 μ).2 107 6 (some 111))
def u_X10_107_5 (μ : Mm) : Mm := ((u_X10_107_4 μ).1, up2 (u_X10_107_4 μ).2 107 8 (some 112))
def u_X10_107_6 (μ : Mm) : Mm := ((u_X10_107_5 μ).1, up2 (u_X10_107_5 μ).2 107 10 (some 113))
def u_X10_107_7 (μ : Mm) : Mm := (up2 (u_X10_107_6 μ).1 107 12 (-1 : Int32), (u_X10_107_6 μ).2)
def u_X10_107_8 (μ : Mm) : Mm := ((u_X10_107_7 μ).1, up2 (u_X10_107_7 μ).2 107 16 (some 114))
def u_X10_107_9 (μ : Mm) : Mm := ((u_X10_107_8 μ).1, up2 (u_X10_107_8 μ).2 107 17 (some 115))
def u_X10_107_10 (μ : Mm) : Mm := ((u_X10_107_9 μ).1, up2 (u_X10_107_9 μ).2 107 20 (some 116))
def u_X10_107_11 (μ : Mm) : Mm := ((u_X10_107_10 μ).1, up2 (u_X10_107_10 μ).2 107 21 (some 117))
def u_X10_107_12 (μ : Mm) : Mm := ((u_X10_107_11 μ).1, up2 (u_X10_107_11 μ).2 107 22 (some 118))
def u_X10_107_13 (μ : Mm) : Mm := ((u_X10_107_12 μ).1, up2 (u_X10_107_12 μ).2 107 24 (some 119))
def u_X10_107_14 (μ : Mm) : Mm := ((u_X10_107_13 μ).1, up2 (u_X10_107_13 μ).2 107 25 (some 120))
def u_X10_107_15 (μ : Mm) : Mm := ((u_X10_107_14 μ).1, up2 (u_X10_107_14 μ).2 107 26 (some 121))
def u_X10_107_16 (μ : Mm) : Mm := ((u_X10_107_15 μ).1, up2 (u_X10_107_15 μ).2 107 28 (some 122))
def u_X10_107_17 (μ : Mm) : Mm := ((u_X10_107_16 μ).1, up2 (u_X10_107_16 μ).2 107 29 (some 123))
def u_X10_107_18 (μ : Mm) : Mm := ((u_X10_107_17 μ).1, up2 (u_X10_107_17 μ).2 107 31 (some 124))
def u_X10_107_19 (μ : Mm) : Mm := ((u_X10_107_18 μ).1, up2 (u_X10_107_18 μ).2 107 32 (some 125))
def u_X10_107_20 (μ : Mm) : Mm := ((u_X10_107_19 μ).1, up2 (u_X10_107_19 μ).2 107 33 (some 126))
def u_X10_107_21 (μ : Mm) : Mm := ((u_X10_107_20 μ).1, up2 (u_X10_107_20 μ).2 107 35 (some 127))
def u_X10_107_22 (μ : Mm) : Mm := ((u_X10_107_21 μ).1, up2 (u_X10_107_21 μ).2 107 36 (some 128))
def u_X10_107_23 (μ : Mm) : Mm := ((u_X10_107_22 μ).1, up2 (u_X10_107_22 μ).2 107 37 (some 129))
def u_X10_107_24 (μ : Mm) : Mm := ((u_X10_107_23 μ).1, up2 (u_X10_107_23 μ).2 107 38 (some 130))
def u_X10_107_25 (μ : Mm) : Mm := (up2 (u_X10_107_24 μ).1 112 36 (-1 : Int32), (u_X10_107_24 μ).2)
def u_X10_107 (μ : Mm) : Mm := (u_X10_107_25 μ)
set_option maxRecDepth 100000 in
theorem i_X10_107 {l : Launch} {D : va_G} {cA : Nat → ClassId} {z : Nat} {μ : Mm} : Cn l D cA z yX10_init wsX10_init 1 40 23 1684 107 108 131 μ (u_X10_107 μ) := by
  refine n_in (cc := cX10_init) (maxL := 1) (own := RX10) (by decide) rfl rfl rfl (Nat.le_of_ble_eq_true rfl) ?_
  intro p e s m below meth c ls hx hb hr hlk hml hown hts hK hin2 hw hS hl
  obtain ⟨hK1, hA1, hA2, n1, n2, n3, n4, n5, n6, n7, n8, n9, n10, n11⟩ := id hK
  refine lv_aload_n hx hb dX10_init_0 rfl (lv_at hl 0 rfl) ?_
  refine W.objInit hx hb hown (hts (.methodLink RX10 1 objectInit) (List.mem_of_getElem? (i := 1) rfl)) (hts (.instanceMethod objectInit) (List.mem_of_getElem? (i := 2) rfl)) (hts (.code objectInit ⟨#[0xb1]⟩ 1 none) (List.mem_of_getElem? (i := 3) rfl)) rfl (by rw [hml]; exact hl.1) rfl dX10_init_1 (Nat.le_of_ble_eq_true rfl) (Nat.le_of_ble_eq_true rfl) ?_
  refine W.eq (g2 := F0 m 4 ls []) rfl ?_
  refine lv_aload_n hx hb dX10_init_4 rfl (lv_at hl 0 rfl) ?_
  refine lv_bipush (v := 20) hx hb dX10_init_5 (by decide) ?_
  refine n_newa (atype := .int) (N := 20) (ci := 11) hx hb (hts (.arrayClass .int) (List.mem_of_getElem? (i := 4) rfl)) hK hw hS rfl rfl (Or.inl ⟨rfl, rfl⟩) (by decide) (by decide) (by decide) (Nat.le_of_ble_eq_true rfl) (Nat.le_of_ble_eq_true rfl) dX10_init_7 (fun H hw hS => ?_)
  refine n_putr (a := 107) (b := 108) (ci := 10) hx hb hts (fun w h => List.mem_cons_of_mem _ (List.mem_append_right _ (h))) tyX10 tyX10_ok nmX10 hown hK hw hS (by decide) rfl rfl 2 fs_10_2 hin2 rfl (hts (.fieldLink RX10 7 "LevelVotesModel" "ground" "[I") (List.mem_of_getElem? (i := 5) rfl)) rfl rfl rfl dX10_init_9 (fun H locs hw hS => ?_)
  have hw : Wn D cA z 109 (u_X10_107_1 μ) H := hw
  refine lv_aload_n hx hb dX10_init_12 rfl (lv_at hl 0 rfl) ?_
  refine lv_iconst (v := 5) hx hb dX10_init_13 (by decide) ?_
  refine n_newa (atype := .int) (N := 5) (ci := 11) hx hb (hts (.arrayClass .int) (List.mem_of_getElem? (i := 4) rfl)) hK hw hS rfl rfl (Or.inl ⟨rfl, rfl⟩) (by decide) (by decide) (by decide) (Nat.le_of_ble_eq_true rfl) (Nat.le_of_ble_eq_true rfl) dX10_init_14 (fun H hw hS => ?_)
  refine n_putr (a := 107) (b := 109) (ci := 10) hx hb hts (fun w h => List.mem_cons_of_mem _ (List.mem_append_right _ (h))) tyX10 tyX10_ok nmX10 hown hK hw hS (by decide) rfl rfl 4 fs_10_4 hin2 rfl (hts (.fieldLink RX10 13 "LevelVotesModel" "itemFrom" "[I") (List.mem_of_getElem? (i := 6) rfl)) rfl rfl rfl dX10_init_16 (fun H locs hw hS => ?_)
  have hw : Wn D cA z 110 (u_X10_107_2 μ) H := hw
  refine lv_aload_n hx hb dX10_init_19 rfl (lv_at hl 0 rfl) ?_
  refine lv_iconst (v := 5) hx hb dX10_init_20 (by decide) ?_
  refine n_newa (atype := .int) (N := 5) (ci := 11) hx hb (hts (.arrayClass .int) (List.mem_of_getElem? (i := 4) rfl)) hK hw hS rfl rfl (Or.inl ⟨rfl, rfl⟩) (by decide) (by decide) (by decide) (Nat.le_of_ble_eq_true rfl) (Nat.le_of_ble_eq_true rfl) dX10_init_21 (fun H hw hS => ?_)
  refine n_putr (a := 107) (b := 110) (ci := 10) hx hb hts (fun w h => List.mem_cons_of_mem _ (List.mem_append_right _ (h))) tyX10 tyX10_ok nmX10 hown hK hw hS (by decide) rfl rfl 5 fs_10_5 hin2 rfl (hts (.fieldLink RX10 16 "LevelVotesModel" "itemTo" "[I") (List.mem_of_getElem? (i := 7) rfl)) rfl rfl rfl dX10_init_23 (fun H locs hw hS => ?_)
  have hw : Wn D cA z 111 (u_X10_107_3 μ) H := hw
  refine lv_aload_n hx hb dX10_init_26 rfl (lv_at hl 0 rfl) ?_
  refine lv_iconst (v := 5) hx hb dX10_init_27 (by decide) ?_
  refine n_newa (atype := .int) (N := 5) (ci := 11) hx hb (hts (.arrayClass .int) (List.mem_of_getElem? (i := 4) rfl)) hK hw hS rfl rfl (Or.inl ⟨rfl, rfl⟩) (by decide) (by decide) (by decide) (Nat.le_of_ble_eq_true rfl) (Nat.le_of_ble_eq_true rfl) dX10_init_28 (fun H hw hS => ?_)
  refine n_putr (a := 107) (b := 111) (ci := 10) hx hb hts (fun w h => List.mem_cons_of_mem _ (List.mem_append_right _ (h))) tyX10 tyX10_ok nmX10 hown hK hw hS (by decide) rfl rfl 6 fs_10_6 hin2 rfl (hts (.fieldLink RX10 19 "LevelVotesModel" "itemLevel" "[I") (List.mem_of_getElem? (i := 8) rfl)) rfl rfl rfl dX10_init_30 (fun H locs hw hS => ?_)
  have hw : Wn D cA z 112 (u_X10_107_4 μ) H := hw
  refine lv_aload_n hx hb dX10_init_33 rfl (lv_at hl 0 rfl) ?_
  refine lv_bipush (v := 37) hx hb dX10_init_34 (by decide) ?_
  refine n_newa (atype := .int) (N := 37) (ci := 11) hx hb (hts (.arrayClass .int) (List.mem_of_getElem? (i := 4) rfl)) hK hw hS rfl rfl (Or.inl ⟨rfl, rfl⟩) (by decide) (by decide) (by decide) (Nat.le_of_ble_eq_true rfl) (Nat.le_of_ble_eq_true rfl) dX10_init_36 (fun H hw hS => ?_)
  refine n_putr (a := 107) (b := 112) (ci := 10) hx hb hts (fun w h => List.mem_cons_of_mem _ (List.mem_append_right _ (h))) tyX10 tyX10_ok nmX10 hown hK hw hS (by decide) rfl rfl 8 fs_10_8 hin2 rfl (hts (.fieldLink RX10 22 "LevelVotesModel" "now" "[I") (List.mem_of_getElem? (i := 9) rfl)) rfl rfl rfl dX10_init_38 (fun H locs hw hS => ?_)
  have hw : Wn D cA z 113 (u_X10_107_5 μ) H := hw
  refine lv_aload_n hx hb dX10_init_41 rfl (lv_at hl 0 rfl) ?_
  refine lv_sipush (v := 240) hx hb dX10_init_42 (by decide) ?_
  refine n_newa (atype := .int) (N := 240) (ci := 11) hx hb (hts (.arrayClass .int) (List.mem_of_getElem? (i := 4) rfl)) hK hw hS rfl rfl (Or.inl ⟨rfl, rfl⟩) (by decide) (by decide) (by decide) (Nat.le_of_ble_eq_true rfl) (Nat.le_of_ble_eq_true rfl) dX10_init_45 (fun H hw hS => ?_)
  refine n_putr (a := 107) (b := 113) (ci := 10) hx hb hts (fun w h => List.mem_cons_of_mem _ (List.mem_append_right _ (h))) tyX10 tyX10_ok nmX10 hown hK hw hS (by decide) rfl rfl 10 fs_10_10 hin2 rfl (hts (.fieldLink RX10 25 "LevelVotesModel" "text" "[I") (List.mem_of_getElem? (i := 10) rfl)) rfl rfl rfl dX10_init_47 (fun H locs hw hS => ?_)
  have hw : Wn D cA z 114 (u_X10_107_6 μ) H := hw
  refine lv_aload_n hx hb dX10_init_50 rfl (lv_at hl 0 rfl) ?_
  refine lv_iconst (v := -1) hx hb dX10_init_51 (by decide) ?_
  refine n_puti (a := 107) (ci := 10) hx hb hts (fun w h => List.mem_cons_of_mem _ (List.mem_append_right _ (h))) tyX10 tyX10_ok nmX10 hown hK hw hS (by decide) rfl rfl 12 fs_10_12 hin2 rfl (hts (.fieldLink RX10 28 "LevelVotesModel" "faultPlace" "I") (List.mem_of_getElem? (i := 11) rfl)) (vp_nar_int _) rfl dX10_init_52 (fun H locs hw hS => ?_)
  have hw : Wn D cA z 114 (u_X10_107_7 μ) H := hw
  refine lv_aload_n hx hb dX10_init_55 rfl (lv_at hl 0 rfl) ?_
  refine lv_iconst (v := 2) hx hb dX10_init_56 (by decide) ?_
  refine n_newa (atype := .int) (N := 2) (ci := 11) hx hb (hts (.arrayClass .int) (List.mem_of_getElem? (i := 4) rfl)) hK hw hS rfl rfl (Or.inl ⟨rfl, rfl⟩) (by decide) (by decide) (by decide) (Nat.le_of_ble_eq_true rfl) (Nat.le_of_ble_eq_true rfl) dX10_init_57 (fun H hw hS => ?_)
  refine n_putr (a := 107) (b := 114) (ci := 10) hx hb hts (fun w h => List.mem_cons_of_mem _ (List.mem_append_right _ (h))) tyX10 tyX10_ok nmX10 hown hK hw hS (by decide) rfl rfl 16 fs_10_16 hin2 rfl (hts (.fieldLink RX10 32 "LevelVotesModel" "readSize" "[I") (List.mem_of_getElem? (i := 12) rfl)) rfl rfl rfl dX10_init_59 (fun H locs hw hS => ?_)
  have hw : Wn D cA z 115 (u_X10_107_8 μ) H := hw
  refine lv_aload_n hx hb dX10_init_62 rfl (lv_at hl 0 rfl) ?_
  refine lv_bipush (v := 20) hx hb dX10_init_63 (by decide) ?_
  refine n_newa (atype := .int) (N := 20) (ci := 11) hx hb (hts (.arrayClass .int) (List.mem_of_getElem? (i := 4) rfl)) hK hw hS rfl rfl (Or.inl ⟨rfl, rfl⟩) (by decide) (by decide) (by decide) (Nat.le_of_ble_eq_true rfl) (Nat.le_of_ble_eq_true rfl) dX10_init_65 (fun H hw hS => ?_)
  refine n_putr (a := 107) (b := 115) (ci := 10) hx hb hts (fun w h => List.mem_cons_of_mem _ (List.mem_append_right _ (h))) tyX10 tyX10_ok nmX10 hown hK hw hS (by decide) rfl rfl 17 fs_10_17 hin2 rfl (hts (.fieldLink RX10 35 "LevelVotesModel" "readGround" "[I") (List.mem_of_getElem? (i := 13) rfl)) rfl rfl rfl dX10_init_67 (fun H locs hw hS => ?_)
  have hw : Wn D cA z 116 (u_X10_107_9 μ) H := hw
  refine lv_aload_n hx hb dX10_init_70 rfl (lv_at hl 0 rfl) ?_
  refine lv_iconst (v := 5) hx hb dX10_init_71 (by decide) ?_
  refine n_newa (atype := .int) (N := 5) (ci := 11) hx hb (hts (.arrayClass .int) (List.mem_of_getElem? (i := 4) rfl)) hK hw hS rfl rfl (Or.inl ⟨rfl, rfl⟩) (by decide) (by decide) (by decide) (Nat.le_of_ble_eq_true rfl) (Nat.le_of_ble_eq_true rfl) dX10_init_72 (fun H hw hS => ?_)
  refine n_putr (a := 107) (b := 116) (ci := 10) hx hb hts (fun w h => List.mem_cons_of_mem _ (List.mem_append_right _ (h))) tyX10 tyX10_ok nmX10 hown hK hw hS (by decide) rfl rfl 20 fs_10_20 hin2 rfl (hts (.fieldLink RX10 38 "LevelVotesModel" "readFrom" "[I") (List.mem_of_getElem? (i := 14) rfl)) rfl rfl rfl dX10_init_74 (fun H locs hw hS => ?_)
  have hw : Wn D cA z 117 (u_X10_107_10 μ) H := hw
  refine lv_aload_n hx hb dX10_init_77 rfl (lv_at hl 0 rfl) ?_
  refine lv_iconst (v := 5) hx hb dX10_init_78 (by decide) ?_
  refine n_newa (atype := .int) (N := 5) (ci := 11) hx hb (hts (.arrayClass .int) (List.mem_of_getElem? (i := 4) rfl)) hK hw hS rfl rfl (Or.inl ⟨rfl, rfl⟩) (by decide) (by decide) (by decide) (Nat.le_of_ble_eq_true rfl) (Nat.le_of_ble_eq_true rfl) dX10_init_79 (fun H hw hS => ?_)
  refine n_putr (a := 107) (b := 117) (ci := 10) hx hb hts (fun w h => List.mem_cons_of_mem _ (List.mem_append_right _ (h))) tyX10 tyX10_ok nmX10 hown hK hw hS (by decide) rfl rfl 21 fs_10_21 hin2 rfl (hts (.fieldLink RX10 41 "LevelVotesModel" "readTo" "[I") (List.mem_of_getElem? (i := 15) rfl)) rfl rfl rfl dX10_init_81 (fun H locs hw hS => ?_)
  have hw : Wn D cA z 118 (u_X10_107_11 μ) H := hw
  refine lv_aload_n hx hb dX10_init_84 rfl (lv_at hl 0 rfl) ?_
  refine lv_iconst (v := 5) hx hb dX10_init_85 (by decide) ?_
  refine n_newa (atype := .int) (N := 5) (ci := 11) hx hb (hts (.arrayClass .int) (List.mem_of_getElem? (i := 4) rfl)) hK hw hS rfl rfl (Or.inl ⟨rfl, rfl⟩) (by decide) (by decide) (by decide) (Nat.le_of_ble_eq_true rfl) (Nat.le_of_ble_eq_true rfl) dX10_init_86 (fun H hw hS => ?_)
  refine n_putr (a := 107) (b := 118) (ci := 10) hx hb hts (fun w h => List.mem_cons_of_mem _ (List.mem_append_right _ (h))) tyX10 tyX10_ok nmX10 hown hK hw hS (by decide) rfl rfl 22 fs_10_22 hin2 rfl (hts (.fieldLink RX10 44 "LevelVotesModel" "readLevel" "[I") (List.mem_of_getElem? (i := 16) rfl)) rfl rfl rfl dX10_init_88 (fun H locs hw hS => ?_)
  have hw : Wn D cA z 119 (u_X10_107_12 μ) H := hw
  refine lv_aload_n hx hb dX10_init_91 rfl (lv_at hl 0 rfl) ?_
  refine lv_bipush (v := 35) hx hb dX10_init_92 (by decide) ?_
  refine n_newa (atype := .int) (N := 35) (ci := 11) hx hb (hts (.arrayClass .int) (List.mem_of_getElem? (i := 4) rfl)) hK hw hS rfl rfl (Or.inl ⟨rfl, rfl⟩) (by decide) (by decide) (by decide) (Nat.le_of_ble_eq_true rfl) (Nat.le_of_ble_eq_true rfl) dX10_init_94 (fun H hw hS => ?_)
  refine n_putr (a := 107) (b := 119) (ci := 10) hx hb hts (fun w h => List.mem_cons_of_mem _ (List.mem_append_right _ (h))) tyX10 tyX10_ok nmX10 hown hK hw hS (by decide) rfl rfl 24 fs_10_24 hin2 rfl (hts (.fieldLink RX10 47 "LevelVotesModel" "readVotes" "[I") (List.mem_of_getElem? (i := 17) rfl)) rfl rfl rfl dX10_init_96 (fun H locs hw hS => ?_)
  have hw : Wn D cA z 120 (u_X10_107_13 μ) H := hw
  refine lv_aload_n hx hb dX10_init_99 rfl (lv_at hl 0 rfl) ?_
  refine lv_iconst (v := 5) hx hb dX10_init_100 (by decide) ?_
  refine n_newa (atype := .int) (N := 5) (ci := 11) hx hb (hts (.arrayClass .int) (List.mem_of_getElem? (i := 4) rfl)) hK hw hS rfl rfl (Or.inl ⟨rfl, rfl⟩) (by decide) (by decide) (by decide) (Nat.le_of_ble_eq_true rfl) (Nat.le_of_ble_eq_true rfl) dX10_init_101 (fun H hw hS => ?_)
  refine n_putr (a := 107) (b := 120) (ci := 10) hx hb hts (fun w h => List.mem_cons_of_mem _ (List.mem_append_right _ (h))) tyX10 tyX10_ok nmX10 hown hK hw hS (by decide) rfl rfl 25 fs_10_25 hin2 rfl (hts (.fieldLink RX10 50 "LevelVotesModel" "stands" "[I") (List.mem_of_getElem? (i := 18) rfl)) rfl rfl rfl dX10_init_103 (fun H locs hw hS => ?_)
  have hw : Wn D cA z 121 (u_X10_107_14 μ) H := hw
  refine lv_aload_n hx hb dX10_init_106 rfl (lv_at hl 0 rfl) ?_
  refine lv_bipush (v := 20) hx hb dX10_init_107 (by decide) ?_
  refine n_newa (atype := .int) (N := 20) (ci := 11) hx hb (hts (.arrayClass .int) (List.mem_of_getElem? (i := 4) rfl)) hK hw hS rfl rfl (Or.inl ⟨rfl, rfl⟩) (by decide) (by decide) (by decide) (Nat.le_of_ble_eq_true rfl) (Nat.le_of_ble_eq_true rfl) dX10_init_109 (fun H hw hS => ?_)
  refine n_putr (a := 107) (b := 121) (ci := 10) hx hb hts (fun w h => List.mem_cons_of_mem _ (List.mem_append_right _ (h))) tyX10 tyX10_ok nmX10 hown hK hw hS (by decide) rfl rfl 26 fs_10_26 hin2 rfl (hts (.fieldLink RX10 53 "LevelVotesModel" "heights" "[I") (List.mem_of_getElem? (i := 19) rfl)) rfl rfl rfl dX10_init_111 (fun H locs hw hS => ?_)
  have hw : Wn D cA z 122 (u_X10_107_15 μ) H := hw
  refine lv_aload_n hx hb dX10_init_114 rfl (lv_at hl 0 rfl) ?_
  refine lv_sipush (v := 740) hx hb dX10_init_115 (by decide) ?_
  refine n_newa (atype := .int) (N := 740) (ci := 11) hx hb (hts (.arrayClass .int) (List.mem_of_getElem? (i := 4) rfl)) hK hw hS rfl rfl (Or.inl ⟨rfl, rfl⟩) (by decide) (by decide) (by decide) (Nat.le_of_ble_eq_true rfl) (Nat.le_of_ble_eq_true rfl) dX10_init_118 (fun H hw hS => ?_)
  refine n_putr (a := 107) (b := 122) (ci := 10) hx hb hts (fun w h => List.mem_cons_of_mem _ (List.mem_append_right _ (h))) tyX10 tyX10_ok nmX10 hown hK hw hS (by decide) rfl rfl 28 fs_10_28 hin2 rfl (hts (.fieldLink RX10 56 "LevelVotesModel" "past" "[I") (List.mem_of_getElem? (i := 20) rfl)) rfl rfl rfl dX10_init_120 (fun H locs hw hS => ?_)
  have hw : Wn D cA z 123 (u_X10_107_16 μ) H := hw
  refine lv_aload_n hx hb dX10_init_123 rfl (lv_at hl 0 rfl) ?_
  refine lv_bipush (v := 15) hx hb dX10_init_124 (by decide) ?_
  refine n_newa (atype := .int) (N := 15) (ci := 11) hx hb (hts (.arrayClass .int) (List.mem_of_getElem? (i := 4) rfl)) hK hw hS rfl rfl (Or.inl ⟨rfl, rfl⟩) (by decide) (by decide) (by decide) (Nat.le_of_ble_eq_true rfl) (Nat.le_of_ble_eq_true rfl) dX10_init_126 (fun H hw hS => ?_)
  refine n_putr (a := 107) (b := 123) (ci := 10) hx hb hts (fun w h => List.mem_cons_of_mem _ (List.mem_append_right _ (h))) tyX10 tyX10_ok nmX10 hown hK hw hS (by decide) rfl rfl 29 fs_10_29 hin2 rfl (hts (.fieldLink RX10 59 "LevelVotesModel" "costs" "[I") (List.mem_of_getElem? (i := 21) rfl)) rfl rfl rfl dX10_init_128 (fun H locs hw hS => ?_)
  have hw : Wn D cA z 124 (u_X10_107_17 μ) H := hw
  refine lv_aload_n hx hb dX10_init_131 rfl (lv_at hl 0 rfl) ?_
  refine lv_bipush (v := 6) hx hb dX10_init_132 (by decide) ?_
  refine n_newa (atype := .int) (N := 6) (ci := 11) hx hb (hts (.arrayClass .int) (List.mem_of_getElem? (i := 4) rfl)) hK hw hS rfl rfl (Or.inl ⟨rfl, rfl⟩) (by decide) (by decide) (by decide) (Nat.le_of_ble_eq_true rfl) (Nat.le_of_ble_eq_true rfl) dX10_init_134 (fun H hw hS => ?_)
  refine n_putr (a := 107) (b := 124) (ci := 10) hx hb hts (fun w h => List.mem_cons_of_mem _ (List.mem_append_right _ (h))) tyX10 tyX10_ok nmX10 hown hK hw hS (by decide) rfl rfl 31 fs_10_31 hin2 rfl (hts (.fieldLink RX10 62 "LevelVotesModel" "seenFrom" "[I") (List.mem_of_getElem? (i := 22) rfl)) rfl rfl rfl dX10_init_136 (fun H locs hw hS => ?_)
  have hw : Wn D cA z 125 (u_X10_107_18 μ) H := hw
  refine lv_aload_n hx hb dX10_init_139 rfl (lv_at hl 0 rfl) ?_
  refine lv_bipush (v := 6) hx hb dX10_init_140 (by decide) ?_
  refine n_newa (atype := .int) (N := 6) (ci := 11) hx hb (hts (.arrayClass .int) (List.mem_of_getElem? (i := 4) rfl)) hK hw hS rfl rfl (Or.inl ⟨rfl, rfl⟩) (by decide) (by decide) (by decide) (Nat.le_of_ble_eq_true rfl) (Nat.le_of_ble_eq_true rfl) dX10_init_142 (fun H hw hS => ?_)
  refine n_putr (a := 107) (b := 125) (ci := 10) hx hb hts (fun w h => List.mem_cons_of_mem _ (List.mem_append_right _ (h))) tyX10 tyX10_ok nmX10 hown hK hw hS (by decide) rfl rfl 32 fs_10_32 hin2 rfl (hts (.fieldLink RX10 65 "LevelVotesModel" "seenAt" "[I") (List.mem_of_getElem? (i := 23) rfl)) rfl rfl rfl dX10_init_144 (fun H locs hw hS => ?_)
  have hw : Wn D cA z 126 (u_X10_107_19 μ) H := hw
  refine lv_aload_n hx hb dX10_init_147 rfl (lv_at hl 0 rfl) ?_
  refine lv_sipush (v := 400) hx hb dX10_init_148 (by decide) ?_
  refine n_newa (atype := .int) (N := 400) (ci := 11) hx hb (hts (.arrayClass .int) (List.mem_of_getElem? (i := 4) rfl)) hK hw hS rfl rfl (Or.inl ⟨rfl, rfl⟩) (by decide) (by decide) (by decide) (Nat.le_of_ble_eq_true rfl) (Nat.le_of_ble_eq_true rfl) dX10_init_151 (fun H hw hS => ?_)
  refine n_putr (a := 107) (b := 126) (ci := 10) hx hb hts (fun w h => List.mem_cons_of_mem _ (List.mem_append_right _ (h))) tyX10 tyX10_ok nmX10 hown hK hw hS (by decide) rfl rfl 33 fs_10_33 hin2 rfl (hts (.fieldLink RX10 68 "LevelVotesModel" "brings" "[I") (List.mem_of_getElem? (i := 24) rfl)) rfl rfl rfl dX10_init_153 (fun H locs hw hS => ?_)
  have hw : Wn D cA z 127 (u_X10_107_20 μ) H := hw
  refine lv_aload_n hx hb dX10_init_156 rfl (lv_at hl 0 rfl) ?_
  refine lv_bipush (v := 15) hx hb dX10_init_157 (by decide) ?_
  refine n_newa (atype := .int) (N := 15) (ci := 11) hx hb (hts (.arrayClass .int) (List.mem_of_getElem? (i := 4) rfl)) hK hw hS rfl rfl (Or.inl ⟨rfl, rfl⟩) (by decide) (by decide) (by decide) (Nat.le_of_ble_eq_true rfl) (Nat.le_of_ble_eq_true rfl) dX10_init_159 (fun H hw hS => ?_)
  refine n_putr (a := 107) (b := 127) (ci := 10) hx hb hts (fun w h => List.mem_cons_of_mem _ (List.mem_append_right _ (h))) tyX10 tyX10_ok nmX10 hown hK hw hS (by decide) rfl rfl 35 fs_10_35 hin2 rfl (hts (.fieldLink RX10 71 "LevelVotesModel" "bookAt" "[I") (List.mem_of_getElem? (i := 25) rfl)) rfl rfl rfl dX10_init_161 (fun H locs hw hS => ?_)
  have hw : Wn D cA z 128 (u_X10_107_21 μ) H := hw
  refine lv_aload_n hx hb dX10_init_164 rfl (lv_at hl 0 rfl) ?_
  refine lv_bipush (v := 15) hx hb dX10_init_165 (by decide) ?_
  refine n_newa (atype := .int) (N := 15) (ci := 11) hx hb (hts (.arrayClass .int) (List.mem_of_getElem? (i := 4) rfl)) hK hw hS rfl rfl (Or.inl ⟨rfl, rfl⟩) (by decide) (by decide) (by decide) (Nat.le_of_ble_eq_true rfl) (Nat.le_of_ble_eq_true rfl) dX10_init_167 (fun H hw hS => ?_)
  refine n_putr (a := 107) (b := 128) (ci := 10) hx hb hts (fun w h => List.mem_cons_of_mem _ (List.mem_append_right _ (h))) tyX10 tyX10_ok nmX10 hown hK hw hS (by decide) rfl rfl 36 fs_10_36 hin2 rfl (hts (.fieldLink RX10 74 "LevelVotesModel" "bookHigh" "[I") (List.mem_of_getElem? (i := 26) rfl)) rfl rfl rfl dX10_init_169 (fun H locs hw hS => ?_)
  have hw : Wn D cA z 129 (u_X10_107_22 μ) H := hw
  refine lv_aload_n hx hb dX10_init_172 rfl (lv_at hl 0 rfl) ?_
  refine lv_bipush (v := 76) hx hb dX10_init_173 (by decide) ?_
  refine n_newa (atype := .int) (N := 76) (ci := 11) hx hb (hts (.arrayClass .int) (List.mem_of_getElem? (i := 4) rfl)) hK hw hS rfl rfl (Or.inl ⟨rfl, rfl⟩) (by decide) (by decide) (by decide) (Nat.le_of_ble_eq_true rfl) (Nat.le_of_ble_eq_true rfl) dX10_init_175 (fun H hw hS => ?_)
  refine n_putr (a := 107) (b := 129) (ci := 10) hx hb hts (fun w h => List.mem_cons_of_mem _ (List.mem_append_right _ (h))) tyX10 tyX10_ok nmX10 hown hK hw hS (by decide) rfl rfl 37 fs_10_37 hin2 rfl (hts (.fieldLink RX10 77 "LevelVotesModel" "images" "[I") (List.mem_of_getElem? (i := 27) rfl)) rfl rfl rfl dX10_init_177 (fun H locs hw hS => ?_)
  have hw : Wn D cA z 130 (u_X10_107_23 μ) H := hw
  refine lv_aload_n hx hb dX10_init_180 rfl (lv_at hl 0 rfl) ?_
  refine lv_iconst (v := 2) hx hb dX10_init_181 (by decide) ?_
  refine n_newa (atype := .boolean) (N := 2) (ci := 12) hx hb (hts (.arrayClass .boolean) (List.mem_of_getElem? (i := 28) rfl)) hK hw hS rfl rfl (Or.inr ⟨rfl, rfl⟩) (by decide) (by decide) (by decide) (Nat.le_of_ble_eq_true rfl) (Nat.le_of_ble_eq_true rfl) dX10_init_182 (fun H hw hS => ?_)
  refine n_putr (a := 107) (b := 130) (ci := 10) hx hb hts (fun w h => List.mem_cons_of_mem _ (List.mem_append_right _ (h))) tyX10 tyX10_ok nmX10 hown hK hw hS (by decide) rfl rfl 38 fs_10_38 hin2 rfl (hts (.fieldLink RX10 80 "LevelVotesModel" "isKept" "[Z") (List.mem_of_getElem? (i := 29) rfl)) rfl rfl rfl dX10_init_184 (fun H locs hw hS => ?_)
  have hw : Wn D cA z 131 (u_X10_107_24 μ) H := hw
  refine lv_aload_n hx hb dX10_init_187 rfl (lv_at hl 0 rfl) ?_
  refine n_getr (a := 107) (ci := 10) (b := 112) hx hb hts (fun w h => List.mem_cons_of_mem _ (List.mem_append_right _ (h))) hown hK hw (by decide) rfl rfl rfl fs_10_8 (hts (.fieldLink RX10 22 "LevelVotesModel" "now" "[I") (List.mem_of_getElem? (i := 9) rfl)) dX10_init_188 ?_
  refine lv_bipush (v := 36) hx hb dX10_init_191 (by decide) ?_
  refine lv_iconst (v := -1) hx hb dX10_init_193 (by decide) ?_
  refine n_iast (a := 112) (j := 36) hx hb hK hw hS (by decide) rfl (by decide) (ckb_in (by decide)) dX10_init_194 (fun H locs hw hS => ?_)
  have hw : Wn D cA z 131 (u_X10_107_25 μ) H := hw
  exact n_ret hx hb hr hlk hw hS rfl rfl dX10_init_195
