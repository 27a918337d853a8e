theorem bR_s {α : Type} (b : Nat) (k : Nat → Option α) : bR (some b) k = k b := rfl
theorem bC_s {α β : Type} (r : β) (μ : Mm) (k : β → Mm → Option α) : bC (some (r, μ)) k = k r μ := rfl
theorem bV_s {α : Type} (μ : Mm) (k : Mm → Option α) : bV (some μ) k = k μ := rfl
theorem bI_s {α : Type} (x : Int32) (k : Int32 → Option α) : bI x k = k x := rfl
theorem bL_s {α : Type} (x : Int64) (k : Int64 → Option α) : bL x k = k x := rfl
theorem bM_s {α : Type} (μ : Mm) (k : Mm → Option α) : bM μ k = k μ := rfl
theorem gd_t {α : Type} (k : Option α) : gd true k = k := rfl
theorem bN_n {α : Type} (kn : Option α) (ks : Nat → Option α) : bN none kn ks = kn := rfl
theorem bN_s {α : Type} (b : Nat) (kn : Option α) (ks : Nat → Option α) : bN (some b) kn ks = ks b := rfl
theorem up2_at {α : Type} (f : Nat → Nat → α) (a k : Nat) (v : α) : up2 f a k v a k = v := by simp [up2]
theorem up2_na {α : Type} {f : Nat → Nat → α} {a k b j : Nat} {v : α} (h : b ≠ a) : up2 f a k v b j = f b j := by simp [up2, h]
theorem up2_nk {α : Type} {f : Nat → Nat → α} {a k b j : Nat} {v : α} (h : j ≠ k) : up2 f a k v b j = f b j := by simp [up2, h]
theorem up2_id {α : Type} {f : Nat → Nat → α} {a k : Nat} {v : α} (h : f a k = v) : up2 f a k v = f := by
  funext b j
  unfold up2
  split
  · rename_i q
    rw [q.1, q.2, h]
  · rfl
def rfI : Nat → Nat → Option Nat := (u_X10_107 (u_X9_0 μ0)).2
/-- the references, the plan at P, the draft at Q -/
def RFt (P Q : Nat) : Nat → Nat → Option Nat := up2 (up2 rfI 0 1 (some P)) 0 2 (some Q)
set_option maxRecDepth 100000 in
theorem RFt_0 : RFt 3 11 = rfI := by
  unfold RFt
  rw [up2_id (show rfI 0 1 = some 3 from rfl), up2_id (show rfI 0 2 = some 11 from rfl)]
theorem RFt_swap (P Q : Nat) : up2 (up2 (RFt P Q) 0 1 (some Q)) 0 2 (some P) = RFt Q P := by
  funext b j
  unfold RFt up2
  by_cases h2 : b = 0 ∧ j = 2
  · simp [h2]
  · by_cases h1 : b = 0 ∧ j = 1
    · simp [h1]
    · simp [h1, h2]
set_option maxRecDepth 100000 in
theorem rt_p (P Q : Nat) : RFt P Q 0 1 = some P := rfl
set_option maxRecDepth 100000 in
theorem rt_d (P Q : Nat) : RFt P Q 0 2 = some Q := rfl
set_option maxRecDepth 100000 in
theorem rt_0_0 (P Q : Nat) : RFt P Q 0 0 = some 1 := rfl
set_option maxRecDepth 100000 in
theorem rt_0_4 (P Q : Nat) : RFt P Q 0 4 = some 19 := rfl
set_option maxRecDepth 100000 in
theorem rt_0_5 (P Q : Nat) : RFt P Q 0 5 = some 22 := rfl
set_option maxRecDepth 100000 in
theorem rt_0_6 (P Q : Nat) : RFt P Q 0 6 = some 84 := rfl
set_option maxRecDepth 100000 in
theorem rt_0_7 (P Q : Nat) : RFt P Q 0 7 = some 85 := rfl
set_option maxRecDepth 100000 in
theorem rt_0_8 (P Q : Nat) : RFt P Q 0 8 = some 86 := rfl
set_option maxRecDepth 100000 in
theorem rt_0_9 (P Q : Nat) : RFt P Q 0 9 = some 91 := rfl
set_option maxRecDepth 100000 in
theorem rt_0_10 (P Q : Nat) : RFt P Q 0 10 = some 93 := rfl
set_option maxRecDepth 100000 in
theorem rt_0_11 (P Q : Nat) : RFt P Q 0 11 = some 97 := rfl
set_option maxRecDepth 100000 in
theorem rt_0_12 (P Q : Nat) : RFt P Q 0 12 = some 98 := rfl
set_option maxRecDepth 100000 in
theorem rt_1_0 (P Q : Nat) : RFt P Q 1 0 = some 2 := rfl
set_option maxRecDepth 100000 in
theorem rt_8_0 (P Q : Nat) : RFt P Q 8 0 = some 9 := rfl
set_option maxRecDepth 100000 in
theorem rt_8_1 (P Q : Nat) : RFt P Q 8 1 = some 10 := rfl
set_option maxRecDepth 100000 in
theorem rt_16_0 (P Q : Nat) : RFt P Q 16 0 = some 17 := rfl
set_option maxRecDepth 100000 in
theorem rt_16_1 (P Q : Nat) : RFt P Q 16 1 = some 18 := rfl
set_option maxRecDepth 100000 in
theorem rt_19_0 (P Q : Nat) : RFt P Q 19 0 = some 20 := rfl
set_option maxRecDepth 100000 in
theorem rt_19_1 (P Q : Nat) : RFt P Q 19 1 = some 21 := rfl
set_option maxRecDepth 100000 in
theorem rt_22_0 (P Q : Nat) : RFt P Q 22 0 = some 23 := rfl
set_option maxRecDepth 100000 in
theorem rt_23_0 (P Q : Nat) : RFt P Q 23 0 = some 24 := rfl
set_option maxRecDepth 100000 in
theorem rt_23_1 (P Q : Nat) : RFt P Q 23 1 = some 27 := rfl
set_option maxRecDepth 100000 in
theorem rt_23_2 (P Q : Nat) : RFt P Q 23 2 = some 30 := rfl
set_option maxRecDepth 100000 in
theorem rt_23_3 (P Q : Nat) : RFt P Q 23 3 = some 33 := rfl
set_option maxRecDepth 100000 in
theorem rt_23_4 (P Q : Nat) : RFt P Q 23 4 = some 36 := rfl
set_option maxRecDepth 100000 in
theorem rt_23_5 (P Q : Nat) : RFt P Q 23 5 = some 39 := rfl
set_option maxRecDepth 100000 in
theorem rt_23_6 (P Q : Nat) : RFt P Q 23 6 = some 42 := rfl
set_option maxRecDepth 100000 in
theorem rt_23_7 (P Q : Nat) : RFt P Q 23 7 = some 45 := rfl
set_option maxRecDepth 100000 in
theorem rt_23_8 (P Q : Nat) : RFt P Q 23 8 = some 48 := rfl
set_option maxRecDepth 100000 in
theorem rt_23_9 (P Q : Nat) : RFt P Q 23 9 = some 51 := rfl
set_option maxRecDepth 100000 in
theorem rt_23_10 (P Q : Nat) : RFt P Q 23 10 = some 54 := rfl
set_option maxRecDepth 100000 in
theorem rt_23_11 (P Q : Nat) : RFt P Q 23 11 = some 57 := rfl
set_option maxRecDepth 100000 in
theorem rt_23_12 (P Q : Nat) : RFt P Q 23 12 = some 60 := rfl
set_option maxRecDepth 100000 in
theorem rt_23_13 (P Q : Nat) : RFt P Q 23 13 = some 63 := rfl
set_option maxRecDepth 100000 in
theorem rt_23_14 (P Q : Nat) : RFt P Q 23 14 = some 66 := rfl
set_option maxRecDepth 100000 in
theorem rt_23_15 (P Q : Nat) : RFt P Q 23 15 = some 69 := rfl
set_option maxRecDepth 100000 in
theorem rt_23_16 (P Q : Nat) : RFt P Q 23 16 = some 72 := rfl
set_option maxRecDepth 100000 in
theorem rt_23_17 (P Q : Nat) : RFt P Q 23 17 = some 75 := rfl
set_option maxRecDepth 100000 in
theorem rt_23_18 (P Q : Nat) : RFt P Q 23 18 = some 78 := rfl
set_option maxRecDepth 100000 in
theorem rt_23_19 (P Q : Nat) : RFt P Q 23 19 = some 81 := rfl
set_option maxRecDepth 100000 in
theorem rt_24_0 (P Q : Nat) : RFt P Q 24 0 = some 25 := rfl
set_option maxRecDepth 100000 in
theorem rt_24_1 (P Q : Nat) : RFt P Q 24 1 = some 26 := rfl
set_option maxRecDepth 100000 in
theorem rt_27_0 (P Q : Nat) : RFt P Q 27 0 = some 28 := rfl
set_option maxRecDepth 100000 in
theorem rt_27_1 (P Q : Nat) : RFt P Q 27 1 = some 29 := rfl
set_option maxRecDepth 100000 in
theorem rt_30_0 (P Q : Nat) : RFt P Q 30 0 = some 31 := rfl
set_option maxRecDepth 100000 in
theorem rt_30_1 (P Q : Nat) : RFt P Q 30 1 = some 32 := rfl
set_option maxRecDepth 100000 in
theorem rt_33_0 (P Q : Nat) : RFt P Q 33 0 = some 34 := rfl
set_option maxRecDepth 100000 in
theorem rt_33_1 (P Q : Nat) : RFt P Q 33 1 = some 35 := rfl
set_option maxRecDepth 100000 in
theorem rt_36_0 (P Q : Nat) : RFt P Q 36 0 = some 37 := rfl
set_option maxRecDepth 100000 in
theorem rt_36_1 (P Q : Nat) : RFt P Q 36 1 = some 38 := rfl
set_option maxRecDepth 100000 in
theorem rt_39_0 (P Q : Nat) : RFt P Q 39 0 = some 40 := rfl
set_option maxRecDepth 100000 in
theorem rt_39_1 (P Q : Nat) : RFt P Q 39 1 = some 41 := rfl
set_option maxRecDepth 100000 in
theorem rt_42_0 (P Q : Nat) : RFt P Q 42 0 = some 43 := rfl
set_option maxRecDepth 100000 in
theorem rt_42_1 (P Q : Nat) : RFt P Q 42 1 = some 44 := rfl
set_option maxRecDepth 100000 in
theorem rt_45_0 (P Q : Nat) : RFt P Q 45 0 = some 46 := rfl
set_option maxRecDepth 100000 in
theorem rt_45_1 (P Q : Nat) : RFt P Q 45 1 = some 47 := rfl
set_option maxRecDepth 100000 in
theorem rt_48_0 (P Q : Nat) : RFt P Q 48 0 = some 49 := rfl
set_option maxRecDepth 100000 in
theorem rt_48_1 (P Q : Nat) : RFt P Q 48 1 = some 50 := rfl
set_option maxRecDepth 100000 in
theorem rt_51_0 (P Q : Nat) : RFt P Q 51 0 = some 52 := rfl
set_option maxRecDepth 100000 in
theorem rt_51_1 (P Q : Nat) : RFt P Q 51 1 = some 53 := rfl
set_option maxRecDepth 100000 in
theorem rt_54_0 (P Q : Nat) : RFt P Q 54 0 = some 55 := rfl
set_option maxRecDepth 100000 in
theorem rt_54_1 (P Q : Nat) : RFt P Q 54 1 = some 56 := rfl
set_option maxRecDepth 100000 in
theorem rt_57_0 (P Q : Nat) : RFt P Q 57 0 = some 58 := rfl
set_option maxRecDepth 100000 in
theorem rt_57_1 (P Q : Nat) : RFt P Q 57 1 = some 59 := rfl
set_option maxRecDepth 100000 in
theorem rt_60_0 (P Q : Nat) : RFt P Q 60 0 = some 61 := rfl
set_option maxRecDepth 100000 in
theorem rt_60_1 (P Q : Nat) : RFt P Q 60 1 = some 62 := rfl
set_option maxRecDepth 100000 in
theorem rt_63_0 (P Q : Nat) : RFt P Q 63 0 = some 64 := rfl
set_option maxRecDepth 100000 in
theorem rt_63_1 (P Q : Nat) : RFt P Q 63 1 = some 65 := rfl
set_option maxRecDepth 100000 in
theorem rt_66_0 (P Q : Nat) : RFt P Q 66 0 = some 67 := rfl
set_option maxRecDepth 100000 in
theorem rt_66_1 (P Q : Nat) : RFt P Q 66 1 = some 68 := rfl
set_option maxRecDepth 100000 in
theorem rt_69_0 (P Q : Nat) : RFt P Q 69 0 = some 70 := rfl
set_option maxRecDepth 100000 in
theorem rt_69_1 (P Q : Nat) : RFt P Q 69 1 = some 71 := rfl
set_option maxRecDepth 100000 in
theorem rt_72_0 (P Q : Nat) : RFt P Q 72 0 = some 73 := rfl
set_option maxRecDepth 100000 in
theorem rt_72_1 (P Q : Nat) : RFt P Q 72 1 = some 74 := rfl
set_option maxRecDepth 100000 in
theorem rt_75_0 (P Q : Nat) : RFt P Q 75 0 = some 76 := rfl
set_option maxRecDepth 100000 in
theorem rt_75_1 (P Q : Nat) : RFt P Q 75 1 = some 77 := rfl
set_option maxRecDepth 100000 in
theorem rt_78_0 (P Q : Nat) : RFt P Q 78 0 = some 79 := rfl
set_option maxRecDepth 100000 in
theorem rt_78_1 (P Q : Nat) : RFt P Q 78 1 = some 80 := rfl
set_option maxRecDepth 100000 in
theorem rt_81_0 (P Q : Nat) : RFt P Q 81 0 = some 82 := rfl
set_option maxRecDepth 100000 in
theorem rt_81_1 (P Q : Nat) : RFt P Q 81 1 = some 83 := rfl
set_option maxRecDepth 100000 in
theorem rt_84_0 (P Q : Nat) : RFt P Q 84 0 = some 99 := rfl
set_option maxRecDepth 100000 in
theorem rt_84_1 (P Q : Nat) : RFt P Q 84 1 = some 103 := rfl
set_option maxRecDepth 100000 in
theorem rt_86_0 (P Q : Nat) : RFt P Q 86 0 = some 87 := rfl
set_option maxRecDepth 100000 in
theorem rt_86_1 (P Q : Nat) : RFt P Q 86 1 = some 88 := rfl
set_option maxRecDepth 100000 in
theorem rt_86_2 (P Q : Nat) : RFt P Q 86 2 = some 89 := rfl
set_option maxRecDepth 100000 in
theorem rt_86_3 (P Q : Nat) : RFt P Q 86 3 = some 90 := rfl
set_option maxRecDepth 100000 in
theorem rt_91_0 (P Q : Nat) : RFt P Q 91 0 = some 92 := rfl
set_option maxRecDepth 100000 in
theorem rt_93_0 (P Q : Nat) : RFt P Q 93 0 = some 94 := rfl
set_option maxRecDepth 100000 in
theorem rt_93_1 (P Q : Nat) : RFt P Q 93 1 = some 95 := rfl
set_option maxRecDepth 100000 in
theorem rt_93_2 (P Q : Nat) : RFt P Q 93 2 = some 96 := rfl
set_option maxRecDepth 100000 in
theorem rt_99_0 (P Q : Nat) : RFt P Q 99 0 = some 100 := rfl
set_option maxRecDepth 100000 in
theorem rt_100_0 (P Q : Nat) : RFt P Q 100 0 = some 101 := rfl
set_option maxRecDepth 100000 in
theorem rt_100_1 (P Q : Nat) : RFt P Q 100 1 = some 102 := rfl
set_option maxRecDepth 100000 in
theorem rt_103_0 (P Q : Nat) : RFt P Q 103 0 = some 104 := rfl
set_option maxRecDepth 100000 in
theorem rt_104_0 (P Q : Nat) : RFt P Q 104 0 = some 105 := rfl
set_option maxRecDepth 100000 in
theorem rt_104_1 (P Q : Nat) : RFt P Q 104 1 = some 106 := rfl
set_option maxRecDepth 100000 in
theorem rt_107_2 (P Q : Nat) : RFt P Q 107 2 = some 108 := rfl
set_option maxRecDepth 100000 in
theorem rt_107_4 (P Q : Nat) : RFt P Q 107 4 = some 109 := rfl
set_option maxRecDepth 100000 in
theorem rt_107_5 (P Q : Nat) : RFt P Q 107 5 = some 110 := rfl
set_option maxRecDepth 100000 in
theorem rt_107_6 (P Q : Nat) : RFt P Q 107 6 = some 111 := rfl
set_option maxRecDepth 100000 in
theorem rt_107_8 (P Q : Nat) : RFt P Q 107 8 = some 112 := rfl
set_option maxRecDepth 100000 in
theorem rt_107_10 (P Q : Nat) : RFt P Q 107 10 = some 113 := rfl
set_option maxRecDepth 100000 in
theorem rt_107_16 (P Q : Nat) : RFt P Q 107 16 = some 114 := rfl
set_option maxRecDepth 100000 in
theorem rt_107_17 (P Q : Nat) : RFt P Q 107 17 = some 115 := rfl
set_option maxRecDepth 100000 in
theorem rt_107_20 (P Q : Nat) : RFt P Q 107 20 = some 116 := rfl
set_option maxRecDepth 100000 in
theorem rt_107_21 (P Q : Nat) : RFt P Q 107 21 = some 117 := rfl
set_option maxRecDepth 100000 in
theorem rt_107_22 (P Q : Nat) : RFt P Q 107 22 = some 118 := rfl
set_option maxRecDepth 100000 in
theorem rt_107_24 (P Q : Nat) : RFt P Q 107 24 = some 119 := rfl
set_option maxRecDepth 100000 in
theorem rt_107_25 (P Q : Nat) : RFt P Q 107 25 = some 120 := rfl
set_option maxRecDepth 100000 in
theorem rt_107_26 (P Q : Nat) : RFt P Q 107 26 = some 121 := rfl
set_option maxRecDepth 100000 in
theorem rt_107_28 (P Q : Nat) : RFt P Q 107 28 = some 122 := rfl
set_option maxRecDepth 100000 in
theorem rt_107_29 (P Q : Nat) : RFt P Q 107 29 = some 123 := rfl
set_option maxRecDepth 100000 in
theorem rt_107_31 (P Q : Nat) : RFt P Q 107 31 = some 124 := rfl
set_option maxRecDepth 100000 in
theorem rt_107_32 (P Q : Nat) : RFt P Q 107 32 = some 125 := rfl
set_option maxRecDepth 100000 in
theorem rt_107_33 (P Q : Nat) : RFt P Q 107 33 = some 126 := rfl
set_option maxRecDepth 100000 in
theorem rt_107_35 (P Q : Nat) : RFt P Q 107 35 = some 127 := rfl
set_option maxRecDepth 100000 in
theorem rt_107_36 (P Q : Nat) : RFt P Q 107 36 = some 128 := rfl
set_option maxRecDepth 100000 in
theorem rt_107_37 (P Q : Nat) : RFt P Q 107 37 = some 129 := rfl
set_option maxRecDepth 100000 in
theorem rt_107_38 (P Q : Nat) : RFt P Q 107 38 = some 130 := rfl
set_option maxRecDepth 100000 in
theorem rt_h6 {P : Nat} (Q : Nat) (hP : P = 3 ∨ P = 11) : RFt P Q P 6 = some (P + 1) := by rcases hP with rfl | rfl <;> rfl
set_option maxRecDepth 100000 in
theorem rt_h7 {P : Nat} (Q : Nat) (hP : P = 3 ∨ P = 11) : RFt P Q P 7 = some (P + 2) := by rcases hP with rfl | rfl <;> rfl
set_option maxRecDepth 100000 in
theorem rt_h8 {P : Nat} (Q : Nat) (hP : P = 3 ∨ P = 11) : RFt P Q P 8 = some (P + 3) := by rcases hP with rfl | rfl <;> rfl
set_option maxRecDepth 100000 in
theorem rt_h9 {P : Nat} (Q : Nat) (hP : P = 3 ∨ P = 11) : RFt P Q P 9 = some (P + 4) := by rcases hP with rfl | rfl <;> rfl
set_option maxRecDepth 100000 in
theorem rt_h10 {P : Nat} (Q : Nat) (hP : P = 3 ∨ P = 11) : RFt P Q P 10 = some (P + 5) := by rcases hP with rfl | rfl <;> rfl
