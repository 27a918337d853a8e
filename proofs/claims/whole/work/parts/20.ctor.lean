/-! the store while it is being made: the cells 0 .. n - 1 stand, all behind them is blank -/
def wn (cA : Nat → ClassId) (z n : Nat) (μ : Mm) : va_W := (List.range n).map (fun a => (z + a, ce cA z μ a))
def Bl (μ : Mm) (n : Nat) : Prop := ∀ a, n ≤ a → ∀ k, μ.1 a k = 0 ∧ μ.2 a k = none
def Wn (D : va_G) (cA : Nat → ClassId) (z n : Nat) (μ : Mm) (H : Heap) : Prop := WT μ.2 ∧ Bl μ n ∧ H.size = z + n ∧ va_P D vwCl (wn cA z n μ) H
def Wkc (D : va_G) (cA : Nat → ClassId) (U : State) : Prop := Wk D cA U ∧ va_AO "LevelVotes$Ballot" U ∧ va_AO "LevelVotes$Image" U ∧
  va_Nw (.methodLinkNest RX3 17 yX0_init "LevelVotes") U ∧ va_Nw (.methodLinkNest RX4 26 yX0_init "LevelVotes") U ∧ va_Nw (.methodLinkNest RX5 9 yX0_init "LevelVotes") U ∧ va_Nw (.methodLinkNest RX9 9 yX7_init "LevelVotes") U ∧ va_Nw (.methodLinkNest RX9 18 yX4_init "LevelVotes") U ∧ va_Nw (.methodLinkNest RX9 32 yX0_init "LevelVotes") U ∧ va_Nw (.methodLinkNest RX9 52 yX1_init "LevelVotes") U ∧ va_Nw (.methodLinkNest RX9 59 yX6_init "LevelVotes") U ∧ va_Nw (.methodLinkNest RX9 66 yX8_init "LevelVotes") U ∧ va_Nw (.methodLinkNest RX9 73 yX2_init "LevelVotes") U ∧ va_Nw (.methodLinkNest RX9 85 yX5_init "LevelVotes") U
theorem Wkc.warm {D : va_G} {cA : Nat → ClassId} {s U : State} (h : Wkc D cA s) (hW : s.WarmedH U.vm) : Wkc D cA U := by
  obtain ⟨h1, h2, h3, n1, n2, n3, n4, n5, n6, n7, n8, n9, n10, n11⟩ := h
  exact ⟨h1.warm hW, h2.moved hW.alike, h3.moved hW.alike, va_Nw.warmM hW n1, va_Nw.warmM hW n2, va_Nw.warmM hW n3, va_Nw.warmM hW n4, va_Nw.warmM hW n5, va_Nw.warmM hW n6, va_Nw.warmM hW n7, va_Nw.warmM hW n8, va_Nw.warmM hW n9, va_Nw.warmM hW n10, va_Nw.warmM hW n11⟩
theorem Wkc.call {D : va_G} {cA : Nat → ClassId} {U : State} {g : JFrame} {mk : MethodId} {a : Array Value} (h : Wkc D cA U) : Wkc D cA (U.calling g mk a) := by
  obtain ⟨h1, h2, h3, n1, n2, n3, n4, n5, n6, n7, n8, n9, n10, n11⟩ := h
  have hv : U.vm = (U.calling g mk a).vm := rfl
  exact ⟨⟨va_K.moved (u := U) (U := U.calling g mk a) (Vm.Alike.refl U.vm) h1.1, va_Nw.same rfl hv h1.2⟩, va_AO.moved (u := U) (U := U.calling g mk a) (Vm.Alike.refl U.vm) h2, va_AO.moved (u := U) (U := U.calling g mk a) (Vm.Alike.refl U.vm) h3, va_Nw.same rfl hv n1, va_Nw.same rfl hv n2, va_Nw.same rfl hv n3, va_Nw.same rfl hv n4, va_Nw.same rfl hv n5, va_Nw.same rfl hv n6, va_Nw.same rfl hv n7, va_Nw.same rfl hv n8, va_Nw.same rfl hv n9, va_Nw.same rfl hv n10, va_Nw.same rfl hv n11⟩
theorem wn_at (cA : Nat → ClassId) (z n : Nat) (μ : Mm) {a : Nat} (h : a < n) : (wn cA z n μ)[a]? = some (z + a, ce cA z μ a) := by
  unfold wn
  rw [List.getElem?_map, List.getElem?_range h]
  rfl
theorem wn_no (cA : Nat → ClassId) (z n : Nat) (μ : Mm) {a : Nat} (h : ¬ a < n) : (wn cA z n μ)[a]? = none := by
  unfold wn
  rw [List.getElem?_eq_none]
  rw [List.length_map, List.length_range]
  omega
theorem wn_len (cA : Nat → ClassId) (z n : Nat) (μ : Mm) : (wn cA z n μ).length = n := by
  unfold wn
  rw [List.length_map, List.length_range]
theorem wn_inv {cA : Nat → ClassId} {z n : Nat} {μ : Mm} {i : Nat} {q : Nat × va_E} (h : (wn cA z n μ)[i]? = some q) : i < n ∧ q = (z + i, ce cA z μ i) := by
  rcases Nat.lt_or_ge i n with hi | hi
  · rw [wn_at cA z n μ hi] at h
    exact ⟨hi, (Option.some.inj h).symm⟩
  · rw [wn_no cA z n μ (by omega)] at h
    cases h
theorem wn_D (cA : Nat → ClassId) (z n : Nat) (μ : Mm) : va_D (Az z) (wn cA z n μ) := by
  refine ⟨fun i j p q hi hj h => ?_, fun k q hk => ?_⟩
  · obtain ⟨-, rfl⟩ := wn_inv hi
    obtain ⟨-, rfl⟩ := wn_inv hj
    have h2 : z + i = z + j := h
    omega
  · obtain ⟨-, rfl⟩ := wn_inv hk
    exact Nat.le_add_right z k
theorem wn_set {cA : Nat → ClassId} {z n : Nat} {μ μ' : Mm} {a : Nat} {e : va_E} (h : a < n) (he : ce cA z μ' a = e) (ho : ∀ b, b ≠ a → ce cA z μ' b = ce cA z μ b) : (wn cA z n μ).set a (z + a, e) = wn cA z n μ' := by
  apply List.ext_getElem?
  intro i
  rw [List.getElem?_set, wn_len]
  by_cases hi : i < n
  · rw [wn_at cA z n μ hi, wn_at cA z n μ' hi]
    by_cases hia : a = i
    · subst hia
      rw [if_pos rfl, if_pos h, he]
    · rw [if_neg hia, ho i (fun q => hia q.symm)]
  · rw [wn_no cA z n μ hi, wn_no cA z n μ' hi, if_neg (by omega)]
theorem wn_succ (cA : Nat → ClassId) (z n : Nat) (μ : Mm) : wn cA z (n + 1) μ = wn cA z n μ ++ [(z + n, ce cA z μ n)] := by
  unfold wn
  rw [List.range_succ, List.map_append]
  rfl
theorem Wn.wd {D : va_G} {cA : Nat → ClassId} {z : Nat} {μ : Mm} {H : Heap} (h : Wn D cA z 131 μ H) : Wd D cA z μ H := ⟨h.1, h.2.2.2⟩
theorem Bl_i {μ : Mm} {n a k : Nat} {v : Int32} (h : Bl μ n) (ha : a < n) : Bl (up2 μ.1 a k v, μ.2) n := by
  intro b hb j
  have : b ≠ a := by omega
  exact ⟨by show up2 μ.1 a k v b j = 0; rw [up2_ne this]; exact (h b hb j).1, (h b hb j).2⟩
theorem Bl_r {μ : Mm} {n a k : Nat} {v : Option Nat} (h : Bl μ n) (ha : a < n) : Bl (μ.1, up2 μ.2 a k v) n := by
  intro b hb j
  have : b ≠ a := by omega
  exact ⟨(h b hb j).1, by show up2 μ.2 a k v b j = none; rw [up2_ne this]; exact (h b hb j).2⟩
theorem WT_r {μ : Mm} {a k b : Nat} (h : WT μ.2) (hb : kd b = tg (kd a) k) : WT (up2 μ.2 a k (some b)) := by
  intro a' k' b' h'
  by_cases q : a' = a ∧ k' = k
  · obtain ⟨rfl, rfl⟩ := q
    have h2 : some b = some b' := by simpa [up2] using h'
    cases h2
    exact hb
  · exact h a' k' b' (by simpa [up2, q] using h')
section RN
variable {p : Program} {l : Launch} {e : Env} {R : Room} {s : State} {m : MethodId} {args : Array Value} {below : List Frame} {meth : Method} {c : Code} {H : Heap} {locs : List Loc} {cells slots : Nat} {Q : State → Prop}
variable {cc : ByteArray} {pc : Nat} {ls : Array Slot} {rest : List Value} {D : va_G} {cA : Nat → ClassId} {z n : Nat} {μ μ' : Mm} {H0 : Heap}
theorem n_grow {H1 : Heap} {e0 : va_E} (hw : Wn D cA z n μ H) (z1 : H1.size = H.size + 1) (o1 : ∀ q, q < H.size → H1[q]? = H[q]?) (he : ce cA z μ n = e0) (hn : va_at D vwCl (z + n, e0) H1) : Wn D cA z (n + 1) μ H1 := by
  refine ⟨hw.1, fun a ha k => hw.2.1 a (by omega) k, by rw [z1, hw.2.2.1]; omega, ?_⟩
  rw [wn_succ]
  refine va_P.app (hw.2.2.2.kept (fun k x hx => o1 x.1 ((hw.2.2.2 k x hx).lt))) (fun k x hx => ?_)
  have hz : k < 1 := (List.getElem?_eq_some_iff.mp hx).1
  rw [show k = 0 by omega] at hx
  cases hx
  rw [he]
  exact hn
theorem n_S {H1 : Heap} (hS : va_S (Az z) H0 H locs) (z1 : H1.size = H.size + 1) (o1 : ∀ q, q < H.size → H1[q]? = H[q]?) : va_S (Az z) H0 H1 locs :=
  ⟨Nat.le_trans hS.1 (by omega), fun x h1 h2 => (o1 x (Nat.lt_of_lt_of_le h1 hS.1)).trans (hS.2.1 x h1 h2), hS.2.2⟩
theorem n_new (hexec : p.tables.exec = Jvm.exec) (hb : c.code = cc) {own C : String} {T : u_T} {N ci index : Nat} {Ts : List Cond} (hts : ∀ w ∈ Ts, w.before args s = true) (hin : ∀ w ∈ u_ws C T N, w ∈ Ts) (ty : Nat → FieldType) (hty : ∀ k, k < N → parseFieldDescriptor (T k).2.2.1 = some (ty k)) (hown : s.vm.findClass own = some m.cls) (hcl : (Cond.classLink own index C).before args s = true) (hinst : (Cond.instantiable C N).before args s = true) (hini : (Cond.initialized C).before args s = true)
    (hK : Wkc D cA s) (hw : Wn D cA z n μ H) (hS : va_S (Az z) H0 H locs) (hkn : kd n = ci) (hc : vwCl[ci]? = some (C, T, N)) (hs : decide (ci < 11 ∧ nf ci = N) = true) (hdf : ∀ j, j < N → defaultValue (ty j) = if isr ci j = true then .null else .int 0) (hcells : cells + 1 ≤ R.cells) (hslots : slots + N ≤ R.slots) (hdg : decode cc pc = .ok (.new index, 3))
    (kk : ∀ H1 : Heap, Wn D cA z (n + 1) μ H1 → va_S (Az z) H0 H1 locs → W p l e R s m args below meth c H1 locs (cells + 1) (slots + N) Q (F0 m (pc + 3) ls (.ref (z + n) :: rest))) : W p l e R s m args below meth c H locs cells slots Q (F0 m pc ls rest) := by
  obtain ⟨h1, h2⟩ := of_decide_eq_true hs
  have hKn := hK.1.1.1 ci _ hc
  refine W.newcK hexec hb hown hcl hinst hini rfl hdg hcells hslots hKn.2.1 hw.2.2.1 fun H1 kC hkC e1 z1 o1 => ?_
  rw [← hw.2.2.1] at o1
  refine kk H1 (n_grow hw (by rw [z1, hw.2.2.1]) o1 (ce_o hkn h1) ⟨_, hc, (u_born ty hts hin hKn hkC e1 hty).to (fun j hj => ?_)⟩) (n_S hS (by rw [z1, hw.2.2.1]) o1)
  have hf : (fvs ci z n μ)[j]? = some (if isr ci j = true then rv z (μ.2 n j) else .int (μ.1 n j)) := fvs_at (by rw [h2]; exact hj)
  obtain ⟨b1, b2⟩ := hw.2.1 n (Nat.le_refl n) j
  rw [b1, b2] at hf
  rw [hdf j hj]
  show _ = (fvs ci z n μ).getD j .null
  rw [List.getD_eq_getElem?_getD, hf]
  rfl
theorem n_newa (hexec : p.tables.exec = Jvm.exec) (hb : c.code = cc) {atype : ArrayType} (harr : (Cond.arrayClass (newarray.typeOf atype)).before args s = true) (hK : Wkc D cA s) (hw : Wn D cA z n μ H) (hS : va_S (Az z) H0 H locs) {i : Int32} {N : Nat} {ci : Nat} (hkn : kd n = ci) (hln : ln n = N) (hci : (atype = .int ∧ ci = 11) ∨ (atype = .boolean ∧ ci = 12)) (hi : ¬ i < 0) (hN : i.toNatClampNeg = N) (hsm : N ≤ 1000) (hcells : cells + 1 ≤ R.cells) (hslots : slots + N ≤ R.slots) (hdg : decode cc pc = .ok (.newarray atype, 2))
    (kk : ∀ H1 : Heap, Wn D cA z (n + 1) μ H1 → va_S (Az z) H0 H1 locs → W p l e R s m args below meth c H1 locs (cells + 1) (slots + N) Q (F0 m (pc + 2) ls (.ref (z + n) :: rest))) : W p l e R s m args below meth c H locs cells slots Q (F0 m pc ls (.int i :: rest)) := by
  have hb0 : N * componentBytes (newarray.typeOf atype) ≤ 536870912 := by
    rcases hci with ⟨rfl, -⟩ | ⟨rfl, -⟩
    · show N * 4 ≤ _; omega
    · show N * 1 ≤ _; omega
  have hrow : μ.1 n = fun _ => 0 := by
    funext j
    exact (hw.2.1 n (Nat.le_refl n) j).1
  refine va_newaK hexec hb harr rfl hdg rfl hi hN hb0 hcells hslots hw.2.2.1 fun H1 cA' e1 z1 o1 hAr hNm => ?_
  rw [← hw.2.2.1] at o1
  rcases hci with ⟨rfl, rfl⟩ | ⟨rfl, rfl⟩
  · have hq : cA' = cA 11 := Option.some.inj (hNm.symm.trans (hK.1.1.2 0 _ rfl).2)
    subst hq
    refine kk H1 (n_grow hw (by rw [z1, hw.2.2.1]) o1 (ce_i hkn (by omega) (by omega)) ?_) (n_S hS (by rw [z1, hw.2.2.1]) o1)
    show H1[z + n]? = some (vp_cell _ _)
    rw [vp_cell_i, e1, hrow, hln]
    rfl
  · have hq : cA' = cA 12 := Option.some.inj (hNm.symm.trans (hK.1.1.2 1 _ rfl).2)
    subst hq
    refine kk H1 (n_grow hw (by rw [z1, hw.2.2.1]) o1 (ce_i hkn (by omega) (by omega)) ?_) (n_S hS (by rw [z1, hw.2.2.1]) o1)
    show H1[z + n]? = some (vp_cell _ _)
    rw [vp_cell_i, e1, hrow, hln]
    rfl
theorem n_newq (hexec : p.tables.exec = Jvm.exec) (hb : c.code = cc) {own C : String} {index : Nat} (hown : s.vm.findClass own = some m.cls) (hclink : (Cond.classLink own index C).before args s = true) (hover : va_AO C s) (hK : Wkc D cA s) (hw : Wn D cA z n μ H) (hS : va_S (Az z) H0 H locs) {i : Int32} {N : Nat} {ci t0 : Nat} (hkn : kd n = ci) (hln : ln n = N) (hci : decide (ci = 13 ∨ ci = 14) = true) (ht : (tysW cA)[t0]? = some (cA ci, .object C)) (hi : ¬ i < 0) (hN : i.toNatClampNeg = N) (hsm : N ≤ 1000) (hcells : cells + 1 ≤ R.cells) (hslots : slots + N ≤ R.slots) (hdg : decode cc pc = .ok (.anewarray index, 3))
    (kk : ∀ H1 : Heap, Wn D cA z (n + 1) μ H1 → va_S (Az z) H0 H1 locs → W p l e R s m args below meth c H1 locs (cells + 1) (slots + N) Q (F0 m (pc + 3) ls (.ref (z + n) :: rest))) : W p l e R s m args below meth c H locs cells slots Q (F0 m pc ls (.int i :: rest)) := by
  have hci := of_decide_eq_true hci
  subst hN
  refine W.anew hexec hb hown hclink (va_AO.use hover) rfl hdg rfl hi (by omega) hcells hslots fun cA' kA comp f1 f2 f3 f4 => ?_
  generalize hH1 : H.push ({ cls := cA', slots := Array.replicate i.toNatClampNeg .null, vm := .none } : Cell) = H1
  have z1 : H1.size = H.size + 1 := by rw [← hH1, Array.size_push]
  have e1 : H1[H.size]? = some (arrV cA' i.toNatClampNeg (fun _ => .null)) := by rw [← hH1, Array.getElem?_push_size, ← arrV_new]
  have o1 : ∀ q : Nat, q < H.size → H1[q]? = H[q]? := fun q hq => by rw [← hH1, Array.getElem?_push, if_neg (Nat.ne_of_lt hq)]
  obtain ⟨kA2, comp2, -, -, -, g4⟩ := (hK.1.1.2 t0 _ ht).2
  have hq : cA' = cA ci := Option.some.inj (f1.symm.trans g4)
  subst hq
  have hrow : ∀ j, μ.2 n j = none := fun j => (hw.2.1 n (Nat.le_refl n) j).2
  rw [hw.2.2.1] at e1 ⊢
  refine kk H1 (n_grow hw z1 o1 (ce_r hkn (by omega) (by omega)) ?_) (n_S hS z1 o1)
  show H1[z + n]? = some (vp_cell _ _)
  rw [vp_cell_q, e1, hln]
  simp only [hrow]
  rfl
theorem n_put (hexec : p.tables.exec = Jvm.exec) (hb : c.code = cc) {own C : String} {T : u_T} {N ci index : Nat} {Ts : List Cond} (hts : ∀ w ∈ Ts, w.before args s = true) (hin : ∀ w ∈ u_ws C T N, w ∈ Ts) (ty0 : Nat → FieldType) (hty : ∀ k, k < N → parseFieldDescriptor (T k).2.2.1 = some (ty0 k)) (hnm : ∀ a, a < N → ∀ b, b < N → a ≠ b → (T a).2.1 ≠ (T b).2.1) (hown : s.vm.findClass own = some m.cls) (hK : Wkc D cA s) (hw : Wn D cA z n μ H) (hS : va_S (Az z) H0 H locs) {a : Nat} (han : a < n) (hka : kd a = ci) (hc : vwCl[ci]? = some (C, T, N)) (k : Nat) (h1 : ci < 11) (h2 : k < N) (h3 : nf ci = N) (hin2 : meth.name = "<init>") (hdecl : (T k).1 = own)
    (hlink : (Cond.fieldLink own index (T k).1 (T k).2.1 (T k).2.2.1).before args s = true) {v : Value} (hn : narrow (ty0 k) v = v) (hfit : fits (ty0 k) v = true) (hdg : decode cc pc = .ok (.putfield index, 3))
    (kk : ∀ (H1 : Heap) (locs1 : List Loc), H1.size = H.size → va_P D vwCl ((wn cA z n μ).set a (z + a, .inr (ci, (fvs ci z a μ).set k v))) H1 → va_S (Az z) H0 H1 locs1 → W p l e R s m args below meth c H1 locs1 cells slots Q (F0 m (pc + 3) ls rest)) : W p l e R s m args below meth c H locs cells slots Q (F0 m pc ls (v :: .ref (z + a) :: rest)) := by
  have he : (wn cA z n μ)[a]? = some (z + a, .inr (ci, fvs ci z a μ)) := (wn_at cA z n μ han).trans (by rw [ce_o hka h1])
  have hD := wn_D cA z n μ
  have hap := va_apart (own := own) hts hin ty0 hty hnm hK.1.1 hc
  obtain ⟨r, g1, cell, q1, q2, q3, q4⟩ := hw.2.2.2 a _ he
  have hr : r = (C, T, N) := Option.some.inj (g1.symm.trans hc)
  subst hr
  obtain ⟨hS1, hfc, kC, hkC, hkind⟩ := hK.1.1.1 ci _ hc
  obtain ⟨cf, kf, fi, f, hi, hsl⟩ := hS1 k h2
  have hlay := hts _ (hin _ (u_in_lay h2))
  have hst := (u_facts hfc hkC (u_lays hts hin h2) hi).1
  have hl : k < (fvs ci z a μ).length := by rw [fvs_len, h3]; exact h2
  unfold u_lay at hlay
  by_cases hf : (T k).2.2.2 = true
  · rw [if_pos hf] at hlay
    have hcf : m.cls = cf := by
      obtain ⟨_, _, c', _, _, _, -, -, hf', -, -, -, hown2, -⟩ := Cond.laysFinal_spec hlay
      have e1 : c' = cf := by have := hi.symm.trans hf'; simp at this; exact this.1.symm
      rw [hdecl] at hown2
      rw [← e1]; exact Option.some.inj (hown.symm.trans hown2)
    have h6 := u_fits hfc hkC hkind (Or.inr hlay) hi (hty k h2) hn hfit
    refine W.putFinK hexec hb hown hlink hi hst hcf hin2 (by rw [q2]; exact h6) q1 q3 (by rw [hsl]; exact k2_hasslot (q4 k h2)) rfl rfl hdg fun H' e1 e2 e3 => ?_
    rw [hsl] at e1 ⊢
    exact kk H' _ e2 (hw.2.2.2.set hD he ⟨_, hc, t_OB.to (V := updV (vp_V (fvs ci z a μ)) k v) ⟨_, e1, q2, q3, t_set q4 hap h2 v⟩ (fun j _ => vp_updV_set hl v j)⟩ e3) (hS.put e2 e3 (hD.2 a _ he))
  · rw [if_neg hf] at hlay
    have h6 := u_store hfc hkC hkind hlay hi (hty k h2) hn hfit
    refine W.putK hexec hb (f := f) ⟨hown, hlink, ⟨_, _, _, hi⟩, hst⟩ (by rw [q2]; exact h6) q1 q3 (by rw [hsl]; exact k2_hasslot (q4 k h2)) rfl rfl hdg fun H' e1 e2 e3 => ?_
    rw [hsl] at e1 ⊢
    exact kk H' _ e2 (hw.2.2.2.set hD he ⟨_, hc, t_OB.to (V := updV (vp_V (fvs ci z a μ)) k v) ⟨_, e1, q2, q3, t_set q4 hap h2 v⟩ (fun j _ => vp_updV_set hl v j)⟩ e3) (hS.put e2 e3 (hD.2 a _ he))
theorem n_putr (hexec : p.tables.exec = Jvm.exec) (hb : c.code = cc) {own C : String} {T : u_T} {N ci index : Nat} {Ts : List Cond} (hts : ∀ w ∈ Ts, w.before args s = true) (hin : ∀ w ∈ u_ws C T N, w ∈ Ts) (ty0 : Nat → FieldType) (hty : ∀ k, k < N → parseFieldDescriptor (T k).2.2.1 = some (ty0 k)) (hnm : ∀ a, a < N → ∀ b, b < N → a ≠ b → (T a).2.1 ≠ (T b).2.1) (hown : s.vm.findClass own = some m.cls) (hK : Wkc D cA s) (hw : Wn D cA z n μ H) (hS : va_S (Az z) H0 H locs) {a : Nat} (han : a < n) (hka : kd a = ci) (hc : vwCl[ci]? = some (C, T, N)) (k : Nat) (hs : decide (ci < 11 ∧ k < N ∧ nf ci = N ∧ isr ci k = true) = true) (hin2 : meth.name = "<init>") (hdecl : (T k).1 = own)
    (hlink : (Cond.fieldLink own index (T k).1 (T k).2.1 (T k).2.2.1).before args s = true) {b : Nat} (hkb : kd b = tg ci k) (hn : narrow (ty0 k) (.ref (z + b)) = .ref (z + b)) (hfit : fits (ty0 k) (.ref (z + b)) = true) (hdg : decode cc pc = .ok (.putfield index, 3))
    (kk : ∀ (H1 : Heap) (locs1 : List Loc), Wn D cA z n (μ.1, up2 μ.2 a k (some b)) H1 → va_S (Az z) H0 H1 locs1 → W p l e R s m args below meth c H1 locs1 cells slots Q (F0 m (pc + 3) ls rest)) : W p l e R s m args below meth c H locs cells slots Q (F0 m pc ls (.ref (z + b) :: .ref (z + a) :: rest)) := by
  obtain ⟨h1, h2, h3, h4⟩ := of_decide_eq_true hs
  have he : ce cA z (μ.1, up2 μ.2 a k (some b)) a = .inr (ci, (fvs ci z a μ).set k (.ref (z + b))) := by
    rw [ce_o hka h1, fvs_setr h4]
    rfl
  refine n_put hexec hb hts hin ty0 hty hnm hown hK hw hS han hka hc k h1 h2 h3 hin2 hdecl hlink hn hfit hdg (fun H1 locs1 hz hP hS1 => ?_)
  rw [wn_set (μ := μ) han he (fun b hb => ce_cong rfl (up2_ne hb))] at hP
  exact kk H1 locs1 ⟨WT_r hw.1 (by rw [hka]; exact hkb), Bl_r hw.2.1 han, hz.trans hw.2.2.1, hP⟩ hS1
theorem n_puti (hexec : p.tables.exec = Jvm.exec) (hb : c.code = cc) {own C : String} {T : u_T} {N ci index : Nat} {Ts : List Cond} (hts : ∀ w ∈ Ts, w.before args s = true) (hin : ∀ w ∈ u_ws C T N, w ∈ Ts) (ty0 : Nat → FieldType) (hty : ∀ k, k < N → parseFieldDescriptor (T k).2.2.1 = some (ty0 k)) (hnm : ∀ a, a < N → ∀ b, b < N → a ≠ b → (T a).2.1 ≠ (T b).2.1) (hown : s.vm.findClass own = some m.cls) (hK : Wkc D cA s) (hw : Wn D cA z n μ H) (hS : va_S (Az z) H0 H locs) {a : Nat} (han : a < n) (hka : kd a = ci) (hc : vwCl[ci]? = some (C, T, N)) (k : Nat) (hs : decide (ci < 11 ∧ k < N ∧ nf ci = N ∧ isr ci k = false) = true) (hin2 : meth.name = "<init>") (hdecl : (T k).1 = own)
    (hlink : (Cond.fieldLink own index (T k).1 (T k).2.1 (T k).2.2.1).before args s = true) {v : Int32} (hn : narrow (ty0 k) (.int v) = .int v) (hfit : fits (ty0 k) (.int v) = true) (hdg : decode cc pc = .ok (.putfield index, 3))
    (kk : ∀ (H1 : Heap) (locs1 : List Loc), Wn D cA z n (up2 μ.1 a k v, μ.2) H1 → va_S (Az z) H0 H1 locs1 → W p l e R s m args below meth c H1 locs1 cells slots Q (F0 m (pc + 3) ls rest)) : W p l e R s m args below meth c H locs cells slots Q (F0 m pc ls (.int v :: .ref (z + a) :: rest)) := by
  obtain ⟨h1, h2, h3, h4⟩ := of_decide_eq_true hs
  have he : ce cA z (up2 μ.1 a k v, μ.2) a = .inr (ci, (fvs ci z a μ).set k (.int v)) := by
    rw [ce_o hka h1, fvs_seti h4]
  refine n_put hexec hb hts hin ty0 hty hnm hown hK hw hS han hka hc k h1 h2 h3 hin2 hdecl hlink hn hfit hdg (fun H1 locs1 hz hP hS1 => ?_)
  rw [wn_set (μ := μ) han he (fun b hb => ce_cong (up2_ne hb) rfl)] at hP
  exact kk H1 locs1 ⟨hw.1, Bl_i hw.2.1 han, hz.trans hw.2.2.1, hP⟩ hS1
theorem n_getr (hexec : p.tables.exec = Jvm.exec) (hb : c.code = cc) {own C : String} {T : u_T} {N ci index : Nat} {Ts : List Cond} (hts : ∀ w ∈ Ts, w.before args s = true) (hin : ∀ w ∈ u_ws C T N, w ∈ Ts) (hown : s.vm.findClass own = some m.cls) (hK : Wkc D cA s) (hw : Wn D cA z n μ H) {a b : Nat} (han : a < n) (hka : kd a = ci) {k0 : Nat} (hab : μ.2 a k0 = some b) (hc : vwCl[ci]? = some (C, T, N)) (hs : decide (ci < 11 ∧ k0 < N ∧ nf ci = N ∧ isr ci k0 = true) = true)
    (hlink : (Cond.fieldLink own index (T k0).1 (T k0).2.1 (T k0).2.2.1).before args s = true) (hdg : decode cc pc = .ok (.getfield index, 3))
    (kk : W p l e R s m args below meth c H locs cells slots Q (F0 m (pc + 3) ls (.ref (z + b) :: rest))) : W p l e R s m args below meth c H locs cells slots Q (F0 m pc ls (.ref (z + a) :: rest)) := by
  obtain ⟨h1, h2, h3, h4⟩ := of_decide_eq_true hs
  refine va_get hexec hb hts hin hown hK.1.1 hw.2.2.2 a ((wn_at cA z n μ han).trans (by rw [ce_o hka h1])) hc k0 h2 hlink (fun _ h => h) (v := .ref (z + b)) ?_ hdg kk
  rw [fvs_at (by rw [h3]; exact h2), h4, hab]
  rfl
theorem n_alen (hexec : p.tables.exec = Jvm.exec) (hb : c.code = cc) (hK : Wkc D cA s) (hw : Wn D cA z n μ H) {a ci : Nat} (han : a < n) (hka : kd a = ci) (hs : decide (ci = 13 ∨ ci = 14) = true) {v : Int32} (hv : Int32.ofNat (ln a) = v) (hdg : decode cc pc = .ok (.arraylength, 1))
    (kk : W p l e R s m args below meth c H locs cells slots Q (F0 m (pc + 1) ls (.int v :: rest))) : W p l e R s m args below meth c H locs cells slots Q (F0 m pc ls (.ref (z + a) :: rest)) := by
  have hci := of_decide_eq_true hs
  rcases hci with rfl | rfl
  · exact va_alen hexec hb hK.1.1 hw.2.2.2 a 2 ((wn_at cA z n μ han).trans (by rw [ce_r hka (by omega) (by omega)])) (ty := .object "LevelVotes$Ballot") rfl hv hdg kk
  · exact va_alen hexec hb hK.1.1 hw.2.2.2 a 3 ((wn_at cA z n μ han).trans (by rw [ce_r hka (by omega) (by omega)])) (ty := .object "LevelVotes$Image") rfl hv hdg kk
theorem n_aast (hexec : p.tables.exec = Jvm.exec) (hb : c.code = cc) (hK : Wkc D cA s) (hw : Wn D cA z n μ H) (hS : va_S (Az z) H0 H locs) {a ca ci t0 b : Nat} {r : vw_C} (han : a < n) (hbn : b < n) (hka : kd a = ca) (hca : decide (ca = 13 ∨ ca = 14) = true) (ht : (tysW cA)[t0]? = some (cA ca, .object r.1)) (hkb : kd b = ci) (hci : decide (ci < 11) = true) (hc : vwCl[ci]? = some r) {i : Int32} {j : Nat} (hj : i.toNatClampNeg = j) (hi : vp_in i (ln a)) (htg : kd b = tg ca j) (hdg : decode cc pc = .ok (.aastore, 1))
    (kk : ∀ (H1 : Heap) (locs1 : List Loc), Wn D cA z n (μ.1, up2 μ.2 a j (some b)) H1 → va_S (Az z) H0 H1 locs1 → W p l e R s m args below meth c H1 locs1 cells slots Q (F0 m (pc + 1) ls rest)) : W p l e R s m args below meth c H locs cells slots Q (F0 m pc ls (.ref (z + b) :: .int i :: .ref (z + a) :: rest)) := by
  have hca := of_decide_eq_true hca
  have hci := of_decide_eq_true hci
  subst hj
  have hlt : i.toNatClampNeg < ln a := Nat.not_le.mp fun q => hi (Or.inr q)
  have h0 : ¬ i < 0 := fun q => hi (Or.inl q)
  have ha : (wn cA z n μ)[a]? = some (z + a, .inl (cA ca, ln a, .inr (.inr (.inr (.inr (fun j => (μ.2 a j).map (fun q => z + q))))))) := (wn_at cA z n μ han).trans (by rw [ce_r hka (by omega) (by omega)])
  have hv : (wn cA z n μ)[b]? = some (z + b, .inr (ci, fvs ci z b μ)) := (wn_at cA z n μ hbn).trans (by rw [ce_o hkb hci])
  have hD := wn_D cA z n μ
  obtain ⟨r', hr', cellV, g1, g2, g3, -⟩ := hw.2.2.2 b _ hv
  have hcls := (hK.1.1.1 ci r hc).2
  obtain ⟨kA, comp, k1, k2, k3, -⟩ := (hK.1.1.2 t0 _ ht).2
  have hcomp : comp = D.1 ci := Option.some.inj (k3.symm.trans hcls.1)
  subst hcomp
  obtain ⟨kC, hkC, -⟩ := hcls.2
  refine W.aast hexec hb (hw.2.2.2 a _ ha) (fun q h => by cases h) (fun h => by cases h) k1 k2 rfl hkC ⟨h0, by show _ < (arrV _ _ _).slots.size; rw [arrV_size]; exact hlt⟩ g1 (fun q h => by rw [g3] at h; cases h) (by rw [g2]; exact hkC) (by rw [g2]; exact va_assign hcls) rfl rfl hdg fun H1 e zz oq => ?_
  refine kk H1 _ ⟨WT_r hw.1 (by rw [hka]; exact htg), Bl_r hw.2.1 han, zz.trans hw.2.2.1, ?_⟩ (hS.put zz oq (hD.2 a _ ha))
  rw [← wn_set (μ := μ) (e := ce cA z (μ.1, up2 μ.2 a i.toNatClampNeg (some b)) a) han rfl (fun b hb => ce_cong rfl (up2_ne hb))]
  refine hw.2.2.2.set hD ha ?_ oq
  rw [ce_r hka (by omega) (by omega)]
  show H1[z + a]? = some (vp_cell _ _)
  rw [e]
  rw [vp_cell_q, vp_cell_q, arrV_store]
  congr 2
  funext q
  by_cases hq : q = i.toNatClampNeg
  · subst hq
    simp [updV, up2, va_rf]
  · simp [updV, up2, hq]
theorem n_iast (hexec : p.tables.exec = Jvm.exec) (hb : c.code = cc) (hK : Wkc D cA s) (hw : Wn D cA z n μ H) (hS : va_S (Az z) H0 H locs) {a : Nat} (han : a < n) (hka : kd a = 11) {i x : Int32} {j : Nat} (hj : i.toNatClampNeg = j) (hi : vp_in i (ln a)) (hdg : decode cc pc = .ok (.iastore, 1))
    (kk : ∀ (H1 : Heap) (locs1 : List Loc), Wn D cA z n (up2 μ.1 a j x, μ.2) H1 → va_S (Az z) H0 H1 locs1 → W p l e R s m args below meth c H1 locs1 cells slots Q (F0 m (pc + 1) ls rest)) : W p l e R s m args below meth c H locs cells slots Q (F0 m pc ls (.int x :: .int i :: .ref (z + a) :: rest)) := by
  subst hj
  have ha : (wn cA z n μ)[a]? = some (z + a, .inl (cA 11, ln a, .inl (μ.1 a))) := (wn_at cA z n μ han).trans (by rw [ce_i hka (by omega) (by omega)])
  have hD := wn_D cA z n μ
  refine W.iast hexec hb (hw.2.2.2 a _ ha) ((hK.1.1.2 0 _ rfl).1 (ln a) (fun j => .int (μ.1 a j))) (fun q => by cases q) (by show ¬ (i < 0 ∨ (arrV _ _ _).slots.size ≤ _); rw [arrV_size]; exact hi) rfl rfl hdg fun H1 e zz oq => ?_
  refine kk H1 _ ⟨hw.1, Bl_i hw.2.1 han, zz.trans hw.2.2.1, ?_⟩ (hS.put zz oq (hD.2 a _ ha))
  rw [← wn_set (μ := μ) (e := ce cA z (up2 μ.1 a i.toNatClampNeg x, μ.2) a) han rfl (fun b hb => ce_cong (up2_ne hb) rfl)]
  refine hw.2.2.2.set hD ha ?_ oq
  rw [ce_i hka (by omega) (by omega)]
  show H1[z + a]? = some (vp_cell _ _)
  rw [e]
  rw [vp_cell_i, vp_cell_i, arrV_store]
  congr 2
  funext q
  by_cases hq : q = i.toNatClampNeg
  · subst hq
    simp [updV, up2]
  · simp [updV, up2, hq]
/-- a constructor's contract -/
def Cn (l : Launch) (D : va_G) (cA : Nat → ClassId) (z : Nat) (y : MethodName) (ws : List Cond) (fr lo mc ms : Nat) (a n n' : Nat) (μ μ' : Mm) : Prop :=
  Met l y ws { frames := fr, cells := mc, slots := ms, locals := lo } (va_Pc [.ref (z + a)] (fun U => Wn D cA z n μ U.heap ∧ Wkc D cA U)) (fun _ st oc t => oc = .returned none ∧ Wn D cA z n' μ' t.heap ∧ va_F (Az z) st t) mc ms (Az z)
theorem n_ret {n' mc ms : Nat} (hexec : p.tables.exec = Jvm.exec) (hb : c.code = cc) (hr : meth.sig.returnType = none) (hlk : meth.locks = false) (hw : Wn D cA z n' μ H) (hS : va_S (Az z) s.heap H locs) (hc : cells = mc) (hsl : slots = ms) (hdg : decode cc pc = .ok (.return_, 1)) : W p l e R s m args below meth c H locs cells slots (MQ below (fun _ st oc t => oc = .returned none ∧ Wn D cA z n' μ t.heap ∧ va_F (Az z) st t) args s mc ms (Az z)) (F0 m pc ls []) := by
  subst hc
  subst hsl
  exact W.vret hexec hb hr (fun t ht _ => ⟨rfl, by rw [ht]; exact hw, hS.F ht⟩) hS.2.2 hdg hlk
theorem n_in {y : MethodName} {ws ws' : List Cond} {fr lo mc ms a n' : Nat} {cc : ByteArray} {maxL : Nat} {own : String}
    (hy : plainName y.cls = true) (hw : ws = Cond.code y cc maxL none :: ws') (hyo : y.cls = own) (hnm : y.name = "<init>") (hlen : (lg_sl [Value.ref (z + a)]).length ≤ maxL)
    (body : ∀ (p : Program) (e : Env) (s : State) (m : MethodId) (below : List Frame) (meth : Method) (c : Code) (ls : Array Slot), p.tables.exec = Jvm.exec → c.code = cc → meth.sig.returnType = none → meth.locks = false → c.maxLocals = maxL → s.vm.findClass own = some m.cls → (∀ w ∈ ws, w.before [Value.ref (z + a)].toArray s = true) → Wkc D cA s → meth.name = "<init>" → Wn D cA z n μ s.heap → va_S (Az z) s.heap s.heap [] → lv_has ls maxL [(0, .ref (z + a))] →
      W p l e (headSpec ws { frames := fr, cells := mc, slots := ms, locals := lo }).room s m [Value.ref (z + a)].toArray below meth c s.heap [] 0 0 (MQ below (fun _ st oc t => oc = .returned none ∧ Wn D cA z n' μ' t.heap ∧ va_F (Az z) st t) [Value.ref (z + a)].toArray s mc ms (Az z)) (F0 m 0 ls [])) : Cn l D cA z y ws fr lo mc ms a n n' μ μ' := by
  refine Met.ofW (cc := cc) (maxL := maxL) (ret := none) hy hw ?_
  intro p e s m args below meth c s₁ B hml hv
  obtain ⟨rfl, hd, hk⟩ := hv
  have hl := lv_entry [Value.ref (z + a)] (n := maxL) hlen
  rw [lg_entry_eq]
  exact body p e s m below meth c _ B.exec B.bytes B.returns B.notSynchronized hml (hyo ▸ findClass_of_methodNamed B.named) (atoms_spec (ws := ws) B.pre) hk ((name_of_methodNamed B.named B.method).1.trans hnm) hd va_S.rf hl
theorem n_go {mc ms a n n' : Nat} {y : MethodName} {bytes : ByteArray} {maxL nL index fr lo : Nat} {ws : List Cond} {Ts : List Cond} {own host : String} {st0 : List Value}
    (S : CallFix p m c cc nL s args Ts own) (hK : Wkc D cA s) (hw : Wn D cA z n μ H) (hS : va_S (Az z) H0 H locs) (hM : Cn l D cA z y ws fr lo mc ms a n n' μ μ') (cw : va_CN R s args own index y host bytes maxL none ws { frames := fr, cells := mc, slots := ms, locals := lo } mc ms 0 ∧ y.name = "<init>" ∧ (Cond.instanceMethod y).before args s = true)
    (hsize : ls.size = nL) (hst : st0 = .ref (z + a) :: rest) (hW : (rest.map fun v => v.category).sum ≤ 8) (hdg : decode cc pc = .ok (.invokespecial index, 3)) (hf : cells + mc ≤ R.cells ∧ slots + ms ≤ R.slots)
    (kk : ∀ (H1 : Heap) (locs1 : List Loc), Wn D cA z n' μ' H1 → va_S (Az z) H0 H1 locs1 → W p l e R s m args below meth c H1 locs1 (cells + mc) (slots + ms) Q (F0 m (pc + 3) ls rest)) : W p l e R s m args below meth c H locs cells slots Q (F0 m pc ls st0) := by
  have hr := va_runIN (b := z + a) (As := []) (rest := rest) (g := F0 m pc ls st0) (H := H) (locs := locs) (cells := cells) (slots := slots) (e := e) (below := below) (meth := meth) S hM cw ⟨fun a U g mk q => ⟨q.1, q.2.1, q.2.2.call⟩, fun U hU hWm => ⟨rfl, by rw [hU]; exact hw, hK.warm hWm⟩⟩ rfl rfl hsize hst (lv_room hW) hdg hf
  intro T hT X
  obtain ⟨v', st₀, t, T', L, h0, X', hL, e1, e2, ⟨hv, hw1, hz, hk⟩, st⟩ := hr T hT X
  have hv' : v' = none := by simpa using hv
  subst hv'
  rw [h0] at hz hk
  obtain ⟨t2, a1, b1⟩ := kk T'.heap (locs ++ L) (by rw [e1]; exact hw1)
    ⟨Nat.le_trans hS.1 (by rw [e1]; exact hz), fun q h1 h2 => by rw [e1, hk q (Nat.lt_of_lt_of_le h1 hS.1) h2]; exact hS.2.1 q h1 h2, fun q hq => by
      rcases List.mem_append.mp hq with h | h
      · exact hS.2.2 q h
      · exact hL q h⟩ T' rfl X'
  exact ⟨t2, st t2 a1, b1⟩
/-- the same, where the constructor isn't a nest mate's -/
theorem n_goI {mc ms a n n' : Nat} {y : MethodName} {bytes : ByteArray} {maxL nL index fr lo : Nat} {ws : List Cond} {Ts : List Cond} {own : String} {st0 : List Value}
    (S : CallFix p m c cc nL s args Ts own) (hK : Wkc D cA s) (hw : Wn D cA z n μ H) (hS : va_S (Az z) H0 H locs) (hM : Cn l D cA z y ws fr lo mc ms a n n' μ μ') (cw : CallB R s args own index y bytes maxL none ws { frames := fr, cells := mc, slots := ms, locals := lo } mc ms 0 ∧ y.name = "<init>" ∧ (Cond.instanceMethod y).before args s = true)
    (hsize : ls.size = nL) (hst : st0 = .ref (z + a) :: rest) (hW : (rest.map fun v => v.category).sum ≤ 8) (hdg : decode cc pc = .ok (.invokespecial index, 3)) (hf : cells + mc ≤ R.cells ∧ slots + ms ≤ R.slots)
    (kk : ∀ (H1 : Heap) (locs1 : List Loc), Wn D cA z n' μ' H1 → va_S (Az z) H0 H1 locs1 → W p l e R s m args below meth c H1 locs1 (cells + mc) (slots + ms) Q (F0 m (pc + 3) ls rest)) : W p l e R s m args below meth c H locs cells slots Q (F0 m pc ls st0) := by
  have hr := va_runI (b := z + a) (As := []) (rest := rest) (g := F0 m pc ls st0) (H := H) (locs := locs) (cells := cells) (slots := slots) (e := e) (below := below) (meth := meth) S hM cw ⟨fun a U g mk q => ⟨q.1, q.2.1, q.2.2.call⟩, fun U hU hWm => ⟨rfl, by rw [hU]; exact hw, hK.warm hWm⟩⟩ rfl rfl hsize hst (lv_room hW) hdg hf
  intro T hT X
  obtain ⟨v', st₀, t, T', L, h0, X', hL, e1, e2, ⟨hv, hw1, hz, hk⟩, st⟩ := hr T hT X
  have hv' : v' = none := by simpa using hv
  subst hv'
  rw [h0] at hz hk
  obtain ⟨t2, a1, b1⟩ := kk T'.heap (locs ++ L) (by rw [e1]; exact hw1)
    ⟨Nat.le_trans hS.1 (by rw [e1]; exact hz), fun q h1 h2 => by rw [e1, hk q (Nat.lt_of_lt_of_le h1 hS.1) h2]; exact hS.2.1 q h1 h2, fun q hq => by
      rcases List.mem_append.mp hq with h | h
      · exact hS.2.2 q h
      · exact hL q h⟩ T' rfl X'
  exact ⟨t2, st t2 a1, b1⟩
end RN
