abbrev Mm : Type := (Nat → Nat → Int32) × (Nat → Nat → Option Nat)
def kdL : List Nat := [9, 7, 11, 4, 11, 11, 11, 11, 0, 11, 11, 4, 11, 11, 11, 11, 0, 11, 11, 0, 11, 11, 3, 13, 0, 11, 11, 0, 11, 11, 0, 11, 11, 0, 11, 11, 0, 11, 11, 0, 11, 11, 0, 11, 11, 0, 11, 11, 0, 11, 11, 0, 11, 11, 0, 11, 11, 0, 11, 11, 0, 11, 11, 0, 11, 11, 0, 11, 11, 0, 11, 11, 0, 11, 11, 0, 11, 11, 0, 11, 11, 0, 11, 11, 14, 1, 6, 11, 11, 11, 11, 8, 11, 2, 11, 11, 11, 11, 11, 5, 0, 11, 11, 5, 0, 11, 11, 10, 11, 11, 11, 11, 11, 11, 11, 11, 11, 11, 11, 11, 11, 11, 11, 11, 11, 11, 11, 11, 11, 11, 12]
def lnL : List Nat := [0, 0, 240, 0, 20, 5, 5, 5, 0, 5, 5, 0, 20, 5, 5, 5, 0, 5, 5, 0, 5, 5, 0, 20, 0, 5, 5, 0, 5, 5, 0, 5, 5, 0, 5, 5, 0, 5, 5, 0, 5, 5, 0, 5, 5, 0, 5, 5, 0, 5, 5, 0, 5, 5, 0, 5, 5, 0, 5, 5, 0, 5, 5, 0, 5, 5, 0, 5, 5, 0, 5, 5, 0, 5, 5, 0, 5, 5, 0, 5, 5, 0, 5, 5, 2, 0, 0, 6, 6, 15, 15, 0, 5, 0, 20, 20, 20, 15, 400, 0, 0, 5, 5, 0, 0, 5, 5, 0, 20, 5, 5, 5, 37, 240, 2, 20, 5, 5, 5, 35, 5, 20, 740, 15, 6, 6, 400, 15, 15, 76, 2]
def nfL : List Nat := [4, 1, 5, 3, 11, 3, 6, 6, 2, 13, 39]
def isrL : List (List Bool) := [[true, true, false, false], [false], [true, true, true, false, false], [true, false, false], [false, false, false, false, false, false, true, true, true, true, true], [true, false, false], [true, true, true, true, false, false], [true, false, false, false, false, false], [true, false], [true, true, true, false, true, true, true, true, true, true, true, true, true], [false, false, true, false, true, true, true, false, true, false, true, false, false, false, false, false, true, true, false, false, true, true, true, false, true, true, true, false, true, true, false, true, true, true, false, true, true, true, true]]
def tgL : List (List Nat) := [[11, 11, 0, 0], [0], [11, 11, 11, 0, 0], [13, 0, 0], [0, 0, 0, 0, 0, 0, 11, 11, 11, 11, 0], [0, 0, 0], [11, 11, 11, 11, 0, 0], [11, 0, 0, 0, 0, 0], [11, 0], [7, 4, 4, 0, 0, 3, 14, 1, 6, 8, 2, 11, 11], [0, 0, 11, 0, 11, 11, 11, 0, 11, 0, 11, 0, 0, 0, 0, 0, 11, 11, 0, 0, 11, 11, 11, 0, 11, 11, 11, 0, 11, 11, 0, 11, 11, 11, 0, 11, 11, 11, 12]]
def rfL : List (List (Option Nat)) := [[some 1, some 3, some 11, none, some 19, some 22, some 84, some 85, some 86, some 91, some 93, some 97, some 98], [some 2], [], [none, none, none, none, none, none, some 4, some 5, some 6, some 7, some 8], [], [], [], [], [some 9, some 10], [], [], [none, none, none, none, none, none, some 12, some 13, some 14, some 15, some 16], [], [], [], [], [some 17, some 18], [], [], [some 20, some 21], [], [], [some 23], [some 24, some 27, some 30, some 33, some 36, some 39, some 42, some 45, some 48, some 51, some 54, some 57, some 60, some 63, some 66, some 69, some 72, some 75, some 78, some 81], [some 25, some 26], [], [], [some 28, some 29], [], [], [some 31, some 32], [], [], [some 34, some 35], [], [], [some 37, some 38], [], [], [some 40, some 41], [], [], [some 43, some 44], [], [], [some 46, some 47], [], [], [some 49, some 50], [], [], [some 52, some 53], [], [], [some 55, some 56], [], [], [some 58, some 59], [], [], [some 61, some 62], [], [], [some 64, some 65], [], [], [some 67, some 68], [], [], [some 70, some 71], [], [], [some 73, some 74], [], [], [some 76, some 77], [], [], [some 79, some 80], [], [], [some 82, some 83], [], [], [some 99, some 103], [], [some 87, some 88, some 89, some 90], [], [], [], [], [some 92], [], [some 94, some 95, some 96], [], [], [], [], [], [some 100], [some 101, some 102], [], [], [some 104], [some 105, some 106], [], [], [none, none, some 108, none, some 109, some 110, some 111, none, some 112, none, some 113, none, none, none, none, none, some 114, some 115, none, none, some 116, some 117, some 118, none, some 119, some 120, some 121, none, some 122, some 123, none, some 124, some 125, some 126, none, some 127, some 128, some 129, some 130], [], [], [], [], [], [], [], [], [], [], [], [], [], [], [], [], [], [], [], [], [], [], []]
def kd (a : Nat) : Nat := kdL.getD a 99
def ln (a : Nat) : Nat := lnL.getD a 0
def nf (c : Nat) : Nat := nfL.getD c 0
def isr (c k : Nat) : Bool := (isrL.getD c []).getD k false
/-- the kind of what a reference field, or a row of references, points to -/
def tg (c k : Nat) : Nat := if c = 13 then 0 else if c = 14 then 5 else (tgL.getD c []).getD k 0
def rv (z : Nat) (o : Option Nat) : Value := va_rf (o.map (fun q => z + q))
def fvs (c z a : Nat) (μ : Mm) : List Value := (List.range (nf c)).map (fun k => if isr c k = true then rv z (μ.2 a k) else .int (μ.1 a k))
def ce (cA : Nat → ClassId) (z : Nat) (μ : Mm) (a : Nat) : va_E :=
  if kd a < 11 then .inr (kd a, fvs (kd a) z a μ)
  else if kd a < 13 then .inl (cA (kd a), ln a, .inl (μ.1 a))
  else .inl (cA (kd a), ln a, .inr (.inr (.inr (.inr (fun j => (μ.2 a j).map (fun q => z + q))))))
def wl (cA : Nat → ClassId) (z : Nat) (μ : Mm) : va_W := (List.range 131).map (fun a => (z + a, ce cA z μ a))
def Az (z : Nat) : Nat → Prop := fun q => z ≤ q
def WT (rf : Nat → Nat → Option Nat) : Prop := ∀ a k b, rf a k = some b → kd b = tg (kd a) k
def up2 {α : Type} (f : Nat → Nat → α) (a k : Nat) (v : α) : Nat → Nat → α := fun b j => if b = a ∧ j = k then v else f b j
def tysW (cA : Nat → ClassId) : List (ClassId × FieldType) := [(cA 11, .int), (cA 12, .boolean), (cA 13, .object "LevelVotes$Ballot"), (cA 14, .object "LevelVotes$Image")]
def Wd (D : va_G) (cA : Nat → ClassId) (z : Nat) (μ : Mm) (H : Heap) : Prop := WT μ.2 ∧ va_P D vwCl (wl cA z μ) H
def Wk (D : va_G) (cA : Nat → ClassId) (U : State) : Prop := va_K D vwCl (tysW cA) U ∧ va_Nw (.methodLinkNest RX0 46 yX9_standBy "LevelVotes") U
theorem kd_lt {a c : Nat} (h : kd a = c) (hc : c < 99) : a < 131 := by
  rcases Nat.lt_or_ge a 131 with q | q
  · exact q
  · have hl : kdL.length = 131 := rfl
    have h2 : kd a = 99 := by simp [kd, List.getD, List.getElem?_eq_none (show kdL.length ≤ a by omega)]
    omega
theorem wl_at (cA : Nat → ClassId) (z : Nat) (μ : Mm) {a : Nat} (h : a < 131) : (wl cA z μ)[a]? = some (z + a, ce cA z μ a) := by
  unfold wl
  rw [List.getElem?_map, List.getElem?_range h]
  rfl
theorem wl_no (cA : Nat → ClassId) (z : Nat) (μ : Mm) {a : Nat} (h : ¬ a < 131) : (wl cA z μ)[a]? = none := by
  unfold wl
  rw [List.getElem?_eq_none]
  rw [List.length_map, List.length_range]
  omega
theorem wl_len (cA : Nat → ClassId) (z : Nat) (μ : Mm) : (wl cA z μ).length = 131 := by
  unfold wl
  rw [List.length_map, List.length_range]
theorem wl_inv {cA : Nat → ClassId} {z : Nat} {μ : Mm} {i : Nat} {q : Nat × va_E} (h : (wl cA z μ)[i]? = some q) : i < 131 ∧ q = (z + i, ce cA z μ i) := by
  rcases Nat.lt_or_ge i 131 with hi | hi
  · rw [wl_at cA z μ hi] at h
    exact ⟨hi, (Option.some.inj h).symm⟩
  · rw [wl_no cA z μ (by omega)] at h
    cases h
theorem wl_D (cA : Nat → ClassId) (z : Nat) (μ : Mm) : va_D (Az z) (wl cA z μ) := by
  refine ⟨fun i j p q hi hj h => ?_, fun k q hk => ?_⟩
  · obtain ⟨-, rfl⟩ := wl_inv hi
    obtain ⟨-, rfl⟩ := wl_inv hj
    have h2 : z + i = z + j := h
    omega
  · obtain ⟨-, rfl⟩ := wl_inv hk
    exact Nat.le_add_right z k
theorem wl_set {cA : Nat → ClassId} {z : Nat} {μ μ' : Mm} {a : Nat} {e : va_E} (h : a < 131) (he : ce cA z μ' a = e) (ho : ∀ b, b ≠ a → ce cA z μ' b = ce cA z μ b) : (wl cA z μ).set a (z + a, e) = wl cA z μ' := by
  apply List.ext_getElem?
  intro i
  rw [List.getElem?_set, wl_len]
  by_cases hi : i < 131
  · rw [wl_at cA z μ hi, wl_at cA z μ' hi]
    by_cases hia : a = i
    · subst hia
      rw [if_pos rfl, if_pos h, he]
    · rw [if_neg hia, ho i (fun q => hia q.symm)]
  · rw [wl_no cA z μ hi, wl_no cA z μ' hi, if_neg (by omega)]
theorem ce_cong {cA : Nat → ClassId} {z : Nat} {μ μ' : Mm} {b : Nat} (h1 : μ'.1 b = μ.1 b) (h2 : μ'.2 b = μ.2 b) : ce cA z μ' b = ce cA z μ b := by
  unfold ce fvs
  rw [h1, h2]
theorem up2_ne {α : Type} {f : Nat → Nat → α} {a k b : Nat} {v : α} (h : b ≠ a) : up2 f a k v b = f b := by
  funext j
  simp [up2, h]
theorem up2_row (f : Nat → Nat → Int32) (a k : Nat) (v : Int32) : up2 f a k v a = upd (f a) k v := by
  funext j
  by_cases h : j = k <;> simp [up2, upd, h]
theorem ce_o {cA : Nat → ClassId} {z : Nat} {μ : Mm} {a c : Nat} (hk : kd a = c) (hc : c < 11) : ce cA z μ a = .inr (c, fvs c z a μ) := by
  subst hk
  unfold ce
  rw [if_pos hc]
theorem ce_i {cA : Nat → ClassId} {z : Nat} {μ : Mm} {a c : Nat} (hk : kd a = c) (h1 : ¬ c < 11) (h2 : c < 13) : ce cA z μ a = .inl (cA c, ln a, .inl (μ.1 a)) := by
  subst hk
  unfold ce
  rw [if_neg h1, if_pos h2]
theorem ce_r {cA : Nat → ClassId} {z : Nat} {μ : Mm} {a c : Nat} (hk : kd a = c) (h1 : ¬ c < 11) (h2 : ¬ c < 13) : ce cA z μ a = .inl (cA c, ln a, .inr (.inr (.inr (.inr (fun j => (μ.2 a j).map (fun q => z + q)))))) := by
  subst hk
  unfold ce
  rw [if_neg h1, if_neg h2]
theorem fvs_at {c z a : Nat} {μ : Mm} {k : Nat} (h : k < nf c) : (fvs c z a μ)[k]? = some (if isr c k = true then rv z (μ.2 a k) else .int (μ.1 a k)) := by
  unfold fvs
  rw [List.getElem?_map, List.getElem?_range h]
  rfl
theorem fvs_len (c z a : Nat) (μ : Mm) : (fvs c z a μ).length = nf c := by
  unfold fvs
  rw [List.length_map, List.length_range]
theorem fvs_seti {c z a : Nat} {μ : Mm} {k : Nat} {v : Int32} (hr : isr c k = false) : fvs c z a (up2 μ.1 a k v, μ.2) = (fvs c z a μ).set k (.int v) := by
  apply List.ext_getElem?
  intro i
  rw [List.getElem?_set, fvs_len]
  by_cases hi : i < nf c
  · rw [fvs_at hi, fvs_at hi]
    by_cases h : k = i
    · subst h
      rw [if_pos rfl, if_pos hi, hr]
      simp [up2]
    · rw [if_neg h]
      have h' : ¬ i = k := fun q => h q.symm
      simp [up2, h']
  · rw [List.getElem?_eq_none (by rw [fvs_len]; omega), List.getElem?_eq_none (by rw [fvs_len]; omega)]
    by_cases h : k = i <;> simp [h, hi]
theorem fvs_setr {c z a : Nat} {μ : Mm} {k : Nat} {v : Option Nat} (hr : isr c k = true) : fvs c z a (μ.1, up2 μ.2 a k v) = (fvs c z a μ).set k (rv z v) := by
  apply List.ext_getElem?
  intro i
  rw [List.getElem?_set, fvs_len]
  by_cases hi : i < nf c
  · rw [fvs_at hi, fvs_at hi]
    by_cases h : k = i
    · subst h
      rw [if_pos rfl, if_pos hi, hr]
      simp [up2]
    · rw [if_neg h]
      have h' : ¬ i = k := fun q => h q.symm
      simp [up2, h']
  · rw [List.getElem?_eq_none (by rw [fvs_len]; omega), List.getElem?_eq_none (by rw [fvs_len]; omega)]
    by_cases h : k = i <;> simp [h, hi]
theorem Wk.warm {D : va_G} {cA : Nat → ClassId} {s U : State} (h : Wk D cA s) (hW : s.WarmedH U.vm) : Wk D cA U := ⟨va_K.moved hW.alike h.1, va_Nw.warmM hW h.2⟩
/-- a method's end: its answer, the store behind it, nothing else changed -/
def QQ (D : va_G) (cA : Nat → ClassId) (z : Nat) (v : Option Value) (μ : Mm) : Array Value → State → Outcome → State → Prop := fun _ st oc t => oc = .returned v ∧ Wd D cA z μ t.heap ∧ va_F (Az z) st t
def Pq (D : va_G) (cA : Nat → ClassId) (z : Nat) (μ : Mm) (U : State) : Prop := Wd D cA z μ U.heap ∧ Wk D cA U
/-- the contract of a method: from the store μ it comes to the store μ' with the answer v -/
def Ct (l : Launch) (D : va_G) (cA : Nat → ClassId) (z : Nat) (y : MethodName) (ws : List Cond) (fr lo : Nat) (av : List Value) (μ : Mm) (v : Option Value) (μ' : Mm) : Prop :=
  Met l y ws { frames := fr, cells := 0, slots := 0, locals := lo } (va_Pc av (Pq D cA z μ)) (QQ D cA z v μ') 0 0 (Az z)
/-- what is fixed while a method's body is walked -/
def Fx (D : va_G) (cA : Nat → ClassId) (own : String) (ws : List Cond) (cc : ByteArray) (nL : Nat) (ret : Option FieldType) (p : Program) (s : State) (m : MethodId) (args : Array Value) (meth : Method) (c : Code) : Prop :=
  p.tables.exec = Jvm.exec ∧ c.code = cc ∧ meth.sig.returnType = ret ∧ meth.locks = false ∧ c.maxLocals = nL ∧ s.vm.findClass own = some m.cls ∧ (∀ w ∈ ws, w.before args s = true) ∧ Wk D cA s
/-- the machine at a frame of the method's body, over the store -/
def WG (l : Launch) (D : va_G) (cA : Nat → ClassId) (z : Nat) (ws : List Cond) (fr lo : Nat) (av : List Value) (v : Option Value) (μ' : Mm) (p : Program) (e : Env) (s : State) (m : MethodId) (below : List Frame) (meth : Method) (c : Code) (H : Heap) (locs : List Loc) (g : JFrame) : Prop :=
  W p l e (headSpec ws { frames := fr, cells := 0, slots := 0, locals := lo }).room s m av.toArray below meth c H locs 0 0 (MQ below (QQ D cA z v μ') av.toArray s 0 0 (Az z)) g
theorem m_in {l : Launch} {D : va_G} {cA : Nat → ClassId} {z : Nat} {y : MethodName} {ws ws' : List Cond} {fr lo : Nat} {av : List Value} {μ μ' : Mm} {v : Option Value} {cc : ByteArray} {maxL : Nat} {ret : Option FieldType} {own : String}
    (hy : plainName y.cls = true) (hw : ws = Cond.code y cc maxL ret :: ws') (hyo : y.cls = own) (hlen : (lg_sl av).length ≤ maxL)
    (body : ∀ (p : Program) (e : Env) (s : State) (m : MethodId) (below : List Frame) (meth : Method) (c : Code) (ls : Array Slot), Fx D cA own ws cc maxL ret p s m av.toArray meth c → Wd D cA z μ s.heap → va_S (Az z) s.heap s.heap [] → lv_has ls maxL (lv_args 0 av) →
      WG l D cA z ws fr lo av v μ' p e s m below meth c s.heap [] (F0 m 0 ls [])) : Ct l D cA z y ws fr lo av μ v μ' := by
  refine Met.ofW (cc := cc) (maxL := maxL) (ret := ret) hy hw ?_
  intro p e s m args below meth c s₁ B hml hv
  obtain ⟨rfl, hd, hk⟩ := hv
  have hl := lv_entry av (n := maxL) hlen
  rw [lg_entry_eq]
  exact body p e s m below meth c _ ⟨B.exec, B.bytes, B.returns, B.notSynchronized, hml, hyo ▸ findClass_of_methodNamed B.named, atoms_spec (ws := ws) B.pre, hk⟩ hd va_S.rf hl
section RW
variable {p : Program} {l : Launch} {e : Env} {R : Room} {s : State} {m : MethodId} {args : Array Value} {below : List Frame} {meth : Method} {c : Code} {H : Heap} {locs : List Loc} {cells slots : Nat} {Q : State → Prop}
variable {cc : ByteArray} {pc : Nat} {ls : Array Slot} {rest : List Value} {D : va_G} {cA : Nat → ClassId} {z : Nat} {μ μ' : Mm} {H0 : Heap}
theorem r_geti (hexec : p.tables.exec = Jvm.exec) (hb : c.code = cc) {own C : String} {T : u_T} {N ci index : Nat} {Ts : List Cond} (hts : ∀ w ∈ Ts, w.before args s = true) (hin : ∀ w ∈ u_ws C T N, w ∈ Ts) (hown : s.vm.findClass own = some m.cls) (hK : Wk D cA s) (hd : Wd D cA z μ H) {a : Nat} (hka : kd a = ci) (hc : vwCl[ci]? = some (C, T, N)) (k : Nat) (hs : decide (ci < 11 ∧ k < N ∧ nf ci = N ∧ isr ci k = false) = true)
    (hlink : (Cond.fieldLink own index (T k).1 (T k).2.1 (T k).2.2.1).before args s = true) (hdg : decode cc pc = .ok (.getfield index, 3))
    (kk : W p l e R s m args below meth c H locs cells slots Q (F0 m (pc + 3) ls (.int (μ.1 a k) :: rest))) : W p l e R s m args below meth c H locs cells slots Q (F0 m pc ls (.ref (z + a) :: rest)) := by
  obtain ⟨h1, h2, h3, h4⟩ := of_decide_eq_true hs
  have ha : a < 131 := kd_lt hka (by omega)
  refine va_get hexec hb hts hin hown hK.1 hd.2 a ((wl_at cA z μ ha).trans (by rw [ce_o hka h1])) hc k h2 hlink (fun _ h => h) (v := .int (μ.1 a k)) ?_ hdg kk
  rw [fvs_at (by rw [h3]; exact h2), h4]
  rfl
theorem r_getr (hexec : p.tables.exec = Jvm.exec) (hb : c.code = cc) {own C : String} {T : u_T} {N ci index : Nat} {Ts : List Cond} (hts : ∀ w ∈ Ts, w.before args s = true) (hin : ∀ w ∈ u_ws C T N, w ∈ Ts) (hown : s.vm.findClass own = some m.cls) (hK : Wk D cA s) (hd : Wd D cA z μ H) {a b : Nat} (hka : kd a = ci) {k0 : Nat} (hab : μ.2 a k0 = some b) (hc : vwCl[ci]? = some (C, T, N)) (hs : decide (ci < 11 ∧ k0 < N ∧ nf ci = N ∧ isr ci k0 = true) = true)
    (hlink : (Cond.fieldLink own index (T k0).1 (T k0).2.1 (T k0).2.2.1).before args s = true) (hdg : decode cc pc = .ok (.getfield index, 3))
    (kk : kd b = tg ci k0 → W p l e R s m args below meth c H locs cells slots Q (F0 m (pc + 3) ls (.ref (z + b) :: rest))) : W p l e R s m args below meth c H locs cells slots Q (F0 m pc ls (.ref (z + a) :: rest)) := by
  obtain ⟨h1, h2, h3, h4⟩ := of_decide_eq_true hs
  have ha : a < 131 := kd_lt hka (by omega)
  refine va_get hexec hb hts hin hown hK.1 hd.2 a ((wl_at cA z μ ha).trans (by rw [ce_o hka h1])) hc k0 h2 hlink (fun _ h => h) (v := .ref (z + b)) ?_ hdg (kk (by rw [← hka]; exact hd.1 a k0 b hab))
  rw [fvs_at (by rw [h3]; exact h2), h4, hab]
  rfl
theorem r_puti (hexec : p.tables.exec = Jvm.exec) (hb : c.code = cc) {own C : String} {T : u_T} {N ci index : Nat} {Ts : List Cond} (hts : ∀ w ∈ Ts, w.before args s = true) (hin : ∀ w ∈ u_ws C T N, w ∈ Ts) (ty0 : Nat → FieldType) (hty : ∀ k, k < N → parseFieldDescriptor (T k).2.2.1 = some (ty0 k)) (hnm : ∀ a, a < N → ∀ b, b < N → a ≠ b → (T a).2.1 ≠ (T b).2.1) (hown : s.vm.findClass own = some m.cls) (hK : Wk D cA s) (hd : Wd D cA z μ H) (hS : va_S (Az z) H0 H locs) {a : Nat} (hka : kd a = ci) (hc : vwCl[ci]? = some (C, T, N)) (k : Nat) (hs : decide (ci < 11 ∧ k < N ∧ nf ci = N ∧ isr ci k = false) = true) (hfin : (T k).2.2.2 = false)
    (hlink : (Cond.fieldLink own index (T k).1 (T k).2.1 (T k).2.2.1).before args s = true) {v : Int32} (hn : narrow (ty0 k) (.int v) = .int v) (hfit : fits (ty0 k) (.int v) = true) (hdg : decode cc pc = .ok (.putfield index, 3))
    (kk : ∀ μ1 : Mm, μ1 = (up2 μ.1 a k v, μ.2) → ∀ (H1 : Heap) (locs1 : List Loc), Wd D cA z μ1 H1 → va_S (Az z) H0 H1 locs1 → W p l e R s m args below meth c H1 locs1 cells slots Q (F0 m (pc + 3) ls rest)) : W p l e R s m args below meth c H locs cells slots Q (F0 m pc ls (.int v :: .ref (z + a) :: rest)) := by
  obtain ⟨h1, h2, h3, h4⟩ := of_decide_eq_true hs
  have ha : a < 131 := kd_lt hka (by omega)
  refine va_put hexec hb hts hin ty0 hty hnm hown hK.1 hd.2 (wl_D cA z μ) hS a ((wl_at cA z μ ha).trans (by rw [ce_o hka h1])) hc k h2 hlink (fun _ h => h) hfin (hty k h2) hn hfit (by rw [fvs_len, h3]; exact h2) hdg (fun H1 locs1 hP _ hS1 => kk _ rfl H1 locs1 ⟨hd.1, ?_⟩ hS1)
  rw [wl_set (μ' := (up2 μ.1 a k v, μ.2)) ha (by rw [ce_o hka h1, fvs_seti h4]) (fun b hb => ce_cong (up2_ne hb) rfl)] at hP
  exact hP
theorem r_putr (hexec : p.tables.exec = Jvm.exec) (hb : c.code = cc) {own C : String} {T : u_T} {N ci index : Nat} {Ts : List Cond} (hts : ∀ w ∈ Ts, w.before args s = true) (hin : ∀ w ∈ u_ws C T N, w ∈ Ts) (ty0 : Nat → FieldType) (hty : ∀ k, k < N → parseFieldDescriptor (T k).2.2.1 = some (ty0 k)) (hnm : ∀ a, a < N → ∀ b, b < N → a ≠ b → (T a).2.1 ≠ (T b).2.1) (hown : s.vm.findClass own = some m.cls) (hK : Wk D cA s) (hd : Wd D cA z μ H) (hS : va_S (Az z) H0 H locs) {a : Nat} (hka : kd a = ci) (hc : vwCl[ci]? = some (C, T, N)) (k : Nat) (hs : decide (ci < 11 ∧ k < N ∧ nf ci = N ∧ isr ci k = true) = true) (hfin : (T k).2.2.2 = false)
    (hlink : (Cond.fieldLink own index (T k).1 (T k).2.1 (T k).2.2.1).before args s = true) {b : Nat} (hkb : kd b = tg ci k) (hn : narrow (ty0 k) (.ref (z + b)) = .ref (z + b)) (hfit : fits (ty0 k) (.ref (z + b)) = true) (hdg : decode cc pc = .ok (.putfield index, 3))
    (kk : ∀ μ1 : Mm, μ1 = (μ.1, up2 μ.2 a k (some b)) → ∀ (H1 : Heap) (locs1 : List Loc), Wd D cA z μ1 H1 → va_S (Az z) H0 H1 locs1 → W p l e R s m args below meth c H1 locs1 cells slots Q (F0 m (pc + 3) ls rest)) : W p l e R s m args below meth c H locs cells slots Q (F0 m pc ls (.ref (z + b) :: .ref (z + a) :: rest)) := by
  obtain ⟨h1, h2, h3, h4⟩ := of_decide_eq_true hs
  have ha : a < 131 := kd_lt hka (by omega)
  refine va_put hexec hb hts hin ty0 hty hnm hown hK.1 hd.2 (wl_D cA z μ) hS a ((wl_at cA z μ ha).trans (by rw [ce_o hka h1])) hc k h2 hlink (fun _ h => h) hfin (hty k h2) hn hfit (by rw [fvs_len, h3]; exact h2) hdg (fun H1 locs1 hP _ hS1 => kk _ rfl H1 locs1 ⟨?_, ?_⟩ hS1)
  · intro a' k' b' h
    by_cases q : a' = a ∧ k' = k
    · obtain ⟨rfl, rfl⟩ := q
      have h' : some b = some b' := by simpa [up2] using h
      cases h'
      rw [hka]
      exact hkb
    · exact hd.1 a' k' b' (by simpa [up2, q] using h)
  · have he : ce cA z (μ.1, up2 μ.2 a k (some b)) a = .inr (ci, (fvs ci z a μ).set k (.ref (z + b))) := by
      rw [ce_o hka h1, fvs_setr h4]
      rfl
    rw [wl_set (μ := μ) ha he (fun b hb => ce_cong rfl (up2_ne hb))] at hP
    exact hP
theorem r_iald (hexec : p.tables.exec = Jvm.exec) (hb : c.code = cc) (hK : Wk D cA s) (hd : Wd D cA z μ H) {a : Nat} (hka : kd a = 11) {i : Int32} (hi : vp_in i (ln a)) (hdg : decode cc pc = .ok (.iaload, 1))
    (kk : W p l e R s m args below meth c H locs cells slots Q (F0 m (pc + 1) ls (.int (μ.1 a i.toNatClampNeg) :: rest))) : W p l e R s m args below meth c H locs cells slots Q (F0 m pc ls (.int i :: .ref (z + a) :: rest)) :=
  va_iald hexec hb hK.1 hd.2 a 0 ((wl_at cA z μ (kd_lt hka (by omega))).trans (by rw [ce_i hka (by omega) (by omega)])) rfl hi hdg kk
theorem r_zald (hexec : p.tables.exec = Jvm.exec) (hb : c.code = cc) (hK : Wk D cA s) (hd : Wd D cA z μ H) {a : Nat} (hka : kd a = 12) {i : Int32} (hi : vp_in i (ln a)) (hdg : decode cc pc = .ok (.baload, 1))
    (kk : W p l e R s m args below meth c H locs cells slots Q (F0 m (pc + 1) ls (.int (μ.1 a i.toNatClampNeg) :: rest))) : W p l e R s m args below meth c H locs cells slots Q (F0 m pc ls (.int i :: .ref (z + a) :: rest)) :=
  va_zald hexec hb hK.1 hd.2 a 1 ((wl_at cA z μ (kd_lt hka (by omega))).trans (by rw [ce_i hka (by omega) (by omega)])) rfl hi hdg kk
theorem r_iast (hexec : p.tables.exec = Jvm.exec) (hb : c.code = cc) (hK : Wk D cA s) (hd : Wd D cA z μ H) (hS : va_S (Az z) H0 H locs) {a : Nat} (hka : kd a = 11) {i x : Int32} (hi : vp_in i (ln a)) (hdg : decode cc pc = .ok (.iastore, 1))
    (kk : ∀ μ1 : Mm, μ1 = (up2 μ.1 a i.toNatClampNeg x, μ.2) → ∀ (H1 : Heap) (locs1 : List Loc), Wd D cA z μ1 H1 → va_S (Az z) H0 H1 locs1 → W p l e R s m args below meth c H1 locs1 cells slots Q (F0 m (pc + 1) ls rest)) : W p l e R s m args below meth c H locs cells slots Q (F0 m pc ls (.int x :: .int i :: .ref (z + a) :: rest)) := by
  have ha : a < 131 := kd_lt hka (by omega)
  refine va_iast hexec hb hK.1 hd.2 (wl_D cA z μ) hS a 0 ((wl_at cA z μ ha).trans (by rw [ce_i hka (by omega) (by omega)])) rfl hi hdg (fun H1 locs1 hP _ hS1 => kk _ rfl H1 locs1 ⟨hd.1, ?_⟩ hS1)
  rw [wl_set (μ' := (up2 μ.1 a i.toNatClampNeg x, μ.2)) ha (by rw [ce_i hka (by omega) (by omega)]; show _ = _; rw [show (up2 μ.1 a i.toNatClampNeg x, μ.2).1 a = upd (μ.1 a) i.toNatClampNeg x from up2_row _ _ _ _]) (fun b hb => ce_cong (up2_ne hb) rfl)] at hP
  exact hP
theorem r_zast (hexec : p.tables.exec = Jvm.exec) (hb : c.code = cc) (hK : Wk D cA s) (hd : Wd D cA z μ H) (hS : va_S (Az z) H0 H locs) {a : Nat} (hka : kd a = 12) {i x : Int32} (hx : vp_nar .boolean x = x) (hi : vp_in i (ln a)) (hdg : decode cc pc = .ok (.bastore, 1))
    (kk : ∀ μ1 : Mm, μ1 = (up2 μ.1 a i.toNatClampNeg x, μ.2) → ∀ (H1 : Heap) (locs1 : List Loc), Wd D cA z μ1 H1 → va_S (Az z) H0 H1 locs1 → W p l e R s m args below meth c H1 locs1 cells slots Q (F0 m (pc + 1) ls rest)) : W p l e R s m args below meth c H locs cells slots Q (F0 m pc ls (.int x :: .int i :: .ref (z + a) :: rest)) := by
  have ha : a < 131 := kd_lt hka (by omega)
  refine va_zast hexec hb hK.1 hd.2 (wl_D cA z μ) hS a 1 ((wl_at cA z μ ha).trans (by rw [ce_i hka (by omega) (by omega)])) rfl hi hdg (fun H1 locs1 hP _ hS1 => kk _ rfl H1 locs1 ⟨hd.1, ?_⟩ hS1)
  rw [hx, wl_set (μ' := (up2 μ.1 a i.toNatClampNeg x, μ.2)) ha (by rw [ce_i hka (by omega) (by omega)]; show _ = _; rw [show (up2 μ.1 a i.toNatClampNeg x, μ.2).1 a = upd (μ.1 a) i.toNatClampNeg x from up2_row _ _ _ _]) (fun b hb => ce_cong (up2_ne hb) rfl)] at hP
  exact hP
theorem r_alen (hexec : p.tables.exec = Jvm.exec) (hb : c.code = cc) (hK : Wk D cA s) (hd : Wd D cA z μ H) {a ci : Nat} (hka : kd a = ci) (hs : decide (ci = 11 ∨ ci = 13 ∨ ci = 14) = true) (hdg : decode cc pc = .ok (.arraylength, 1))
    (kk : W p l e R s m args below meth c H locs cells slots Q (F0 m (pc + 1) ls (.int (Int32.ofNat (ln a)) :: rest))) : W p l e R s m args below meth c H locs cells slots Q (F0 m pc ls (.ref (z + a) :: rest)) := by
  have hci := of_decide_eq_true hs
  have ha : a < 131 := kd_lt hka (by omega)
  rcases hci with rfl | rfl | rfl
  · exact va_alen hexec hb hK.1 hd.2 a 0 ((wl_at cA z μ ha).trans (by rw [ce_i hka (by omega) (by omega)])) (ty := .int) rfl rfl hdg kk
  · exact va_alen hexec hb hK.1 hd.2 a 2 ((wl_at cA z μ ha).trans (by rw [ce_r hka (by omega) (by omega)])) (ty := .object "LevelVotes$Ballot") rfl rfl hdg kk
  · exact va_alen hexec hb hK.1 hd.2 a 3 ((wl_at cA z μ ha).trans (by rw [ce_r hka (by omega) (by omega)])) (ty := .object "LevelVotes$Image") rfl rfl hdg kk
theorem r_aald (hexec : p.tables.exec = Jvm.exec) (hb : c.code = cc) (hK : Wk D cA s) (hd : Wd D cA z μ H) {a ci : Nat} (hka : kd a = ci) (hs : decide (ci = 13 ∨ ci = 14) = true) {i : Int32} (hi : vp_in i (ln a)) {b : Nat} (hab : μ.2 a i.toNatClampNeg = some b) (hdg : decode cc pc = .ok (.aaload, 1))
    (kk : kd b = tg ci i.toNatClampNeg → W p l e R s m args below meth c H locs cells slots Q (F0 m (pc + 1) ls (.ref (z + b) :: rest))) : W p l e R s m args below meth c H locs cells slots Q (F0 m pc ls (.int i :: .ref (z + a) :: rest)) := by
  have hci := of_decide_eq_true hs
  have ha : a < 131 := kd_lt hka (by omega)
  have hkb : kd b = tg ci i.toNatClampNeg := by rw [← hka]; exact hd.1 a _ b hab
  have hv : va_rf ((μ.2 a i.toNatClampNeg).map (fun q => z + q)) = .ref (z + b) := by rw [hab]; rfl
  rcases hci with rfl | rfl
  · refine va_aldq hexec hb hK.1 hd.2 a 2 ((wl_at cA z μ ha).trans (by rw [ce_r hka (by omega) (by omega)])) (C := "LevelVotes$Ballot") rfl hi hdg ?_
    rw [hv]; exact kk hkb
  · refine va_aldq hexec hb hK.1 hd.2 a 3 ((wl_at cA z μ ha).trans (by rw [ce_r hka (by omega) (by omega)])) (C := "LevelVotes$Image") rfl hi hdg ?_
    rw [hv]; exact kk hkb
theorem rc_go {v : Option Value} {st0 : List Value} {a : Array Value} (hr : va_Run p l e R s m args below meth c H locs cells slots 0 0 (F0 m pc ls st0) rest (QQ D cA z v μ' a) (Az z)) (hS : va_S (Az z) H0 H locs)
    (kk : ∀ (H1 : Heap) (locs1 : List Loc), Wd D cA z μ' H1 → va_S (Az z) H0 H1 locs1 → W p l e R s m args below meth c H1 locs1 cells slots Q (F0 m (pc + 3) ls (v.toList ++ rest))) : W p l e R s m args below meth c H locs cells slots Q (F0 m pc ls st0) := by
  intro T hT X
  obtain ⟨v', st₀, t, T', L, h0, X', hL, e1, e2, ⟨hv, hw, hz, hk⟩, st⟩ := hr T hT X
  have hv' : v' = v := by simpa using hv
  subst hv'
  rw [h0] at hz hk
  obtain ⟨t2, a1, b1⟩ := kk T'.heap (locs ++ L) (by rw [e1]; exact hw)
    ⟨Nat.le_trans hS.1 (by rw [e1]; exact hz), fun q h1 h2 => by rw [e1, hk q (Nat.lt_of_lt_of_le h1 hS.1) h2]; exact hS.2.1 q h1 h2, fun q hq => by
      rcases List.mem_append.mp hq with h | h
      · exact hS.2.2 q h
      · exact hL q h⟩ T' rfl X'
  exact ⟨t2, st t2 a1, b1⟩
theorem Pq_blind {av : List Value} : FrameBlind (va_Pc av (Pq D cA z μ)) := fun a U g mk q => ⟨q.1, q.2.1, va_K.moved (u := U) (U := U.calling g mk a) (Vm.Alike.refl U.vm) q.2.2.1, va_Nw.same (u := U) (U := U.calling g mk a) rfl rfl q.2.2.2⟩
theorem rc_V {y : MethodName} {bytes : ByteArray} {maxL nL n index fr lo : Nat} {ret : Option FieldType} {ws : List Cond} {Ts : List Cond} {own C : String} {a ci : Nat} {q : vw_C} (As : List Value) {v : Option Value} {st0 : List Value}
    (S : CallFix p m c cc nL s args Ts own) (hK : Wk D cA s) (hd : Wd D cA z μ H) (hS : va_S (Az z) H0 H locs) (hM : Ct l D cA z y ws fr lo (.ref (z + a) :: As) μ v μ') (cw : CallW R s args own C index y bytes maxL ret ws { frames := fr, cells := 0, slots := 0, locals := lo } 0 0 n)
    (hka : kd a = ci) (hci : decide (ci < 11) = true) (hc : vwCl[ci]? = some q) (hq : q.1 = C) (hn : As.length = n) (hsize : ls.size = nL) (hst : st0 = As.reverse ++ .ref (z + a) :: rest) (hW : (rest.map fun v => v.category).sum ≤ 8) (hdg : decode cc pc = .ok (.invokevirtual index, 3)) (hf : cells ≤ R.cells ∧ slots ≤ R.slots)
    (kk : ∀ (H1 : Heap) (locs1 : List Loc), Wd D cA z μ' H1 → va_S (Az z) H0 H1 locs1 → W p l e R s m args below meth c H1 locs1 cells slots Q (F0 m (pc + 3) ls (v.toList ++ rest))) : W p l e R s m args below meth c H locs cells slots Q (F0 m pc ls st0) := by
  have h1 := of_decide_eq_true hci
  subst hq
  refine rc_go (va_runV (As := As) (rest := rest) S hM cw ⟨Pq_blind, va_recv hK.1 hd.2 hc ((wl_at cA z μ (kd_lt hka (by omega))).trans (by rw [ce_o hka h1])), fun U hU hWm => ⟨rfl, by rw [hU]; exact hd, hK.warm hWm⟩⟩ rfl hn hsize hst (lv_room hW) hdg hf) hS kk
theorem rc_Vi {y : MethodName} {bytes : ByteArray} {maxL nL n index fr lo : Nat} {ret : Option FieldType} {ws : List Cond} {Ts : List Cond} {own C : String} {a ci : Nat} {q : vw_C} (As : List Value) {r : Int32} {st0 : List Value}
    (S : CallFix p m c cc nL s args Ts own) (hK : Wk D cA s) (hd : Wd D cA z μ H) (hS : va_S (Az z) H0 H locs) (hM : Ct l D cA z y ws fr lo (.ref (z + a) :: As) μ (some (.int r)) μ') (cw : CallW R s args own C index y bytes maxL ret ws { frames := fr, cells := 0, slots := 0, locals := lo } 0 0 n)
    (hka : kd a = ci) (hci : decide (ci < 11) = true) (hc : vwCl[ci]? = some q) (hq : q.1 = C) (hn : As.length = n) (hsize : ls.size = nL) (hst : st0 = As.reverse ++ .ref (z + a) :: rest) (hW : (rest.map fun v => v.category).sum ≤ 8) (hdg : decode cc pc = .ok (.invokevirtual index, 3)) (hf : cells ≤ R.cells ∧ slots ≤ R.slots)
    (kk : ∀ (H1 : Heap) (locs1 : List Loc), Wd D cA z μ' H1 → va_S (Az z) H0 H1 locs1 → W p l e R s m args below meth c H1 locs1 cells slots Q (F0 m (pc + 3) ls (.int r :: rest))) : W p l e R s m args below meth c H locs cells slots Q (F0 m pc ls st0) :=
  rc_V As S hK hd hS hM cw hka hci hc hq hn hsize hst hW hdg hf kk
theorem rc_Vv {y : MethodName} {bytes : ByteArray} {maxL nL n index fr lo : Nat} {ret : Option FieldType} {ws : List Cond} {Ts : List Cond} {own C : String} {a ci : Nat} {q : vw_C} (As : List Value) {st0 : List Value}
    (S : CallFix p m c cc nL s args Ts own) (hK : Wk D cA s) (hd : Wd D cA z μ H) (hS : va_S (Az z) H0 H locs) (hM : Ct l D cA z y ws fr lo (.ref (z + a) :: As) μ none μ') (cw : CallW R s args own C index y bytes maxL ret ws { frames := fr, cells := 0, slots := 0, locals := lo } 0 0 n)
    (hka : kd a = ci) (hci : decide (ci < 11) = true) (hc : vwCl[ci]? = some q) (hq : q.1 = C) (hn : As.length = n) (hsize : ls.size = nL) (hst : st0 = As.reverse ++ .ref (z + a) :: rest) (hW : (rest.map fun v => v.category).sum ≤ 8) (hdg : decode cc pc = .ok (.invokevirtual index, 3)) (hf : cells ≤ R.cells ∧ slots ≤ R.slots)
    (kk : ∀ (H1 : Heap) (locs1 : List Loc), Wd D cA z μ' H1 → va_S (Az z) H0 H1 locs1 → W p l e R s m args below meth c H1 locs1 cells slots Q (F0 m (pc + 3) ls rest)) : W p l e R s m args below meth c H locs cells slots Q (F0 m pc ls st0) :=
  rc_V As S hK hd hS hM cw hka hci hc hq hn hsize hst hW hdg hf kk
theorem rc_Vr {y : MethodName} {bytes : ByteArray} {maxL nL n index fr lo : Nat} {ret : Option FieldType} {ws : List Cond} {Ts : List Cond} {own C : String} {a ci : Nat} {q : vw_C} (As : List Value) {w : Value} {st0 : List Value}
    (S : CallFix p m c cc nL s args Ts own) (hK : Wk D cA s) (hd : Wd D cA z μ H) (hS : va_S (Az z) H0 H locs) (hM : Ct l D cA z y ws fr lo (.ref (z + a) :: As) μ (some w) μ') (cw : CallW R s args own C index y bytes maxL ret ws { frames := fr, cells := 0, slots := 0, locals := lo } 0 0 n)
    (hka : kd a = ci) (hci : decide (ci < 11) = true) (hc : vwCl[ci]? = some q) (hq : q.1 = C) (hn : As.length = n) (hsize : ls.size = nL) (hst : st0 = As.reverse ++ .ref (z + a) :: rest) (hW : (rest.map fun v => v.category).sum ≤ 8) (hdg : decode cc pc = .ok (.invokevirtual index, 3)) (hf : cells ≤ R.cells ∧ slots ≤ R.slots)
    (kk : ∀ (H1 : Heap) (locs1 : List Loc), Wd D cA z μ' H1 → va_S (Az z) H0 H1 locs1 → W p l e R s m args below meth c H1 locs1 cells slots Q (F0 m (pc + 3) ls (w :: rest))) : W p l e R s m args below meth c H locs cells slots Q (F0 m pc ls st0) :=
  rc_V As S hK hd hS hM cw hka hci hc hq hn hsize hst hW hdg hf kk
theorem rc_S {y : MethodName} {bytes : ByteArray} {maxL nL n index fr lo : Nat} {ret : Option FieldType} {ws : List Cond} {Ts : List Cond} {own : String} (As : List Value) {v : Option Value} {st0 : List Value}
    (S : CallFix p m c cc nL s args Ts own) (hK : Wk D cA s) (hd : Wd D cA z μ H) (hS : va_S (Az z) H0 H locs) (hM : Ct l D cA z y ws fr lo As μ v μ') (cw : CallB R s args own index y bytes maxL ret ws { frames := fr, cells := 0, slots := 0, locals := lo } 0 0 n ∧ (Cond.static y).before args s = true)
    (hn : As.length = n) (hsize : ls.size = nL) (hst : st0 = As.reverse ++ rest) (hW : (rest.map fun v => v.category).sum ≤ 8) (hdg : decode cc pc = .ok (.invokestatic index, 3)) (hf : cells ≤ R.cells ∧ slots ≤ R.slots)
    (kk : ∀ (H1 : Heap) (locs1 : List Loc), Wd D cA z μ' H1 → va_S (Az z) H0 H1 locs1 → W p l e R s m args below meth c H1 locs1 cells slots Q (F0 m (pc + 3) ls (v.toList ++ rest))) : W p l e R s m args below meth c H locs cells slots Q (F0 m pc ls st0) :=
  rc_go (va_runS (As := As) (rest := rest) S hM cw ⟨Pq_blind, fun U hU hWm => ⟨rfl, by rw [hU]; exact hd, hK.warm hWm⟩⟩ rfl hn hsize hst (lv_room hW) hdg hf) hS kk
theorem rc_Si {y : MethodName} {bytes : ByteArray} {maxL nL n index fr lo : Nat} {ret : Option FieldType} {ws : List Cond} {Ts : List Cond} {own : String} (As : List Value) {r : Int32} {st0 : List Value}
    (S : CallFix p m c cc nL s args Ts own) (hK : Wk D cA s) (hd : Wd D cA z μ H) (hS : va_S (Az z) H0 H locs) (hM : Ct l D cA z y ws fr lo As μ (some (.int r)) μ') (cw : CallB R s args own index y bytes maxL ret ws { frames := fr, cells := 0, slots := 0, locals := lo } 0 0 n ∧ (Cond.static y).before args s = true)
    (hn : As.length = n) (hsize : ls.size = nL) (hst : st0 = As.reverse ++ rest) (hW : (rest.map fun v => v.category).sum ≤ 8) (hdg : decode cc pc = .ok (.invokestatic index, 3)) (hf : cells ≤ R.cells ∧ slots ≤ R.slots)
    (kk : ∀ (H1 : Heap) (locs1 : List Loc), Wd D cA z μ' H1 → va_S (Az z) H0 H1 locs1 → W p l e R s m args below meth c H1 locs1 cells slots Q (F0 m (pc + 3) ls (.int r :: rest))) : W p l e R s m args below meth c H locs cells slots Q (F0 m pc ls st0) :=
  rc_S As S hK hd hS hM cw hn hsize hst hW hdg hf kk
theorem rc_Sv {y : MethodName} {bytes : ByteArray} {maxL nL n index fr lo : Nat} {ret : Option FieldType} {ws : List Cond} {Ts : List Cond} {own : String} (As : List Value) {st0 : List Value}
    (S : CallFix p m c cc nL s args Ts own) (hK : Wk D cA s) (hd : Wd D cA z μ H) (hS : va_S (Az z) H0 H locs) (hM : Ct l D cA z y ws fr lo As μ none μ') (cw : CallB R s args own index y bytes maxL ret ws { frames := fr, cells := 0, slots := 0, locals := lo } 0 0 n ∧ (Cond.static y).before args s = true)
    (hn : As.length = n) (hsize : ls.size = nL) (hst : st0 = As.reverse ++ rest) (hW : (rest.map fun v => v.category).sum ≤ 8) (hdg : decode cc pc = .ok (.invokestatic index, 3)) (hf : cells ≤ R.cells ∧ slots ≤ R.slots)
    (kk : ∀ (H1 : Heap) (locs1 : List Loc), Wd D cA z μ' H1 → va_S (Az z) H0 H1 locs1 → W p l e R s m args below meth c H1 locs1 cells slots Q (F0 m (pc + 3) ls rest)) : W p l e R s m args below meth c H locs cells slots Q (F0 m pc ls st0) :=
  rc_S As S hK hd hS hM cw hn hsize hst hW hdg hf kk
theorem rc_Sr {y : MethodName} {bytes : ByteArray} {maxL nL n index fr lo : Nat} {ret : Option FieldType} {ws : List Cond} {Ts : List Cond} {own : String} (As : List Value) {w : Value} {st0 : List Value}
    (S : CallFix p m c cc nL s args Ts own) (hK : Wk D cA s) (hd : Wd D cA z μ H) (hS : va_S (Az z) H0 H locs) (hM : Ct l D cA z y ws fr lo As μ (some w) μ') (cw : CallB R s args own index y bytes maxL ret ws { frames := fr, cells := 0, slots := 0, locals := lo } 0 0 n ∧ (Cond.static y).before args s = true)
    (hn : As.length = n) (hsize : ls.size = nL) (hst : st0 = As.reverse ++ rest) (hW : (rest.map fun v => v.category).sum ≤ 8) (hdg : decode cc pc = .ok (.invokestatic index, 3)) (hf : cells ≤ R.cells ∧ slots ≤ R.slots)
    (kk : ∀ (H1 : Heap) (locs1 : List Loc), Wd D cA z μ' H1 → va_S (Az z) H0 H1 locs1 → W p l e R s m args below meth c H1 locs1 cells slots Q (F0 m (pc + 3) ls (w :: rest))) : W p l e R s m args below meth c H locs cells slots Q (F0 m pc ls st0) :=
  rc_S As S hK hd hS hM cw hn hsize hst hW hdg hf kk
theorem rc_N {y : MethodName} {bytes : ByteArray} {maxL nL n index fr lo : Nat} {ret : Option FieldType} {ws : List Cond} {Ts : List Cond} {own host : String} (As : List Value) {v : Option Value} {st0 : List Value}
    (S : CallFix p m c cc nL s args Ts own) (hK : Wk D cA s) (hd : Wd D cA z μ H) (hS : va_S (Az z) H0 H locs) (hM : Ct l D cA z y ws fr lo As μ v μ') (cw : va_CN R s args own index y host bytes maxL ret ws { frames := fr, cells := 0, slots := 0, locals := lo } 0 0 n ∧ (Cond.static y).before args s = true ∧ True)
    (hn : As.length = n) (hsize : ls.size = nL) (hst : st0 = As.reverse ++ rest) (hW : (rest.map fun v => v.category).sum ≤ 8) (hdg : decode cc pc = .ok (.invokestatic index, 3)) (hf : cells ≤ R.cells ∧ slots ≤ R.slots)
    (kk : ∀ (H1 : Heap) (locs1 : List Loc), Wd D cA z μ' H1 → va_S (Az z) H0 H1 locs1 → W p l e R s m args below meth c H1 locs1 cells slots Q (F0 m (pc + 3) ls (v.toList ++ rest))) : W p l e R s m args below meth c H locs cells slots Q (F0 m pc ls st0) :=
  rc_go (va_runSN (As := As) (rest := rest) S hM cw ⟨Pq_blind, fun U hU hWm => ⟨rfl, by rw [hU]; exact hd, hK.warm hWm⟩⟩ rfl hn hsize hst (lv_room hW) hdg hf) hS kk
theorem rc_Ni {y : MethodName} {bytes : ByteArray} {maxL nL n index fr lo : Nat} {ret : Option FieldType} {ws : List Cond} {Ts : List Cond} {own host : String} (As : List Value) {r : Int32} {st0 : List Value}
    (S : CallFix p m c cc nL s args Ts own) (hK : Wk D cA s) (hd : Wd D cA z μ H) (hS : va_S (Az z) H0 H locs) (hM : Ct l D cA z y ws fr lo As μ (some (.int r)) μ') (cw : va_CN R s args own index y host bytes maxL ret ws { frames := fr, cells := 0, slots := 0, locals := lo } 0 0 n ∧ (Cond.static y).before args s = true ∧ True)
    (hn : As.length = n) (hsize : ls.size = nL) (hst : st0 = As.reverse ++ rest) (hW : (rest.map fun v => v.category).sum ≤ 8) (hdg : decode cc pc = .ok (.invokestatic index, 3)) (hf : cells ≤ R.cells ∧ slots ≤ R.slots)
    (kk : ∀ (H1 : Heap) (locs1 : List Loc), Wd D cA z μ' H1 → va_S (Az z) H0 H1 locs1 → W p l e R s m args below meth c H1 locs1 cells slots Q (F0 m (pc + 3) ls (.int r :: rest))) : W p l e R s m args below meth c H locs cells slots Q (F0 m pc ls st0) :=
  rc_N As S hK hd hS hM cw hn hsize hst hW hdg hf kk
theorem rc_Nv {y : MethodName} {bytes : ByteArray} {maxL nL n index fr lo : Nat} {ret : Option FieldType} {ws : List Cond} {Ts : List Cond} {own host : String} (As : List Value) {st0 : List Value}
    (S : CallFix p m c cc nL s args Ts own) (hK : Wk D cA s) (hd : Wd D cA z μ H) (hS : va_S (Az z) H0 H locs) (hM : Ct l D cA z y ws fr lo As μ none μ') (cw : va_CN R s args own index y host bytes maxL ret ws { frames := fr, cells := 0, slots := 0, locals := lo } 0 0 n ∧ (Cond.static y).before args s = true ∧ True)
    (hn : As.length = n) (hsize : ls.size = nL) (hst : st0 = As.reverse ++ rest) (hW : (rest.map fun v => v.category).sum ≤ 8) (hdg : decode cc pc = .ok (.invokestatic index, 3)) (hf : cells ≤ R.cells ∧ slots ≤ R.slots)
    (kk : ∀ (H1 : Heap) (locs1 : List Loc), Wd D cA z μ' H1 → va_S (Az z) H0 H1 locs1 → W p l e R s m args below meth c H1 locs1 cells slots Q (F0 m (pc + 3) ls rest)) : W p l e R s m args below meth c H locs cells slots Q (F0 m pc ls st0) :=
  rc_N As S hK hd hS hM cw hn hsize hst hW hdg hf kk
theorem rc_Nr {y : MethodName} {bytes : ByteArray} {maxL nL n index fr lo : Nat} {ret : Option FieldType} {ws : List Cond} {Ts : List Cond} {own host : String} (As : List Value) {w : Value} {st0 : List Value}
    (S : CallFix p m c cc nL s args Ts own) (hK : Wk D cA s) (hd : Wd D cA z μ H) (hS : va_S (Az z) H0 H locs) (hM : Ct l D cA z y ws fr lo As μ (some w) μ') (cw : va_CN R s args own index y host bytes maxL ret ws { frames := fr, cells := 0, slots := 0, locals := lo } 0 0 n ∧ (Cond.static y).before args s = true ∧ True)
    (hn : As.length = n) (hsize : ls.size = nL) (hst : st0 = As.reverse ++ rest) (hW : (rest.map fun v => v.category).sum ≤ 8) (hdg : decode cc pc = .ok (.invokestatic index, 3)) (hf : cells ≤ R.cells ∧ slots ≤ R.slots)
    (kk : ∀ (H1 : Heap) (locs1 : List Loc), Wd D cA z μ' H1 → va_S (Az z) H0 H1 locs1 → W p l e R s m args below meth c H1 locs1 cells slots Q (F0 m (pc + 3) ls (w :: rest))) : W p l e R s m args below meth c H locs cells slots Q (F0 m pc ls st0) :=
  rc_N As S hK hd hS hM cw hn hsize hst hW hdg hf kk
theorem rt_i {v : Int32} (hexec : p.tables.exec = Jvm.exec) (hb : c.code = cc) (hr : meth.sig.returnType = some .int) (hlk : meth.locks = false) (hd : Wd D cA z μ H) (hS : va_S (Az z) s.heap H locs) (hdg : decode cc pc = .ok (.ireturn, 1)) : W p l e R s m args below meth c H locs cells slots (MQ below (QQ D cA z (some (.int v)) μ) args s cells slots (Az z)) (F0 m pc ls [.int v]) :=
  W.iret hexec hb hr (fun t ht _ => ⟨rfl, by rw [ht]; exact hd, hS.F ht⟩) hS.2.2 hdg hlk
theorem rt_z {v : Int32} (hexec : p.tables.exec = Jvm.exec) (hb : c.code = cc) (hr : meth.sig.returnType = some .boolean) (hn : narrow .boolean (.int v) = .int v) (hlk : meth.locks = false) (hd : Wd D cA z μ H) (hS : va_S (Az z) s.heap H locs) (hdg : decode cc pc = .ok (.ireturn, 1)) : W p l e R s m args below meth c H locs cells slots (MQ below (QQ D cA z (some (.int v)) μ) args s cells slots (Az z)) (F0 m pc ls [.int v]) :=
  W.zret hexec hb hr hn (fun t ht _ => ⟨rfl, by rw [ht]; exact hd, hS.F ht⟩) hS.2.2 hdg hlk
theorem rt_v (hexec : p.tables.exec = Jvm.exec) (hb : c.code = cc) (hr : meth.sig.returnType = none) (hlk : meth.locks = false) (hd : Wd D cA z μ H) (hS : va_S (Az z) s.heap H locs) (hdg : decode cc pc = .ok (.return_, 1)) : W p l e R s m args below meth c H locs cells slots (MQ below (QQ D cA z none μ) args s cells slots (Az z)) (F0 m pc ls []) :=
  W.vret hexec hb hr (fun t ht _ => ⟨rfl, by rw [ht]; exact hd, hS.F ht⟩) hS.2.2 hdg hlk
theorem rt_a {v : Value} {rt : FieldType} (hexec : p.tables.exec = Jvm.exec) (hb : c.code = cc) (hr : meth.sig.returnType = some rt) (hrt : ∃ n, rt = .object n) (hv : v = .null ∨ ∃ a, v = .ref a) (hlk : meth.locks = false) (hd : Wd D cA z μ H) (hS : va_S (Az z) s.heap H locs) (hdg : decode cc pc = .ok (.areturn, 1)) : W p l e R s m args below meth c H locs cells slots (MQ below (QQ D cA z (some v) μ) args s cells slots (Az z)) (F0 m pc ls [v]) :=
  W.aret hexec hb hr (Or.inl hrt) hv (fun t ht _ => ⟨rfl, by rw [ht]; exact hd, hS.F ht⟩) hS.2.2 hdg hlk
end RW
/-! what a method does to the store, as a function: none where the machine itself would throw, or where the fuel of a loop is used up -/
def FU : Nat := 1000
def gd {α : Type} (b : Bool) (k : Option α) : Option α := if b = true then k else none
def bI {α : Type} (x : Int32) (k : Int32 → Option α) : Option α := k x
def bL {α : Type} (x : Int64) (k : Int64 → Option α) : Option α := k x
def bR {α : Type} (o : Option Nat) (k : Nat → Option α) : Option α := o.bind k
def bC {α β : Type} (x : Option (β × Mm)) (k : β → Mm → Option α) : Option α := x.bind (fun q => k q.1 q.2)
def bM {α : Type} (μ : Mm) (k : Mm → Option α) : Option α := k μ
def bV {α : Type} (x : Option Mm) (k : Mm → Option α) : Option α := x.bind k
def bN {α : Type} (o : Option Nat) (kn : Option α) (ks : Nat → Option α) : Option α := match o with
  | none => kn
  | some b => ks b
def ckb (i : Int32) (n : Nat) : Bool := !(decide (i < 0)) && decide (i.toNatClampNeg < n)
def ck0 (y : Int32) : Bool := !(decide (y = 0))
def ck0L (y : Int64) : Bool := !(decide (y = 0))
def ckz (y : Int32) : Bool := decide (y = 0) || decide (y = 1)
theorem gd_e {α : Type} {b : Bool} {k : Option α} {y : α} (h : gd b k = some y) : b = true ∧ k = some y := by
  cases b with
  | false => cases h
  | true => exact ⟨rfl, h⟩
theorem bI_e {α : Type} {x x' : Int32} {k : Int32 → Option α} {y : α} (hx : x' = x) (h : bI x k = some y) : k x' = some y := by
  subst hx
  exact h
theorem bL_e {α : Type} {x x' : Int64} {k : Int64 → Option α} {y : α} (hx : x' = x) (h : bL x k = some y) : k x' = some y := by
  subst hx
  exact h
theorem bR_e {α : Type} {o : Option Nat} {k : Nat → Option α} {y : α} (h : bR o k = some y) : ∃ b, o = some b ∧ k b = some y := by
  cases o with
  | none => cases h
  | some b => exact ⟨b, rfl, h⟩
theorem bC_e {α β : Type} {x : Option (β × Mm)} {k : β → Mm → Option α} {y : α} (h : bC x k = some y) : ∃ r μ, x = some (r, μ) ∧ k r μ = some y := by
  cases x with
  | none => cases h
  | some b => exact ⟨b.1, b.2, rfl, h⟩
theorem bV_e {α : Type} {x : Option Mm} {k : Mm → Option α} {y : α} (h : bV x k = some y) : ∃ μ, x = some μ ∧ k μ = some y := by
  cases x with
  | none => cases h
  | some b => exact ⟨b, rfl, h⟩
theorem if_y {α : Type} {c : Prop} [Decidable c] {a b : Option α} {y : α} (hc : c) (h : (if c then a else b) = some y) : a = some y := (if_pos hc).symm.trans h
theorem if_n {α : Type} {c : Prop} [Decidable c] {a b : Option α} {y : α} (hc : ¬ c) (h : (if c then a else b) = some y) : b = some y := (if_neg hc).symm.trans h
theorem so_e {β : Type} {r r' : β} {μ μ' : Mm} (h : some (r, μ) = some (r', μ')) : r' = r ∧ μ' = μ := by
  cases h
  exact ⟨rfl, rfl⟩
theorem sv_e {μ μ' : Mm} (h : some μ = some μ') : μ' = μ := by
  cases h
  rfl
theorem ckb_in {i : Int32} {n : Nat} (h : ckb i n = true) : vp_in i n := by
  unfold ckb at h
  simp only [Bool.and_eq_true, Bool.not_eq_true', decide_eq_false_iff_not, decide_eq_true_eq] at h
  intro q
  rcases q with q | q
  · exact h.1 q
  · omega
theorem ck0_ne {y : Int32} (h : ck0 y = true) : ¬ y = 0 := by
  simpa [ck0] using h
theorem ck0L_ne {y : Int64} (h : ck0L y = true) : ¬ y = 0 := by
  simpa [ck0L] using h
theorem ckz_nar {y : Int32} (h : ckz y = true) : narrow .boolean (.int y) = .int y := by
  have h' : y = 0 ∨ y = 1 := by simpa [ckz] using h
  rcases h' with rfl | rfl <;> rfl
theorem bM_e {α : Type} {x x' : Mm} {k : Mm → Option α} {y : α} (hx : x' = x) (h : bM x k = some y) : k x' = some y := by
  subst hx
  exact h
theorem bN_e {α : Type} {o : Option Nat} {kn : Option α} {ks : Nat → Option α} {y : α} (h : bN o kn ks = some y) : (o = none ∧ kn = some y) ∨ ∃ b, o = some b ∧ ks b = some y := by
  cases o with
  | none => exact Or.inl ⟨rfl, h⟩
  | some b => exact Or.inr ⟨b, rfl, h⟩
theorem sw_out {x : Int32} (l n : Nat) {lo hi : Int} (hlo : lo = (l : Int)) (hhi : hi + 1 = (l : Int) + (n : Int)) (hb : l + n < 2147483648) (h : ∀ k, k < n → ¬ x = nI (l + k)) : x.toInt < lo ∨ hi < x.toInt := by
  by_cases h1 : x.toInt < lo
  · exact Or.inl h1
  · by_cases h2 : hi < x.toInt
    · exact Or.inr h2
    · exfalso
      refine h (x.toInt - l).toNat (by omega) ?_
      apply Int32.toInt_inj.mp
      rw [nI_toInt (by omega)]
      omega
theorem fs_0_0 : decide (0 < 11 ∧ 0 < 4 ∧ nf 0 = 4 ∧ isr 0 0 = true) = true := by decide
theorem fs_0_1 : decide (0 < 11 ∧ 1 < 4 ∧ nf 0 = 4 ∧ isr 0 1 = true) = true := by decide
theorem fs_0_2 : decide (0 < 11 ∧ 2 < 4 ∧ nf 0 = 4 ∧ isr 0 2 = false) = true := by decide
theorem fs_0_3 : decide (0 < 11 ∧ 3 < 4 ∧ nf 0 = 4 ∧ isr 0 3 = false) = true := by decide
theorem fs_1_0 : decide (1 < 11 ∧ 0 < 1 ∧ nf 1 = 1 ∧ isr 1 0 = false) = true := by decide
theorem fs_2_0 : decide (2 < 11 ∧ 0 < 5 ∧ nf 2 = 5 ∧ isr 2 0 = true) = true := by decide
theorem fs_2_1 : decide (2 < 11 ∧ 1 < 5 ∧ nf 2 = 5 ∧ isr 2 1 = true) = true := by decide
theorem fs_2_2 : decide (2 < 11 ∧ 2 < 5 ∧ nf 2 = 5 ∧ isr 2 2 = true) = true := by decide
theorem fs_2_3 : decide (2 < 11 ∧ 3 < 5 ∧ nf 2 = 5 ∧ isr 2 3 = false) = true := by decide
theorem fs_2_4 : decide (2 < 11 ∧ 4 < 5 ∧ nf 2 = 5 ∧ isr 2 4 = false) = true := by decide
theorem fs_3_0 : decide (3 < 11 ∧ 0 < 3 ∧ nf 3 = 3 ∧ isr 3 0 = true) = true := by decide
theorem fs_3_1 : decide (3 < 11 ∧ 1 < 3 ∧ nf 3 = 3 ∧ isr 3 1 = false) = true := by decide
theorem fs_3_2 : decide (3 < 11 ∧ 2 < 3 ∧ nf 3 = 3 ∧ isr 3 2 = false) = true := by decide
theorem fs_4_0 : decide (4 < 11 ∧ 0 < 11 ∧ nf 4 = 11 ∧ isr 4 0 = false) = true := by decide
theorem fs_4_1 : decide (4 < 11 ∧ 1 < 11 ∧ nf 4 = 11 ∧ isr 4 1 = false) = true := by decide
theorem fs_4_2 : decide (4 < 11 ∧ 2 < 11 ∧ nf 4 = 11 ∧ isr 4 2 = false) = true := by decide
theorem fs_4_3 : decide (4 < 11 ∧ 3 < 11 ∧ nf 4 = 11 ∧ isr 4 3 = false) = true := by decide
theorem fs_4_4 : decide (4 < 11 ∧ 4 < 11 ∧ nf 4 = 11 ∧ isr 4 4 = false) = true := by decide
theorem fs_4_5 : decide (4 < 11 ∧ 5 < 11 ∧ nf 4 = 11 ∧ isr 4 5 = false) = true := by decide
theorem fs_4_6 : decide (4 < 11 ∧ 6 < 11 ∧ nf 4 = 11 ∧ isr 4 6 = true) = true := by decide
theorem fs_4_7 : decide (4 < 11 ∧ 7 < 11 ∧ nf 4 = 11 ∧ isr 4 7 = true) = true := by decide
theorem fs_4_8 : decide (4 < 11 ∧ 8 < 11 ∧ nf 4 = 11 ∧ isr 4 8 = true) = true := by decide
theorem fs_4_9 : decide (4 < 11 ∧ 9 < 11 ∧ nf 4 = 11 ∧ isr 4 9 = true) = true := by decide
theorem fs_4_10 : decide (4 < 11 ∧ 10 < 11 ∧ nf 4 = 11 ∧ isr 4 10 = true) = true := by decide
theorem fs_5_0 : decide (5 < 11 ∧ 0 < 3 ∧ nf 5 = 3 ∧ isr 5 0 = true) = true := by decide
theorem fs_5_1 : decide (5 < 11 ∧ 1 < 3 ∧ nf 5 = 3 ∧ isr 5 1 = false) = true := by decide
theorem fs_5_2 : decide (5 < 11 ∧ 2 < 3 ∧ nf 5 = 3 ∧ isr 5 2 = false) = true := by decide
theorem fs_6_0 : decide (6 < 11 ∧ 0 < 6 ∧ nf 6 = 6 ∧ isr 6 0 = true) = true := by decide
theorem fs_6_1 : decide (6 < 11 ∧ 1 < 6 ∧ nf 6 = 6 ∧ isr 6 1 = true) = true := by decide
theorem fs_6_2 : decide (6 < 11 ∧ 2 < 6 ∧ nf 6 = 6 ∧ isr 6 2 = true) = true := by decide
theorem fs_6_3 : decide (6 < 11 ∧ 3 < 6 ∧ nf 6 = 6 ∧ isr 6 3 = true) = true := by decide
theorem fs_6_4 : decide (6 < 11 ∧ 4 < 6 ∧ nf 6 = 6 ∧ isr 6 4 = false) = true := by decide
theorem fs_6_5 : decide (6 < 11 ∧ 5 < 6 ∧ nf 6 = 6 ∧ isr 6 5 = false) = true := by decide
theorem fs_7_0 : decide (7 < 11 ∧ 0 < 6 ∧ nf 7 = 6 ∧ isr 7 0 = true) = true := by decide
theorem fs_7_1 : decide (7 < 11 ∧ 1 < 6 ∧ nf 7 = 6 ∧ isr 7 1 = false) = true := by decide
theorem fs_7_2 : decide (7 < 11 ∧ 2 < 6 ∧ nf 7 = 6 ∧ isr 7 2 = false) = true := by decide
theorem fs_7_3 : decide (7 < 11 ∧ 3 < 6 ∧ nf 7 = 6 ∧ isr 7 3 = false) = true := by decide
theorem fs_7_4 : decide (7 < 11 ∧ 4 < 6 ∧ nf 7 = 6 ∧ isr 7 4 = false) = true := by decide
theorem fs_7_5 : decide (7 < 11 ∧ 5 < 6 ∧ nf 7 = 6 ∧ isr 7 5 = false) = true := by decide
theorem fs_8_0 : decide (8 < 11 ∧ 0 < 2 ∧ nf 8 = 2 ∧ isr 8 0 = true) = true := by decide
theorem fs_8_1 : decide (8 < 11 ∧ 1 < 2 ∧ nf 8 = 2 ∧ isr 8 1 = false) = true := by decide
theorem fs_9_0 : decide (9 < 11 ∧ 0 < 13 ∧ nf 9 = 13 ∧ isr 9 0 = true) = true := by decide
theorem fs_9_1 : decide (9 < 11 ∧ 1 < 13 ∧ nf 9 = 13 ∧ isr 9 1 = true) = true := by decide
theorem fs_9_2 : decide (9 < 11 ∧ 2 < 13 ∧ nf 9 = 13 ∧ isr 9 2 = true) = true := by decide
theorem fs_9_3 : decide (9 < 11 ∧ 3 < 13 ∧ nf 9 = 13 ∧ isr 9 3 = false) = true := by decide
theorem fs_9_4 : decide (9 < 11 ∧ 4 < 13 ∧ nf 9 = 13 ∧ isr 9 4 = true) = true := by decide
theorem fs_9_5 : decide (9 < 11 ∧ 5 < 13 ∧ nf 9 = 13 ∧ isr 9 5 = true) = true := by decide
theorem fs_9_6 : decide (9 < 11 ∧ 6 < 13 ∧ nf 9 = 13 ∧ isr 9 6 = true) = true := by decide
theorem fs_9_7 : decide (9 < 11 ∧ 7 < 13 ∧ nf 9 = 13 ∧ isr 9 7 = true) = true := by decide
theorem fs_9_8 : decide (9 < 11 ∧ 8 < 13 ∧ nf 9 = 13 ∧ isr 9 8 = true) = true := by decide
theorem fs_9_9 : decide (9 < 11 ∧ 9 < 13 ∧ nf 9 = 13 ∧ isr 9 9 = true) = true := by decide
theorem fs_9_10 : decide (9 < 11 ∧ 10 < 13 ∧ nf 9 = 13 ∧ isr 9 10 = true) = true := by decide
theorem fs_9_11 : decide (9 < 11 ∧ 11 < 13 ∧ nf 9 = 13 ∧ isr 9 11 = true) = true := by decide
theorem fs_9_12 : decide (9 < 11 ∧ 12 < 13 ∧ nf 9 = 13 ∧ isr 9 12 = true) = true := by decide
theorem fs_10_0 : decide (10 < 11 ∧ 0 < 39 ∧ nf 10 = 39 ∧ isr 10 0 = false) = true := by decide
theorem fs_10_1 : decide (10 < 11 ∧ 1 < 39 ∧ nf 10 = 39 ∧ isr 10 1 = false) = true := by decide
theorem fs_10_2 : decide (10 < 11 ∧ 2 < 39 ∧ nf 10 = 39 ∧ isr 10 2 = true) = true := by decide
theorem fs_10_3 : decide (10 < 11 ∧ 3 < 39 ∧ nf 10 = 39 ∧ isr 10 3 = false) = true := by decide
theorem fs_10_4 : decide (10 < 11 ∧ 4 < 39 ∧ nf 10 = 39 ∧ isr 10 4 = true) = true := by decide
theorem fs_10_5 : decide (10 < 11 ∧ 5 < 39 ∧ nf 10 = 39 ∧ isr 10 5 = true) = true := by decide
theorem fs_10_6 : decide (10 < 11 ∧ 6 < 39 ∧ nf 10 = 39 ∧ isr 10 6 = true) = true := by decide
theorem fs_10_7 : decide (10 < 11 ∧ 7 < 39 ∧ nf 10 = 39 ∧ isr 10 7 = false) = true := by decide
theorem fs_10_8 : decide (10 < 11 ∧ 8 < 39 ∧ nf 10 = 39 ∧ isr 10 8 = true) = true := by decide
theorem fs_10_9 : decide (10 < 11 ∧ 9 < 39 ∧ nf 10 = 39 ∧ isr 10 9 = false) = true := by decide
theorem fs_10_10 : decide (10 < 11 ∧ 10 < 39 ∧ nf 10 = 39 ∧ isr 10 10 = true) = true := by decide
theorem fs_10_11 : decide (10 < 11 ∧ 11 < 39 ∧ nf 10 = 39 ∧ isr 10 11 = false) = true := by decide
theorem fs_10_12 : decide (10 < 11 ∧ 12 < 39 ∧ nf 10 = 39 ∧ isr 10 12 = false) = true := by decide
theorem fs_10_13 : decide (10 < 11 ∧ 13 < 39 ∧ nf 10 = 39 ∧ isr 10 13 = false) = true := by decide
theorem fs_10_14 : decide (10 < 11 ∧ 14 < 39 ∧ nf 10 = 39 ∧ isr 10 14 = false) = true := by decide
theorem fs_10_15 : decide (10 < 11 ∧ 15 < 39 ∧ nf 10 = 39 ∧ isr 10 15 = false) = true := by decide
theorem fs_10_16 : decide (10 < 11 ∧ 16 < 39 ∧ nf 10 = 39 ∧ isr 10 16 = true) = true := by decide
theorem fs_10_17 : decide (10 < 11 ∧ 17 < 39 ∧ nf 10 = 39 ∧ isr 10 17 = true) = true := by decide
theorem fs_10_18 : decide (10 < 11 ∧ 18 < 39 ∧ nf 10 = 39 ∧ isr 10 18 = false) = true := by decide
theorem fs_10_19 : decide (10 < 11 ∧ 19 < 39 ∧ nf 10 = 39 ∧ isr 10 19 = false) = true := by decide
theorem fs_10_20 : decide (10 < 11 ∧ 20 < 39 ∧ nf 10 = 39 ∧ isr 10 20 = true) = true := by decide
theorem fs_10_21 : decide (10 < 11 ∧ 21 < 39 ∧ nf 10 = 39 ∧ isr 10 21 = true) = true := by decide
theorem fs_10_22 : decide (10 < 11 ∧ 22 < 39 ∧ nf 10 = 39 ∧ isr 10 22 = true) = true := by decide
theorem fs_10_23 : decide (10 < 11 ∧ 23 < 39 ∧ nf 10 = 39 ∧ isr 10 23 = false) = true := by decide
theorem fs_10_24 : decide (10 < 11 ∧ 24 < 39 ∧ nf 10 = 39 ∧ isr 10 24 = true) = true := by decide
theorem fs_10_25 : decide (10 < 11 ∧ 25 < 39 ∧ nf 10 = 39 ∧ isr 10 25 = true) = true := by decide
theorem fs_10_26 : decide (10 < 11 ∧ 26 < 39 ∧ nf 10 = 39 ∧ isr 10 26 = true) = true := by decide
theorem fs_10_27 : decide (10 < 11 ∧ 27 < 39 ∧ nf 10 = 39 ∧ isr 10 27 = false) = true := by decide
theorem fs_10_28 : decide (10 < 11 ∧ 28 < 39 ∧ nf 10 = 39 ∧ isr 10 28 = true) = true := by decide
theorem fs_10_29 : decide (10 < 11 ∧ 29 < 39 ∧ nf 10 = 39 ∧ isr 10 29 = true) = true := by decide
theorem fs_10_30 : decide (10 < 11 ∧ 30 < 39 ∧ nf 10 = 39 ∧ isr 10 30 = false) = true := by decide
theorem fs_10_31 : decide (10 < 11 ∧ 31 < 39 ∧ nf 10 = 39 ∧ isr 10 31 = true) = true := by decide
theorem fs_10_32 : decide (10 < 11 ∧ 32 < 39 ∧ nf 10 = 39 ∧ isr 10 32 = true) = true := by decide
theorem fs_10_33 : decide (10 < 11 ∧ 33 < 39 ∧ nf 10 = 39 ∧ isr 10 33 = true) = true := by decide
theorem fs_10_34 : decide (10 < 11 ∧ 34 < 39 ∧ nf 10 = 39 ∧ isr 10 34 = false) = true := by decide
theorem fs_10_35 : decide (10 < 11 ∧ 35 < 39 ∧ nf 10 = 39 ∧ isr 10 35 = true) = true := by decide
theorem fs_10_36 : decide (10 < 11 ∧ 36 < 39 ∧ nf 10 = 39 ∧ isr 10 36 = true) = true := by decide
theorem fs_10_37 : decide (10 < 11 ∧ 37 < 39 ∧ nf 10 = 39 ∧ isr 10 37 = true) = true := by decide
theorem fs_10_38 : decide (10 < 11 ∧ 38 < 39 ∧ nf 10 = 39 ∧ isr 10 38 = true) = true := by decide
