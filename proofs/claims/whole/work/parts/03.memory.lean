/-! one memory for all objects of class and reference: lowest address, next address, kinds, lengths, ints, references -/
abbrev mm_M : Type := Nat × Nat × (Nat → Nat) × (Nat → Nat) × (Nat → Nat → Int32) × (Nat → Nat → Option Nat)
def mm_lo (G : mm_M) : Nat := G.1
def mm_nx (G : mm_M) : Nat := G.2.1
def mm_kd (G : mm_M) : Nat → Nat := G.2.2.1
def mm_ln (G : mm_M) : Nat → Nat := G.2.2.2.1
def mm_I (G : mm_M) : Nat → Nat → Int32 := G.2.2.2.2.1
def mm_R (G : mm_M) : Nat → Nat → Option Nat := G.2.2.2.2.2
def mm_K (G : mm_M) (a : Nat) : Nat := if mm_lo G ≤ a ∧ a < mm_nx G then mm_kd G a else 0
def mm_sI (G : mm_M) (a k : Nat) (v : Int32) : mm_M := (G.1, G.2.1, G.2.2.1, G.2.2.2.1, (fun b j => if b = a ∧ j = k then v else mm_I G b j), G.2.2.2.2.2)
def mm_sR (G : mm_M) (a k : Nat) (v : Option Nat) : mm_M := (G.1, G.2.1, G.2.2.1, G.2.2.2.1, G.2.2.2.2.1, (fun b j => if b = a ∧ j = k then v else mm_R G b j))
def mm_sA (G : mm_M) (a : Nat) (f : Nat → Int32) : mm_M := (G.1, G.2.1, G.2.2.1, G.2.2.2.1, (fun b j => if b = a then f j else mm_I G b j), G.2.2.2.2.2)
def mm_nw (G : mm_M) (kd ln : Nat) : mm_M := (G.1, G.2.1 + 1, (fun b => if b = mm_nx G then kd else mm_kd G b), (fun b => if b = mm_nx G then ln else mm_ln G b), (fun b j => if b = mm_nx G then 0 else mm_I G b j), (fun b j => if b = mm_nx G then none else mm_R G b j))
/-- a class's fields as values: a reference's slot or an int's -/
def mm_sl (G : mm_M) (a ci k : Nat) : Value := if (mm_tab ci).getD k false = true then va_rf (mm_R G a k) else .int (mm_I G a k)
def mm_fs (G : mm_M) (a ci : Nat) : List Value := (List.range (mm_tab ci).length).map (mm_sl G a ci)
def mm_cell (cs : Nat → ClassId) (G : mm_M) (a : Nat) : va_E :=
  if mm_kd G a = 101 then .inl (cs 0, mm_ln G a, .inl (mm_I G a))
  else if mm_kd G a = 102 then .inl (cs 1, mm_ln G a, .inl (mm_I G a))
  else if mm_kd G a = 103 then .inl (cs 2, mm_ln G a, .inr (.inr (.inr (.inr (mm_R G a)))))
  else if mm_kd G a = 104 then .inl (cs 3, mm_ln G a, .inr (.inr (.inr (.inr (mm_R G a)))))
  else .inr (mm_kd G a - 1, mm_fs G a (mm_kd G a - 1))
/-- what stays the same through a run: the lowest address, the array classes' numbers, the classes' numbers and slots -/
abbrev mm_E : Type := Nat × (Nat → ClassId) × va_G
def mm_A (E : mm_E) : Nat → Prop := fun q => E.1 ≤ q
def mm_H (E : mm_E) (G : mm_M) (H : Heap) : Prop := mm_lo G = E.1 ∧ H.size = mm_nx G ∧ E.1 ≤ H.size ∧ (∀ a, mm_lo G ≤ a → a < mm_nx G → va_at E.2.2 vwCl (a, mm_cell E.2.1 G a) H)
abbrev mm_V (E : mm_E) (s : State) (G : mm_M) (H : Heap) (locs : List Loc) : Prop := mm_H E G H ∧ va_S (mm_A E) s.heap H locs
abbrev mm_X (p : Program) (s : State) (m : MethodId) (args : Array Value) (meth : Method) (c : Code) (cc : ByteArray) (nL : Nat) (own : String) (Ts : List Cond) (E : mm_E) : Prop :=
  CallFix p m c cc nL s args Ts own ∧ va_K E.2.2 vwCl (mm_tys E.2.1) s ∧ meth.locks = false ∧ E.1 ≤ s.heap.size ∧ va_AO "XorOverlay$Peer" s ∧ va_AO "XorOverlay$Bucket" s
theorem mm_K_pos {G : mm_M} {a k : Nat} (h : mm_K G a = k) (hk : k ≠ 0) : mm_lo G ≤ a ∧ a < mm_nx G ∧ mm_kd G a = k := by
  unfold mm_K at h
  split at h
  · rename_i h1; exact ⟨h1.1, h1.2, h⟩
  · exact absurd h.symm hk
theorem mm_fs_at {G : mm_M} {a ci k : Nat} (h : k < (mm_tab ci).length) : (mm_fs G a ci)[k]? = some (mm_sl G a ci k) := by
  unfold mm_fs
  rw [List.getElem?_map, List.getElem?_range h]
  rfl
theorem mm_fs_len (G : mm_M) (a ci : Nat) : (mm_fs G a ci).length = (mm_tab ci).length := by simp [mm_fs]
theorem mm_fs_set {G G' : mm_M} {a ci k : Nat} {v : Value} (h : k < (mm_tab ci).length) (hv : mm_sl G' a ci k = v) (hb : ∀ j, j ≠ k → mm_sl G' a ci j = mm_sl G a ci j) : (mm_fs G a ci).set k v = mm_fs G' a ci := by
  apply List.ext_getElem?
  intro j
  by_cases hj : j < (mm_tab ci).length
  · rw [mm_fs_at hj]
    by_cases hk : k = j
    · subst hk
      rw [List.getElem?_set_self (by rw [mm_fs_len]; exact h), hv]
    · rw [List.getElem?_set_ne hk, mm_fs_at hj, hb j (Ne.symm hk)]
  · rw [List.getElem?_eq_none (by rw [List.length_set, mm_fs_len]; omega), List.getElem?_eq_none (by rw [mm_fs_len]; omega)]
theorem mm_cell_obj (cs : Nat → ClassId) {G : mm_M} {a ci : Nat} (h : mm_kd G a = ci + 1) (hci : ci < 100) : mm_cell cs G a = .inr (ci, mm_fs G a ci) := by
  unfold mm_cell
  rw [if_neg (by omega), if_neg (by omega), if_neg (by omega), if_neg (by omega), h]
  rfl
/-! what a write leaves as it was -/
theorem mm_cell_sI (cs : Nat → ClassId) (G : mm_M) (a k : Nat) (v : Int32) (b : Nat) (h : b ≠ a) : mm_cell cs (mm_sI G a k v) b = mm_cell cs G b := by
  have e : mm_I (mm_sI G a k v) b = mm_I G b := by funext j; simp [mm_I, mm_sI, h]
  have e2 : ∀ ci, mm_fs (mm_sI G a k v) b ci = mm_fs G b ci := by
    intro ci
    unfold mm_fs
    congr 1
    funext j
    unfold mm_sl
    rw [e]
    rfl
  unfold mm_cell
  rw [e, e2]
  rfl
theorem mm_cell_sR (cs : Nat → ClassId) (G : mm_M) (a k : Nat) (v : Option Nat) (b : Nat) (h : b ≠ a) : mm_cell cs (mm_sR G a k v) b = mm_cell cs G b := by
  have e : mm_R (mm_sR G a k v) b = mm_R G b := by funext j; simp [mm_R, mm_sR, h]
  have e2 : ∀ ci, mm_fs (mm_sR G a k v) b ci = mm_fs G b ci := by
    intro ci
    unfold mm_fs
    congr 1
    funext j
    unfold mm_sl
    rw [e]
    rfl
  unfold mm_cell
  rw [e, e2]
  rfl
theorem mm_cell_sA (cs : Nat → ClassId) (G : mm_M) (a : Nat) (f : Nat → Int32) (b : Nat) (h : b ≠ a) : mm_cell cs (mm_sA G a f) b = mm_cell cs G b := by
  have e : mm_I (mm_sA G a f) b = mm_I G b := by funext j; simp [mm_I, mm_sA, h]
  have e2 : ∀ ci, mm_fs (mm_sA G a f) b ci = mm_fs G b ci := by
    intro ci
    unfold mm_fs
    congr 1
    funext j
    unfold mm_sl
    rw [e]
    rfl
  unfold mm_cell
  rw [e, e2]
  rfl
theorem mm_cell_nw (cs : Nat → ClassId) (G : mm_M) (kd ln : Nat) (b : Nat) (h : b ≠ mm_nx G) : mm_cell cs (mm_nw G kd ln) b = mm_cell cs G b := by
  have e : mm_I (mm_nw G kd ln) b = mm_I G b := by funext j; simp [mm_I, mm_nw, h]
  have e1 : mm_R (mm_nw G kd ln) b = mm_R G b := by funext j; simp [mm_R, mm_nw, h]
  have e3 : mm_kd (mm_nw G kd ln) b = mm_kd G b := by simp [mm_kd, mm_nw, h]
  have e4 : mm_ln (mm_nw G kd ln) b = mm_ln G b := by simp [mm_ln, mm_nw, h]
  have e2 : ∀ ci, mm_fs (mm_nw G kd ln) b ci = mm_fs G b ci := by
    intro ci
    unfold mm_fs
    congr 1
    funext j
    unfold mm_sl
    rw [e, e1]
  unfold mm_cell
  rw [e, e1, e3, e4, e2]
/-- a cell is written: the new memory holds -/
theorem mm_V.wr {E : mm_E} {s : State} {G : mm_M} (G' : mm_M) {H H1 : Heap} {locs locs1 : List Loc} {a : Nat} (V : mm_V E s G H locs) (ha : mm_lo G ≤ a) (h0 : mm_lo G' = mm_lo G) (h1 : mm_nx G' = mm_nx G) (hb : ∀ b, b ≠ a → mm_cell E.2.1 G' b = mm_cell E.2.1 G b) (hz : H1.size = H.size) (oq : ∀ q : Nat, q ≠ a → H1[q]? = H[q]?) (he : va_at E.2.2 vwCl (a, mm_cell E.2.1 G' a) H1) (hl : ∀ x ∈ locs1, x ∈ locs ∨ x.base = a) : mm_V E s G' H1 locs1 := by
  obtain ⟨⟨g1, g2, g3, g4⟩, hS⟩ := V
  have hA : mm_A E a := by show E.1 ≤ a; omega
  refine ⟨⟨h0.trans g1, by rw [hz, g2, h1], by rw [hz]; exact g3, fun b hb1 hb2 => ?_⟩, by rw [hz]; exact hS.1, fun q q1 q2 => ?_, fun x hx => ?_⟩
  · by_cases hba : b = a
    · subst hba; exact he
    · rw [hb b hba]
      exact (g4 b (by omega) (by omega)).kept (oq b hba)
  · rw [oq q (fun e => q2 (by rw [e]; exact hA))]
    exact hS.2.1 q q1 q2
  · rcases hl x hx with h | h
    · exact hS.2.2 x h
    · rw [h]; exact hA
/-- a cell is made: the new memory holds -/
theorem mm_V.nw {E : mm_E} {s : State} {G : mm_M} (kd ln : Nat) {H H1 : Heap} {locs : List Loc} (V : mm_V E s G H locs) (hz : H1.size = H.size + 1) (oq : ∀ q : Nat, q < H.size → H1[q]? = H[q]?) (he : va_at E.2.2 vwCl (mm_nx G, mm_cell E.2.1 (mm_nw G kd ln) (mm_nx G)) H1) : mm_V E s (mm_nw G kd ln) H1 locs := by
  obtain ⟨⟨g1, g2, g3, g4⟩, hS⟩ := V
  have e1 : mm_nx (mm_nw G kd ln) = mm_nx G + 1 := rfl
  have e2 : mm_lo (mm_nw G kd ln) = mm_lo G := rfl
  refine ⟨⟨e2.trans g1, by rw [hz, g2, e1], by omega, fun b hb1 hb2 => ?_⟩, by have := hS.1; omega, fun q q1 q2 => ?_, hS.2.2⟩
  · by_cases hba : b = mm_nx G
    · subst hba; exact he
    · rw [mm_cell_nw _ _ _ _ _ hba]
      rw [e1] at hb2
      rw [e2] at hb1
      exact (g4 b hb1 (by omega)).kept (oq b (by omega))
  · rw [oq q (by have := hS.1; omega)]
    exact hS.2.1 q q1 q2
theorem mm_H.one {E : mm_E} {G : mm_M} {H : Heap} {a k : Nat} (h : mm_H E G H) (hk : mm_K G a = k) (h0 : k ≠ 0) : va_at E.2.2 vwCl (a, mm_cell E.2.1 G a) H := by
  obtain ⟨h1, h2, -⟩ := mm_K_pos hk h0
  exact h.2.2.2 a h1 h2
theorem mm_P1 {D : va_G} {cl : List vw_C} {q : Nat × va_E} {H : Heap} (h : va_at D cl q H) : va_P D cl [q] H := by
  intro k x hx
  have hz : k < 1 := (List.getElem?_eq_some_iff.mp hx).1
  rw [show k = 0 by omega] at hx
  cases hx
  exact h
/-! the programs' own words: what an instruction reads and writes of the memory, or no answer -/
def q_gI {α : Type} (G : mm_M) (a kd k : Nat) (f : Int32 → Option α) : Option α := if mm_K G a = kd then f (mm_I G a k) else none
def q_gR {α : Type} (G : mm_M) (a kd k : Nat) (f : Option Nat → Option α) : Option α := if mm_K G a = kd then f (mm_R G a k) else none
def q_pI {α : Type} (G : mm_M) (a kd k : Nat) (v : Int32) (f : mm_M → Option α) : Option α := if mm_K G a = kd then f (mm_sI G a k v) else none
def q_pR {α : Type} (G : mm_M) (a kd k : Nat) (v : Option Nat) (f : mm_M → Option α) : Option α := if mm_K G a = kd then f (mm_sR G a k v) else none
def q_aI {α : Type} (G : mm_M) (a kd : Nat) (i : Int32) (f : Int32 → Option α) : Option α := if mm_K G a = kd ∧ 0 ≤ i.toInt ∧ i.toInt < mm_ln G a then f (mm_I G a i.toInt.toNat) else none
def q_aR {α : Type} (G : mm_M) (a kd : Nat) (i : Int32) (f : Option Nat → Option α) : Option α := if mm_K G a = kd ∧ 0 ≤ i.toInt ∧ i.toInt < mm_ln G a then f (mm_R G a i.toInt.toNat) else none
def q_sI {α : Type} (G : mm_M) (a kd : Nat) (i v : Int32) (f : mm_M → Option α) : Option α := if mm_K G a = kd ∧ 0 ≤ i.toInt ∧ i.toInt < mm_ln G a then f (mm_sI G a i.toInt.toNat v) else none
def q_sZ {α : Type} (G : mm_M) (a kd : Nat) (i v : Int32) (f : mm_M → Option α) : Option α := if (mm_K G a = kd ∧ 0 ≤ i.toInt ∧ i.toInt < mm_ln G a) ∧ (v = 0 ∨ v = 1) then f (mm_sI G a i.toInt.toNat v) else none
def q_sR {α : Type} (G : mm_M) (a kd ke : Nat) (i : Int32) (v : Option Nat) (f : mm_M → Option α) : Option α := if (mm_K G a = kd ∧ 0 ≤ i.toInt ∧ i.toInt < mm_ln G a) ∧ (∀ b, v = some b → mm_K G b = ke) then f (mm_sR G a i.toInt.toNat v) else none
def q_len {α : Type} (G : mm_M) (a kd : Nat) (f : Int32 → Option α) : Option α := if mm_K G a = kd then f (Int32.ofNat (mm_ln G a)) else none
def q_new {α : Type} (G : mm_M) (kd : Nat) (f : mm_M → Nat → Option α) : Option α := f (mm_nw G kd 0) (mm_nx G)
def q_arr {α : Type} (G : mm_M) (kd n : Nat) (f : mm_M → Nat → Option α) : Option α := f (mm_nw G kd n) (mm_nx G)
def q_cpy {α : Type} (G : mm_M) (a : Nat) (sp : Int32) (b : Nat) (dp n : Int32) (f : mm_M → Option α) : Option α :=
  if (mm_K G a = 101 ∧ mm_K G b = 101) ∧ (0 ≤ sp.toInt ∧ 0 ≤ dp.toInt ∧ 0 ≤ n.toInt) ∧ sp.toInt + n.toInt ≤ mm_ln G a ∧ dp.toInt + n.toInt ≤ mm_ln G b then f (mm_sA G b (va_cpy (mm_I G a) (mm_I G b) sp.toInt.toNat dp.toInt.toNat n.toInt.toNat)) else none
def q_nn {α : Type} (r : Option Nat) (f : Nat → Option α) : Option α := match r with
  | none => none
  | some b => f b
def q_op {α : Type} (r : Option Nat) (g : Option α) (f : Nat → Option α) : Option α := match r with
  | none => g
  | some b => f b
def q_is {α : Type} (G : mm_M) (a kd : Nat) (f : Option α) : Option α := if mm_K G a = kd then f else none
def q_nz {α : Type} (y : Int32) (f : Option α) : Option α := if y = 0 then none else f
def q_bit {α : Type} (y : Int32) (f : Option α) : Option α := if y = 0 ∨ y = 1 then f else none
theorem q_if {α : Type} {P : Prop} [Decidable P] {x y : Option α} {r : α} {X1 X2 X : Prop} (hp : (if P then x else y) = some r) (f : (P → X1) → (¬ P → X2) → X) (k1 : x = some r → X1) (k2 : y = some r → X2) : X := f (fun h => k1 (by rwa [if_pos h] at hp)) (fun h => k2 (by rwa [if_neg h] at hp))
theorem q_pos {α : Type} {P : Prop} [Decidable P] {x : Option α} {r : α} (hp : (if P then x else none) = some r) : P ∧ x = some r := by
  by_cases h : P
  · rw [if_pos h] at hp; exact ⟨h, hp⟩
  · rw [if_neg h] at hp; cases hp
theorem q_nz_of {α : Type} {y : Int32} {x : Option α} {r : α} (hp : q_nz y x = some r) : ¬ y = 0 ∧ x = some r := by
  unfold q_nz at hp
  by_cases h : y = 0
  · rw [if_pos h] at hp; cases hp
  · rw [if_neg h] at hp; exact ⟨h, hp⟩
theorem q_nn_of {α : Type} {y : Option Nat} {f : Nat → Option α} {r : α} (hp : q_nn y f = some r) : ∃ b, y = some b ∧ f b = some r := by
  cases y with
  | none => cases hp
  | some b => exact ⟨b, rfl, hp⟩
theorem q_bit_of {α : Type} {y : Int32} {x : Option α} {r : α} (hp : q_bit y x = some r) : narrow .boolean (.int y) = .int y ∧ x = some r := by
  obtain ⟨h, h2⟩ := q_pos hp
  refine ⟨?_, h2⟩
  rcases h with rfl | rfl <;> rfl
theorem q_bind_of {α β : Type} {x : Option α} {f : α → Option β} {r : β} (hp : x.bind f = some r) : ∃ y, x = some y ∧ f y = some r := by
  cases x with
  | none => cases hp
  | some y => exact ⟨y, rfl, hp⟩
theorem mm_in {i : Int32} {n : Nat} (h1 : 0 ≤ i.toInt) (h2 : i.toInt < n) : vp_in i n := by
  intro h
  rcases h with h | h
  · have := Int32.lt_iff_toInt_lt.mp h
    have e0 : (0 : Int32).toInt = 0 := rfl
    omega
  · have e0 : i.toNatClampNeg = i.toInt.toNat := rfl
    omega
theorem mm_nl {i : Int32} (h1 : 0 ≤ i.toInt) : ¬ i < 0 := by
  intro h
  have := Int32.lt_iff_toInt_lt.mp h
  have e0 : (0 : Int32).toInt = 0 := rfl
  omega
theorem va_rf_cat (r : Option Nat) : (va_rf r).category = 1 := by cases r <;> rfl
theorem va_int_cat (x : Int32) : (Value.int x).category = 1 := rfl
theorem va_rf_narrow (C : String) (r : Option Nat) : narrow (.object C) (va_rf r) = va_rf r := by cases r <;> rfl
theorem va_rf_fits (C : String) (r : Option Nat) : fits (.object C) (va_rf r) = true := by cases r <;> rfl
theorem va_rf_narrowA (C : FieldType) (r : Option Nat) : narrow (.array C) (va_rf r) = va_rf r := by cases r <;> rfl
theorem va_rf_fitsA (C : FieldType) (r : Option Nat) : fits (.array C) (va_rf r) = true := by cases r <;> rfl
theorem mm_sl_I {G : mm_M} {a ci k : Nat} (ht : (mm_tab ci)[k]? = some false) : mm_sl G a ci k = .int (mm_I G a k) := by
  unfold mm_sl
  rw [if_neg]
  simp [List.getD, ht]
theorem mm_sl_R {G : mm_M} {a ci k : Nat} (ht : (mm_tab ci)[k]? = some true) : mm_sl G a ci k = va_rf (mm_R G a k) := by
  unfold mm_sl
  rw [if_pos]
  simp [List.getD, ht]
section QROW
variable {p : Program} {l : Launch} {e : Env} {R : Room} {s : State} {m : MethodId} {args : Array Value} {below : List Frame} {meth : Method} {c : Code} {H : Heap} {locs : List Loc} {cells slots : Nat} {Q : State → Prop}
variable {cc : ByteArray} {pc nL : Nat} {ls : Array Slot} {rest : List Value} {own : String} {Ts : List Cond} {E : mm_E} {G : mm_M} {α : Type} {res : α}
theorem q_aload_n {k : Fin 4} {i : Nat} (r : Option Nat) (X : mm_X p s m args meth c cc nL own Ts E) (hdg : decode cc pc = .ok (.aload_n k, 1)) (hi : (k : Nat) = i) (hl : ls[i]? = some (.val (va_rf r)))
    (kk : W p l e R s m args below meth c H locs cells slots Q (F0 m (pc + 1) ls (va_rf r :: rest))) : W p l e R s m args below meth c H locs cells slots Q (F0 m pc ls rest) := by
  cases r with
  | none => exact lv_aload_nN X.1.1 X.1.2.1 hdg hi hl kk
  | some a => exact lv_aload_n X.1.1 X.1.2.1 hdg hi hl kk
theorem q_aload {i : Nat} (r : Option Nat) (X : mm_X p s m args meth c cc nL own Ts E) (hdg : decode cc pc = .ok (.aload i, 2)) (hl : ls[i]? = some (.val (va_rf r)))
    (kk : W p l e R s m args below meth c H locs cells slots Q (F0 m (pc + 2) ls (va_rf r :: rest))) : W p l e R s m args below meth c H locs cells slots Q (F0 m pc ls rest) := by
  cases r with
  | none => exact lv_aloadN X.1.1 X.1.2.1 hdg hl kk
  | some a => exact lv_aload X.1.1 X.1.2.1 hdg hl kk
theorem q_astore_n {k : Fin 4} {i nL' : Nat} (r : Option Nat) {lv lv' : List (Nat × Value)} (X : mm_X p s m args meth c cc nL own Ts E) (hdg : decode cc pc = .ok (.astore_n k, 1)) (hi : (k : Nat) = i) (h : lv_has ls nL' lv) (hn : i < nL') (hl : (i, va_rf r) :: lv.filter (fun q => !(q.1 == i) && !(q.1 + 1 == i && q.2.category == 2)) = lv')
    (kk : ∀ ls' : Array Slot, lv_has ls' nL' lv' → W p l e R s m args below meth c H locs cells slots Q (F0 m (pc + 1) ls' rest)) : W p l e R s m args below meth c H locs cells slots Q (F0 m pc ls (va_rf r :: rest)) := by
  cases r with
  | none => exact lv_astore_nN X.1.1 X.1.2.1 hdg hi h hn hl kk
  | some a => exact lv_astore_n X.1.1 X.1.2.1 hdg hi h hn hl kk
theorem q_astore {i nL' : Nat} (r : Option Nat) {lv lv' : List (Nat × Value)} (X : mm_X p s m args meth c cc nL own Ts E) (hdg : decode cc pc = .ok (.astore i, 2)) (h : lv_has ls nL' lv) (hn : i < nL') (hl : (i, va_rf r) :: lv.filter (fun q => !(q.1 == i) && !(q.1 + 1 == i && q.2.category == 2)) = lv')
    (kk : ∀ ls' : Array Slot, lv_has ls' nL' lv' → W p l e R s m args below meth c H locs cells slots Q (F0 m (pc + 2) ls' rest)) : W p l e R s m args below meth c H locs cells slots Q (F0 m pc ls (va_rf r :: rest)) := by
  cases r with
  | none => exact lv_astoreN X.1.1 X.1.2.1 hdg h hn hl kk
  | some a => exact lv_astore X.1.1 X.1.2.1 hdg h hn hl kk
theorem q_ifnull {r : Option Nat} {g : Option α} {f : Nat → Option α} (X : mm_X p s m args meth c cc nL own Ts E) {off : Int} {tgt : Nat} (hdg : decode cc pc = .ok (.ifnull off, 3)) (ht : (pc : Int) + off = (tgt : Int)) (hp : q_op r g f = some res)
    (k0 : r = none → g = some res → W p l e R s m args below meth c H locs cells slots Q (F0 m tgt ls rest)) (k1 : ∀ b, r = some b → f b = some res → W p l e R s m args below meth c H locs cells slots Q (F0 m (pc + 3) ls rest)) : W p l e R s m args below meth c H locs cells slots Q (F0 m pc ls (va_rf r :: rest)) := by
  cases r with
  | none => exact lv_ifnullN X.1.1 X.1.2.1 hdg ht (k0 rfl hp)
  | some b => exact lv_ifnull X.1.1 X.1.2.1 hdg (k1 b rfl hp)
theorem q_ifnonnull {r : Option Nat} {g : Option α} {f : Nat → Option α} (X : mm_X p s m args meth c cc nL own Ts E) {off : Int} {tgt : Nat} (hdg : decode cc pc = .ok (.ifnonnull off, 3)) (ht : (pc : Int) + off = (tgt : Int)) (hp : q_op r g f = some res)
    (k0 : r = none → g = some res → W p l e R s m args below meth c H locs cells slots Q (F0 m (pc + 3) ls rest)) (k1 : ∀ b, r = some b → f b = some res → W p l e R s m args below meth c H locs cells slots Q (F0 m tgt ls rest)) : W p l e R s m args below meth c H locs cells slots Q (F0 m pc ls (va_rf r :: rest)) := by
  cases r with
  | none => exact lv_ifnonnullN X.1.1 X.1.2.1 hdg (k0 rfl hp)
  | some b => exact lv_ifnonnull X.1.1 X.1.2.1 hdg ht (k1 b rfl hp)
theorem q_getI {C ref : String} {T : u_T} {N ci index kd : Nat} (X : mm_X p s m args meth c cc nL own Ts E) (V : mm_V E s G H locs) (hin : ∀ w ∈ u_ws C T N, w ∈ Ts) (hc : vwCl[ci]? = some (C, T, N)) (hci : ci < 100) (hkd : kd = ci + 1) (k : Nat) (hk : k < N) (ht : (mm_tab ci)[k]? = some false) (hlink : Cond.fieldLink own index ref (T k).2.1 (T k).2.2.1 ∈ Ts) (hsame : (T k).1 = ref) {a : Nat} (hdg : decode cc pc = .ok (.getfield index, 3)) {f : Int32 → Option α} (hp : q_gI G a kd k f = some res)
    (kk : ∀ v : Int32, f v = some res → W p l e R s m args below meth c H locs cells slots Q (F0 m (pc + 3) ls (.int v :: rest))) : W p l e R s m args below meth c H locs cells slots Q (F0 m pc ls (va_rf (some a) :: rest)) := by
  obtain ⟨hK, hp⟩ := q_pos hp
  have h1 := mm_H.one V.1 hK (by omega)
  have hkd2 := (mm_K_pos hK (by omega)).2.2
  rw [mm_cell_obj E.2.1 (hkd2.trans hkd) hci] at h1
  exact va_get X.1.1 X.1.2.1 X.1.2.2.2.2 hin X.1.2.2.2.1 X.2.1 (mm_P1 h1) 0 rfl hc k hk (X.1.2.2.2.2 _ hlink) (fun x h => by rw [← hsame]; exact h) (by rw [mm_fs_at (List.getElem?_eq_some_iff.mp ht).1, mm_sl_I ht]) hdg (kk _ hp)
theorem q_getR {C ref : String} {T : u_T} {N ci index kd : Nat} (X : mm_X p s m args meth c cc nL own Ts E) (V : mm_V E s G H locs) (hin : ∀ w ∈ u_ws C T N, w ∈ Ts) (hc : vwCl[ci]? = some (C, T, N)) (hci : ci < 100) (hkd : kd = ci + 1) (k : Nat) (hk : k < N) (ht : (mm_tab ci)[k]? = some true) (hlink : Cond.fieldLink own index ref (T k).2.1 (T k).2.2.1 ∈ Ts) (hsame : (T k).1 = ref) {a : Nat} (hdg : decode cc pc = .ok (.getfield index, 3)) {f : Option Nat → Option α} (hp : q_gR G a kd k f = some res)
    (kk : ∀ v : Option Nat, f v = some res → W p l e R s m args below meth c H locs cells slots Q (F0 m (pc + 3) ls (va_rf v :: rest))) : W p l e R s m args below meth c H locs cells slots Q (F0 m pc ls (va_rf (some a) :: rest)) := by
  obtain ⟨hK, hp⟩ := q_pos hp
  have h1 := mm_H.one V.1 hK (by omega)
  have hkd2 := (mm_K_pos hK (by omega)).2.2
  rw [mm_cell_obj E.2.1 (hkd2.trans hkd) hci] at h1
  exact va_get X.1.1 X.1.2.1 X.1.2.2.2.2 hin X.1.2.2.2.1 X.2.1 (mm_P1 h1) 0 rfl hc k hk (X.1.2.2.2.2 _ hlink) (fun x h => by rw [← hsame]; exact h) (by rw [mm_fs_at (List.getElem?_eq_some_iff.mp ht).1, mm_sl_R ht]) hdg (kk _ hp)
/-- a field is written: what both kinds of putfield share -/
theorem mm_field {C : String} {T : u_T} {N ci kd k : Nat} {H1 : Heap} {locs1 : List Loc} {a : Nat} {v : Value} {cell : Cell} (G' : mm_M) (V : mm_V E s G H locs) (hK : mm_K G a = kd) (hkd : kd = ci + 1) (hci : ci < 100) (hc : vwCl[ci]? = some (C, T, N)) (hkN : k < N) (ht : k < (mm_tab ci).length) (hap : ∀ x y, x < N → y < N → x ≠ y → (E.2.2.2 ci) x ≠ (E.2.2.2 ci) y)
    (q2 : cell.cls = E.2.2.1 ci) (q3 : cell.vm = .none) (q4 : ∀ k, k < N → cell.slots[E.2.2.2 ci k]? = some (vp_V (mm_fs G a ci) k)) (e1 : H1[a]? = some (cell.setSlot (E.2.2.2 ci k) v)) (hz : H1.size = H.size) (oq : ∀ q : Nat, q ≠ a → H1[q]? = H[q]?) (h0 : mm_lo G' = mm_lo G) (h1 : mm_nx G' = mm_nx G) (hb : ∀ b, b ≠ a → mm_cell E.2.1 G' b = mm_cell E.2.1 G b) (hkk : mm_kd G' a = mm_kd G a) (hv : mm_sl G' a ci k = v) (hr : ∀ j, j ≠ k → mm_sl G' a ci j = mm_sl G a ci j) (hl : ∀ x ∈ locs1, x ∈ locs ∨ x.base = a) : mm_V E s G' H1 locs1 := by
  obtain ⟨z1, z2, z3⟩ := mm_K_pos hK (by omega)
  refine mm_V.wr G' V z1 h0 h1 hb hz oq ?_ hl
  rw [mm_cell_obj E.2.1 (hkk.trans (z3.trans hkd)) hci]
  refine ⟨_, hc, ?_⟩
  refine t_OB.to (V := updV (vp_V (mm_fs G a ci)) k v) ⟨_, e1, q2, q3, t_set q4 hap hkN v⟩ (fun j _ => ?_)
  rw [← mm_fs_set ht hv hr]
  exact vp_updV_set (by rw [mm_fs_len]; exact ht) v j
theorem mm_sl_sI (G : mm_M) (a ci k : Nat) (v : Int32) (ht : (mm_tab ci)[k]? = some false) : mm_sl (mm_sI G a k v) a ci k = .int v ∧ ∀ j, j ≠ k → mm_sl (mm_sI G a k v) a ci j = mm_sl G a ci j := by
  refine ⟨by rw [mm_sl_I ht]; simp [mm_I, mm_sI], fun j hj => ?_⟩
  have e : mm_I (mm_sI G a k v) a j = mm_I G a j := by simp [mm_I, mm_sI, hj]
  unfold mm_sl
  rw [e]
  rfl
theorem mm_sl_sR (G : mm_M) (a ci k : Nat) (v : Option Nat) (ht : (mm_tab ci)[k]? = some true) : mm_sl (mm_sR G a k v) a ci k = va_rf v ∧ ∀ j, j ≠ k → mm_sl (mm_sR G a k v) a ci j = mm_sl G a ci j := by
  refine ⟨by rw [mm_sl_R ht]; simp [mm_R, mm_sR], fun j hj => ?_⟩
  have e : mm_R (mm_sR G a k v) a j = mm_R G a j := by simp [mm_R, mm_sR, hj]
  unfold mm_sl
  rw [e]
  rfl
theorem mm_putW {C ref : String} {T : u_T} {N ci index kd : Nat} (X : mm_X p s m args meth c cc nL own Ts E) (V : mm_V E s G H locs) (G' : mm_M) (hin : ∀ w ∈ u_ws C T N, w ∈ Ts) (hc : vwCl[ci]? = some (C, T, N)) (ty0 : Nat → FieldType) (hty : ∀ k, k < N → parseFieldDescriptor (T k).2.2.1 = some (ty0 k)) (hnm : ∀ a, a < N → ∀ b, b < N → a ≠ b → (T a).2.1 ≠ (T b).2.1) (hci : ci < 100) (hkd : kd = ci + 1) (k : Nat) (hk : k < N) (ht : k < (mm_tab ci).length) (hlink : Cond.fieldLink own index ref (T k).2.1 (T k).2.2.1 ∈ Ts) (hsame : (T k).1 = ref) (hfin : (T k).2.2.2 = false ∨ ((T k).2.2.2 = true ∧ meth.name = "<init>" ∧ (T k).1 = own)) {ty : FieldType} {v : Value} (hd : parseFieldDescriptor (T k).2.2.1 = some ty) (hn : narrow ty v = v) (hfit : fits ty v = true) {a : Nat} (hdg : decode cc pc = .ok (.putfield index, 3)) (hK : mm_K G a = kd)
    (h0 : mm_lo G' = mm_lo G) (h1 : mm_nx G' = mm_nx G) (hb : ∀ b, b ≠ a → mm_cell E.2.1 G' b = mm_cell E.2.1 G b) (hkk : mm_kd G' a = mm_kd G a) (hv : mm_sl G' a ci k = v) (hr : ∀ j, j ≠ k → mm_sl G' a ci j = mm_sl G a ci j)
    (kk : ∀ (H1 : Heap) (locs1 : List Loc), mm_V E s G' H1 locs1 → W p l e R s m args below meth c H1 locs1 cells slots Q (F0 m (pc + 3) ls rest)) : W p l e R s m args below meth c H locs cells slots Q (F0 m pc ls (v :: .ref a :: rest)) := by
  obtain ⟨⟨hexec, hbc, -, hown, hts⟩, hKK, -⟩ := X
  have hap := va_apart (own := own) hts hin ty0 hty hnm hKK hc
  have hone := mm_H.one V.1 hK (by omega)
  have hkd2 := (mm_K_pos hK (by omega)).2.2
  rw [mm_cell_obj E.2.1 (hkd2.trans hkd) hci] at hone
  obtain ⟨r, g1, cell, q1, q2, q3, q4⟩ := hone
  have hr2 : r = (C, T, N) := Option.some.inj (g1.symm.trans hc)
  subst hr2
  obtain ⟨hS, hfc, kC, hkC, hkind⟩ := hKK.1 ci _ hc
  obtain ⟨cf, kf, fi, f, hi, hsl⟩ := hS k hk
  have hst := (u_facts hfc hkC (u_lays hts hin hk) hi).1
  have hlay := hts _ (hin _ (u_in_lay hk))
  unfold u_lay at hlay
  have hfd : s.fieldFound? ref (T k).2.1 (T k).2.2.1 = some (cf, kf, fi, f) := by rw [← hsame]; exact hi
  rcases hfin with hfin | ⟨hfin, hin2, hdecl⟩
  · rw [if_neg (by rw [hfin]; decide)] at hlay
    have h6 := u_store hfc hkC hkind hlay hi hd hn hfit
    refine W.putK hexec hbc (f := f) ⟨hown, hts _ hlink, ⟨_, _, _, hfd⟩, hst⟩ (by rw [q2]; exact h6) q1 q3 (by rw [hsl]; exact k2_hasslot (q4 k hk)) rfl rfl hdg fun H' e1 e2 e3 => ?_
    rw [hsl] at e1 ⊢
    exact kk H' _ (mm_field G' V hK hkd hci hc hk ht hap q2 q3 q4 e1 e2 e3 h0 h1 hb hkk hv hr (fun x hx => by
      rcases List.mem_append.mp hx with h | h
      · exact Or.inl h
      · rw [List.mem_singleton.mp h]; exact Or.inr rfl))
  · rw [if_pos hfin] at hlay
    have hcf : m.cls = cf := by
      obtain ⟨_, _, c', _, _, _, -, -, hf', -, -, -, hown2, -⟩ := Cond.laysFinal_spec hlay
      have e1 : c' = cf := by have := hi.symm.trans hf'; simp at this; exact this.1.symm
      rw [hdecl] at hown2
      rw [← e1]; exact Option.some.inj (hown.symm.trans hown2)
    have h6 := u_fits hfc hkC hkind (Or.inr hlay) hi hd hn hfit
    refine W.putFinK hexec hbc hown (hts _ hlink) hfd hst hcf hin2 (by rw [q2]; exact h6) q1 q3 (by rw [hsl]; exact k2_hasslot (q4 k hk)) rfl rfl hdg fun H' e1 e2 e3 => ?_
    rw [hsl] at e1 ⊢
    exact kk H' _ (mm_field G' V hK hkd hci hc hk ht hap q2 q3 q4 e1 e2 e3 h0 h1 hb hkk hv hr (fun x hx => by
      rcases List.mem_append.mp hx with h | h
      · exact Or.inl h
      · rw [List.mem_singleton.mp h]; exact Or.inr rfl))
theorem q_putI {C ref : String} {T : u_T} {N ci index kd : Nat} (X : mm_X p s m args meth c cc nL own Ts E) (V : mm_V E s G H locs) (hin : ∀ w ∈ u_ws C T N, w ∈ Ts) (hc : vwCl[ci]? = some (C, T, N)) (ty0 : Nat → FieldType) (hty : ∀ k, k < N → parseFieldDescriptor (T k).2.2.1 = some (ty0 k)) (hnm : ∀ a, a < N → ∀ b, b < N → a ≠ b → (T a).2.1 ≠ (T b).2.1) (hci : ci < 100) (hkd : kd = ci + 1) (k : Nat) (hk : k < N) (ht : (mm_tab ci)[k]? = some false) (hlink : Cond.fieldLink own index ref (T k).2.1 (T k).2.2.1 ∈ Ts) (hsame : (T k).1 = ref) (hfin : (T k).2.2.2 = false ∨ ((T k).2.2.2 = true ∧ meth.name = "<init>" ∧ (T k).1 = own)) (ty : FieldType) {v : Int32} (hd : parseFieldDescriptor (T k).2.2.1 = some ty) (hn : narrow ty (.int v) = .int v) (hfit : fits ty (.int v) = true) {a : Nat} (hdg : decode cc pc = .ok (.putfield index, 3)) {f : mm_M → Option α} (hp : q_pI G a kd k v f = some res)
    (kk : ∀ (G1 : mm_M) (H1 : Heap) (locs1 : List Loc), mm_V E s G1 H1 locs1 → f G1 = some res → W p l e R s m args below meth c H1 locs1 cells slots Q (F0 m (pc + 3) ls rest)) : W p l e R s m args below meth c H locs cells slots Q (F0 m pc ls (.int v :: va_rf (some a) :: rest)) := by
  obtain ⟨hK, hp⟩ := q_pos hp
  obtain ⟨h1, h2⟩ := mm_sl_sI G a ci k v ht
  exact mm_putW X V (mm_sI G a k v) hin hc ty0 hty hnm hci hkd k hk (List.getElem?_eq_some_iff.mp ht).1 hlink hsame hfin hd hn hfit hdg hK rfl rfl (mm_cell_sI E.2.1 G a k v) rfl h1 h2 (fun H1 locs1 V1 => kk _ H1 locs1 V1 hp)
theorem q_putR {C ref : String} {T : u_T} {N ci index kd : Nat} (X : mm_X p s m args meth c cc nL own Ts E) (V : mm_V E s G H locs) (hin : ∀ w ∈ u_ws C T N, w ∈ Ts) (hc : vwCl[ci]? = some (C, T, N)) (ty0 : Nat → FieldType) (hty : ∀ k, k < N → parseFieldDescriptor (T k).2.2.1 = some (ty0 k)) (hnm : ∀ a, a < N → ∀ b, b < N → a ≠ b → (T a).2.1 ≠ (T b).2.1) (hci : ci < 100) (hkd : kd = ci + 1) (k : Nat) (hk : k < N) (ht : (mm_tab ci)[k]? = some true) (hlink : Cond.fieldLink own index ref (T k).2.1 (T k).2.2.1 ∈ Ts) (hsame : (T k).1 = ref) (hfin : (T k).2.2.2 = false ∨ ((T k).2.2.2 = true ∧ meth.name = "<init>" ∧ (T k).1 = own)) (ty : FieldType) {v : Option Nat} (hd : parseFieldDescriptor (T k).2.2.1 = some ty) (hn : narrow ty (va_rf v) = va_rf v) (hfit : fits ty (va_rf v) = true) {a : Nat} (hdg : decode cc pc = .ok (.putfield index, 3)) {f : mm_M → Option α} (hp : q_pR G a kd k v f = some res)
    (kk : ∀ (G1 : mm_M) (H1 : Heap) (locs1 : List Loc), mm_V E s G1 H1 locs1 → f G1 = some res → W p l e R s m args below meth c H1 locs1 cells slots Q (F0 m (pc + 3) ls rest)) : W p l e R s m args below meth c H locs cells slots Q (F0 m pc ls (va_rf v :: va_rf (some a) :: rest)) := by
  obtain ⟨hK, hp⟩ := q_pos hp
  obtain ⟨h1, h2⟩ := mm_sl_sR G a ci k v ht
  exact mm_putW X V (mm_sR G a k v) hin hc ty0 hty hnm hci hkd k hk (List.getElem?_eq_some_iff.mp ht).1 hlink hsame hfin hd hn hfit hdg hK rfl rfl (mm_cell_sR E.2.1 G a k v) rfl h1 h2 (fun H1 locs1 V1 => kk _ H1 locs1 V1 hp)
theorem mm_cell_i (cs : Nat → ClassId) {G : mm_M} {a : Nat} (h : mm_kd G a = 101) : mm_cell cs G a = .inl (cs 0, mm_ln G a, .inl (mm_I G a)) := by unfold mm_cell; rw [if_pos h]
theorem mm_cell_z (cs : Nat → ClassId) {G : mm_M} {a : Nat} (h : mm_kd G a = 102) : mm_cell cs G a = .inl (cs 1, mm_ln G a, .inl (mm_I G a)) := by unfold mm_cell; rw [if_neg (by omega), if_pos h]
theorem mm_cell_p (cs : Nat → ClassId) {G : mm_M} {a : Nat} (h : mm_kd G a = 103) : mm_cell cs G a = .inl (cs 2, mm_ln G a, .inr (.inr (.inr (.inr (mm_R G a))))) := by unfold mm_cell; rw [if_neg (by omega), if_neg (by omega), if_pos h]
theorem mm_cell_b (cs : Nat → ClassId) {G : mm_M} {a : Nat} (h : mm_kd G a = 104) : mm_cell cs G a = .inl (cs 3, mm_ln G a, .inr (.inr (.inr (.inr (mm_R G a))))) := by unfold mm_cell; rw [if_neg (by omega), if_neg (by omega), if_neg (by omega), if_pos h]
theorem q_iald (X : mm_X p s m args meth c cc nL own Ts E) (V : mm_V E s G H locs) {a : Nat} {i : Int32} (hdg : decode cc pc = .ok (.iaload, 1)) {f : Int32 → Option α} (hp : q_aI G a 101 i f = some res)
    (kk : ∀ v : Int32, f v = some res → W p l e R s m args below meth c H locs cells slots Q (F0 m (pc + 1) ls (.int v :: rest))) : W p l e R s m args below meth c H locs cells slots Q (F0 m pc ls (.int i :: va_rf (some a) :: rest)) := by
  obtain ⟨⟨hK, h1, h2⟩, hp⟩ := q_pos hp
  have hone := mm_H.one V.1 hK (by omega)
  rw [mm_cell_i E.2.1 (mm_K_pos hK (by omega)).2.2] at hone
  exact va_iald X.1.1 X.1.2.1 X.2.1 (mm_P1 hone) 0 0 rfl rfl (mm_in h1 h2) hdg (kk _ hp)
theorem q_zald (X : mm_X p s m args meth c cc nL own Ts E) (V : mm_V E s G H locs) {a : Nat} {i : Int32} (hdg : decode cc pc = .ok (.baload, 1)) {f : Int32 → Option α} (hp : q_aI G a 102 i f = some res)
    (kk : ∀ v : Int32, f v = some res → W p l e R s m args below meth c H locs cells slots Q (F0 m (pc + 1) ls (.int v :: rest))) : W p l e R s m args below meth c H locs cells slots Q (F0 m pc ls (.int i :: va_rf (some a) :: rest)) := by
  obtain ⟨⟨hK, h1, h2⟩, hp⟩ := q_pos hp
  have hone := mm_H.one V.1 hK (by omega)
  rw [mm_cell_z E.2.1 (mm_K_pos hK (by omega)).2.2] at hone
  exact va_zald X.1.1 X.1.2.1 X.2.1 (mm_P1 hone) 0 1 rfl rfl (mm_in h1 h2) hdg (kk _ hp)
theorem q_aldP (X : mm_X p s m args meth c cc nL own Ts E) (V : mm_V E s G H locs) {a : Nat} {i : Int32} (hdg : decode cc pc = .ok (.aaload, 1)) {f : Option Nat → Option α} (hp : q_aR G a 103 i f = some res)
    (kk : ∀ v : Option Nat, f v = some res → W p l e R s m args below meth c H locs cells slots Q (F0 m (pc + 1) ls (va_rf v :: rest))) : W p l e R s m args below meth c H locs cells slots Q (F0 m pc ls (.int i :: va_rf (some a) :: rest)) := by
  obtain ⟨⟨hK, h1, h2⟩, hp⟩ := q_pos hp
  have hone := mm_H.one V.1 hK (by omega)
  rw [mm_cell_p E.2.1 (mm_K_pos hK (by omega)).2.2] at hone
  exact va_aldq X.1.1 X.1.2.1 X.2.1 (mm_P1 hone) 0 2 rfl rfl (mm_in h1 h2) hdg (kk _ hp)
theorem q_aldB (X : mm_X p s m args meth c cc nL own Ts E) (V : mm_V E s G H locs) {a : Nat} {i : Int32} (hdg : decode cc pc = .ok (.aaload, 1)) {f : Option Nat → Option α} (hp : q_aR G a 104 i f = some res)
    (kk : ∀ v : Option Nat, f v = some res → W p l e R s m args below meth c H locs cells slots Q (F0 m (pc + 1) ls (va_rf v :: rest))) : W p l e R s m args below meth c H locs cells slots Q (F0 m pc ls (.int i :: va_rf (some a) :: rest)) := by
  obtain ⟨⟨hK, h1, h2⟩, hp⟩ := q_pos hp
  have hone := mm_H.one V.1 hK (by omega)
  rw [mm_cell_b E.2.1 (mm_K_pos hK (by omega)).2.2] at hone
  exact va_aldq X.1.1 X.1.2.1 X.2.1 (mm_P1 hone) 0 3 rfl rfl (mm_in h1 h2) hdg (kk _ hp)
theorem mm_locs1 {locs : List Loc} {a k : Nat} : ∀ x ∈ locs ++ [(⟨a, k⟩ : Loc)], x ∈ locs ∨ x.base = a := fun x hx => by
  rcases List.mem_append.mp hx with h | h
  · exact Or.inl h
  · rw [List.mem_singleton.mp h]; exact Or.inr rfl
theorem q_iast (X : mm_X p s m args meth c cc nL own Ts E) (V : mm_V E s G H locs) {a : Nat} {i x : Int32} (hdg : decode cc pc = .ok (.iastore, 1)) {f : mm_M → Option α} (hp : q_sI G a 101 i x f = some res)
    (kk : ∀ (G1 : mm_M) (H1 : Heap) (locs1 : List Loc), mm_V E s G1 H1 locs1 → f G1 = some res → W p l e R s m args below meth c H1 locs1 cells slots Q (F0 m (pc + 1) ls rest)) : W p l e R s m args below meth c H locs cells slots Q (F0 m pc ls (.int x :: .int i :: va_rf (some a) :: rest)) := by
  obtain ⟨⟨hK, h1, h2⟩, hp⟩ := q_pos hp
  have hone := mm_H.one V.1 hK (by omega)
  obtain ⟨z1, z2, z3⟩ := mm_K_pos hK (by omega)
  rw [mm_cell_i E.2.1 z3] at hone
  refine W.iast X.1.1 X.1.2.1 hone ((X.2.1.2 0 _ rfl).1 (mm_ln G a) (fun j => .int (mm_I G a j))) (fun q => by cases q) (by show ¬ (i < 0 ∨ (arrV _ _ _).slots.size ≤ _); rw [arrV_size]; exact mm_in h1 h2) rfl rfl hdg fun H1 e z oq => ?_
  refine kk _ H1 _ (mm_V.wr (mm_sI G a i.toInt.toNat x) V z1 rfl rfl (mm_cell_sI E.2.1 G a _ x) z oq ?_ mm_locs1) hp
  rw [mm_cell_i E.2.1 (show mm_kd (mm_sI G a i.toInt.toNat x) a = 101 from z3)]
  show H1[a]? = some (vp_cell _ _)
  rw [e]
  rw [vp_cell_i, vp_cell_i, arrV_store]
  congr 2
  funext q
  have e0 : i.toNatClampNeg = i.toInt.toNat := rfl
  by_cases hq : q = i.toNatClampNeg
  · simp [updV, mm_I, mm_sI, hq]
  · simp [updV, mm_I, mm_sI, hq]
theorem q_zast (X : mm_X p s m args meth c cc nL own Ts E) (V : mm_V E s G H locs) {a : Nat} {i x : Int32} (hdg : decode cc pc = .ok (.bastore, 1)) {f : mm_M → Option α} (hp : q_sZ G a 102 i x f = some res)
    (kk : ∀ (G1 : mm_M) (H1 : Heap) (locs1 : List Loc), mm_V E s G1 H1 locs1 → f G1 = some res → W p l e R s m args below meth c H1 locs1 cells slots Q (F0 m (pc + 1) ls rest)) : W p l e R s m args below meth c H locs cells slots Q (F0 m pc ls (.int x :: .int i :: va_rf (some a) :: rest)) := by
  obtain ⟨⟨⟨hK, h1, h2⟩, hx⟩, hp⟩ := q_pos hp
  have hone := mm_H.one V.1 hK (by omega)
  obtain ⟨z1, z2, z3⟩ := mm_K_pos hK (by omega)
  rw [mm_cell_z E.2.1 z3] at hone
  refine W.zast X.1.1 X.1.2.1 hone ((X.2.1.2 1 _ rfl).1 (mm_ln G a) (fun j => .int (mm_I G a j))) (fun q => by cases q) (by show ¬ (i < 0 ∨ (arrV _ _ _).slots.size ≤ _); rw [arrV_size]; exact mm_in h1 h2) rfl rfl hdg fun H1 e z oq => ?_
  refine kk _ H1 _ (mm_V.wr (mm_sI G a i.toInt.toNat x) V z1 rfl rfl (mm_cell_sI E.2.1 G a _ x) z oq ?_ mm_locs1) hp
  rw [mm_cell_z E.2.1 (show mm_kd (mm_sI G a i.toInt.toNat x) a = 102 from z3)]
  show H1[a]? = some (vp_cell _ _)
  rw [e]
  rw [vp_cell_i, vp_cell_i, arrV_store]
  congr 2
  funext q
  have e0 : i.toNatClampNeg = i.toInt.toNat := rfl
  have hxn : narrow .boolean (.int x) = .int x := by rcases hx with rfl | rfl <;> rfl
  by_cases hq : q = i.toNatClampNeg
  · simp [updV, mm_I, mm_sI, hq]
    try rcases hx with rfl | rfl <;> rfl
  · simp [updV, mm_I, mm_sI, hq]
theorem mm_astW {cA : ClassId} {r : vw_C} {ci : Nat} (X : mm_X p s m args meth c cc nL own Ts E) {H : Heap} {a n : Nat} {i : Int32} {g : Nat → Option Nat} (ta : Nat) (ht : (mm_tys E.2.1)[ta]? = some (cA, .object r.1)) (hc : vwCl[ci]? = some r) (v : Option Nat) (hcell : va_at E.2.2 vwCl (a, .inl (cA, n, .inr (.inr (.inr (.inr g))))) H) (hv : ∀ b, v = some b → ∃ vs, va_at E.2.2 vwCl (b, .inr (ci, vs)) H) (h1 : 0 ≤ i.toInt) (h2 : i.toInt < n) (hdg : decode cc pc = .ok (.aastore, 1))
    (kk : ∀ (H1 : Heap), H1[a]? = some (vp_cell cA (n, .inr (.inr (.inr (.inr (va_up g i.toInt.toNat v)))))) → H1.size = H.size → (∀ q : Nat, q ≠ a → H1[q]? = H[q]?) → W p l e R s m args below meth c H1 (locs ++ [⟨a, i.toNatClampNeg⟩]) cells slots Q (F0 m (pc + 1) ls rest)) : W p l e R s m args below meth c H locs cells slots Q (F0 m pc ls (va_rf v :: .int i :: .ref a :: rest)) := by
  have e0 : i.toNatClampNeg = i.toInt.toNat := rfl
  have hin := mm_in h1 h2
  obtain ⟨⟨hexec, hb, -, -, -⟩, hK, -, -⟩ := X
  have hlt : i.toNatClampNeg < n := by omega
  cases v with
  | none =>
    refine va_WaastN (C := r.1) hexec hb hcell ((hK.2 ta _ ht).1 n (fun j => va_rf (g j))) (fun h => by cases h) (by show ¬ (i < 0 ∨ (arrV _ _ _).slots.size ≤ _); rw [arrV_size]; exact hin) rfl rfl hdg fun H1 e z oq => ?_
    refine kk H1 ?_ z oq
    rw [e]
    rw [vp_cell_q, vp_cell_q, arrV_store]
    congr 2
    funext q
    by_cases hq : q = i.toNatClampNeg
    · simp [updV, va_up, va_rf, hq]
    · simp [updV, va_up, hq]
  | some b =>
    obtain ⟨vs, r', hr', cellV, g1, g2, g3, -⟩ := hv b rfl
    have hcls := (hK.1 ci r hc).2
    obtain ⟨kA, comp, k1, k2, k3, -⟩ := (hK.2 ta _ ht).2
    have hcomp : comp = E.2.2.1 ci := Option.some.inj (k3.symm.trans hcls.1)
    subst hcomp
    obtain ⟨kC, hkC, -⟩ := hcls.2
    refine W.aast hexec hb hcell (fun q h => by cases h) (fun h => by cases h) k1 k2 rfl hkC ⟨mm_nl h1, by show _ < (arrV _ _ _).slots.size; rw [arrV_size]; exact hlt⟩ g1 (fun q h => by rw [g3] at h; cases h) (by rw [g2]; exact hkC) (by rw [g2]; exact va_assign hcls) rfl rfl hdg fun H1 e z oq => ?_
    refine kk H1 ?_ z oq
    rw [e]
    rw [vp_cell_q, vp_cell_q, arrV_store]
    congr 2
    funext q
    by_cases hq : q = i.toNatClampNeg
    · simp [updV, va_up, va_rf, hq]
    · simp [updV, va_up, hq]
theorem mm_up_sR (G : mm_M) (a k : Nat) (v : Option Nat) : mm_R (mm_sR G a k v) a = va_up (mm_R G a) k v := by
  funext j
  by_cases hj : j = k
  · simp [mm_R, mm_sR, va_up, hj]
  · simp [mm_R, mm_sR, va_up, hj]
theorem q_astP {ci ke : Nat} {r : vw_C} (X : mm_X p s m args meth c cc nL own Ts E) (V : mm_V E s G H locs) (ht : (mm_tys E.2.1)[2]? = some (E.2.1 2, .object r.1)) (hc : vwCl[ci]? = some r) (hci : ci < 100) (hke : ke = ci + 1) {a : Nat} {i : Int32} {v : Option Nat} (hdg : decode cc pc = .ok (.aastore, 1)) {f : mm_M → Option α} (hp : q_sR G a 103 ke i v f = some res)
    (kk : ∀ (G1 : mm_M) (H1 : Heap) (locs1 : List Loc), mm_V E s G1 H1 locs1 → f G1 = some res → W p l e R s m args below meth c H1 locs1 cells slots Q (F0 m (pc + 1) ls rest)) : W p l e R s m args below meth c H locs cells slots Q (F0 m pc ls (va_rf v :: .int i :: va_rf (some a) :: rest)) := by
  obtain ⟨⟨⟨hK, h1, h2⟩, hx⟩, hp⟩ := q_pos hp
  have hone := mm_H.one V.1 hK (by omega)
  obtain ⟨z1, z2, z3⟩ := mm_K_pos hK (by omega)
  rw [mm_cell_p E.2.1 z3] at hone
  refine mm_astW X 2 ht hc v hone (fun b hb => ⟨_, by
    have h9 := mm_H.one V.1 (hx b hb) (by omega)
    rw [mm_cell_obj E.2.1 ((mm_K_pos (hx b hb) (by omega)).2.2.trans hke) hci] at h9
    exact h9⟩) h1 h2 hdg fun H1 e z oq => ?_
  refine kk _ H1 _ (mm_V.wr (mm_sR G a i.toInt.toNat v) V z1 rfl rfl (mm_cell_sR E.2.1 G a _ v) z oq ?_ mm_locs1) hp
  rw [mm_cell_p E.2.1 (show mm_kd (mm_sR G a i.toInt.toNat v) a = 103 from z3), mm_up_sR]
  exact e
theorem q_astB {ci ke : Nat} {r : vw_C} (X : mm_X p s m args meth c cc nL own Ts E) (V : mm_V E s G H locs) (ht : (mm_tys E.2.1)[3]? = some (E.2.1 3, .object r.1)) (hc : vwCl[ci]? = some r) (hci : ci < 100) (hke : ke = ci + 1) {a : Nat} {i : Int32} {v : Option Nat} (hdg : decode cc pc = .ok (.aastore, 1)) {f : mm_M → Option α} (hp : q_sR G a 104 ke i v f = some res)
    (kk : ∀ (G1 : mm_M) (H1 : Heap) (locs1 : List Loc), mm_V E s G1 H1 locs1 → f G1 = some res → W p l e R s m args below meth c H1 locs1 cells slots Q (F0 m (pc + 1) ls rest)) : W p l e R s m args below meth c H locs cells slots Q (F0 m pc ls (va_rf v :: .int i :: va_rf (some a) :: rest)) := by
  obtain ⟨⟨⟨hK, h1, h2⟩, hx⟩, hp⟩ := q_pos hp
  have hone := mm_H.one V.1 hK (by omega)
  obtain ⟨z1, z2, z3⟩ := mm_K_pos hK (by omega)
  rw [mm_cell_b E.2.1 z3] at hone
  refine mm_astW X 3 ht hc v hone (fun b hb => ⟨_, by
    have h9 := mm_H.one V.1 (hx b hb) (by omega)
    rw [mm_cell_obj E.2.1 ((mm_K_pos (hx b hb) (by omega)).2.2.trans hke) hci] at h9
    exact h9⟩) h1 h2 hdg fun H1 e z oq => ?_
  refine kk _ H1 _ (mm_V.wr (mm_sR G a i.toInt.toNat v) V z1 rfl rfl (mm_cell_sR E.2.1 G a _ v) z oq ?_ mm_locs1) hp
  rw [mm_cell_b E.2.1 (show mm_kd (mm_sR G a i.toInt.toNat v) a = 104 from z3), mm_up_sR]
  exact e
theorem q_alen (X : mm_X p s m args meth c cc nL own Ts E) (V : mm_V E s G H locs) {a : Nat} (hdg : decode cc pc = .ok (.arraylength, 1)) {f : Int32 → Option α} (hp : q_len G a 101 f = some res)
    (kk : ∀ v : Int32, f v = some res → W p l e R s m args below meth c H locs cells slots Q (F0 m (pc + 1) ls (.int v :: rest))) : W p l e R s m args below meth c H locs cells slots Q (F0 m pc ls (va_rf (some a) :: rest)) := by
  obtain ⟨hK, hp⟩ := q_pos hp
  have hone := mm_H.one V.1 hK (by omega)
  rw [mm_cell_i E.2.1 (mm_K_pos hK (by omega)).2.2] at hone
  exact va_alen X.1.1 X.1.2.1 X.2.1 (mm_P1 hone) 0 0 rfl rfl rfl hdg (kk _ hp)
end QROW
/-! cells are made; arrays are copied -/
section QNEW
variable {p : Program} {l : Launch} {e : Env} {R : Room} {s : State} {m : MethodId} {args : Array Value} {below : List Frame} {meth : Method} {c : Code} {H : Heap} {locs : List Loc} {cells slots : Nat} {Q : State → Prop}
variable {cc : ByteArray} {pc nL : Nat} {ls : Array Slot} {rest : List Value} {own : String} {Ts : List Cond} {E : mm_E} {G : mm_M} {α : Type} {res : α}
theorem q_newc {C : String} {T : u_T} {N ci index kd : Nat} (X : mm_X p s m args meth c cc nL own Ts E) (V : mm_V E s G H locs) (hin : ∀ w ∈ u_ws C T N, w ∈ Ts) (hc : vwCl[ci]? = some (C, T, N)) (ty : Nat → FieldType) (hty : ∀ k, k < N → parseFieldDescriptor (T k).2.2.1 = some (ty k)) (hci : ci < 100) (hkd : kd = ci + 1) (hlen : (mm_tab ci).length = N) (hdef : ∀ j, j < N → defaultValue (ty j) = if (mm_tab ci).getD j false = true then Value.null else .int 0) (hcl : Cond.classLink own index C ∈ Ts) (hinst : Cond.instantiable C N ∈ Ts) (hini : Cond.initialized C ∈ Ts) (hcells : cells + 1 ≤ R.cells) (hslots : slots + N ≤ R.slots) (hdg : decode cc pc = .ok (.new index, 3)) {f : mm_M → Nat → Option α} (hp : q_new G kd f = some res)
    (kk : ∀ (G1 : mm_M) (b : Nat) (H1 : Heap), mm_V E s G1 H1 locs → f G1 b = some res → W p l e R s m args below meth c H1 locs (cells + 1) (slots + N) Q (F0 m (pc + 3) ls (va_rf (some b) :: rest))) : W p l e R s m args below meth c H locs cells slots Q (F0 m pc ls rest) := by
  obtain ⟨⟨hexec, hb, -, hown, hts⟩, hK, -, -⟩ := X
  have hKn := hK.1 ci _ hc
  have hz := V.1.2.1
  refine W.newcK hexec hb hown (hts _ hcl) (hts _ hinst) (hts _ hini) rfl hdg hcells hslots hKn.2.1 hz fun H1 kC hkC e1 z1 o1 => ?_
  refine kk (mm_nw G kd 0) (mm_nx G) H1 (mm_V.nw kd 0 V (by rw [z1, hz]) (fun q hq => o1 q (by rw [← hz]; exact hq)) ?_) hp
  have h9 : mm_kd (mm_nw G kd 0) (mm_nx G) = ci + 1 := by simp [mm_kd, mm_nw, hkd]
  rw [mm_cell_obj E.2.1 h9 hci]
  refine ⟨_, hc, (u_born ty hts hin hKn hkC e1 hty).to (fun j hj => ?_)⟩
  rw [hdef j hj]
  have h8 : vp_V (mm_fs (mm_nw G kd 0) (mm_nx G) ci) j = mm_sl (mm_nw G kd 0) (mm_nx G) ci j := by
    unfold vp_V
    rw [List.getD_eq_getElem?_getD, mm_fs_at (by rw [hlen]; exact hj)]
    rfl
  rw [h8]
  unfold mm_sl
  have h6 : mm_R (mm_nw G kd 0) (mm_nx G) j = none := by simp [mm_R, mm_nw]
  have h7 : mm_I (mm_nw G kd 0) (mm_nx G) j = 0 := by simp [mm_I, mm_nw]
  rw [h6, h7]
  rfl
theorem mm_nw_I (G : mm_M) (kd n : Nat) : mm_I (mm_nw G kd n) (mm_nx G) = fun _ => 0 := by funext j; simp [mm_I, mm_nw]
theorem mm_nw_R (G : mm_M) (kd n : Nat) : mm_R (mm_nw G kd n) (mm_nx G) = fun _ => none := by funext j; simp [mm_R, mm_nw]
theorem mm_nw_kd (G : mm_M) (kd n : Nat) : mm_kd (mm_nw G kd n) (mm_nx G) = kd := by simp [mm_kd, mm_nw]
theorem mm_nw_ln (G : mm_M) (kd n : Nat) : mm_ln (mm_nw G kd n) (mm_nx G) = n := by simp [mm_ln, mm_nw]
theorem q_arrI (X : mm_X p s m args meth c cc nL own Ts E) (V : mm_V E s G H locs) (harr : Cond.arrayClass .int ∈ Ts) {n : Int32} {N : Nat} (hn : ¬ n < 0) (hN : n.toNatClampNeg = N) (hbytes : N * componentBytes .int ≤ 536870912) (hcells : cells + 1 ≤ R.cells) (hslots : slots + N ≤ R.slots) {at_ : ArrayType} (hat : newarray.typeOf at_ = .int) (hdg : decode cc pc = .ok (.newarray at_, 2)) {f : mm_M → Nat → Option α} (hp : q_arr G 101 N f = some res)
    (kk : ∀ (G1 : mm_M) (b : Nat) (H1 : Heap), mm_V E s G1 H1 locs → f G1 b = some res → W p l e R s m args below meth c H1 locs (cells + 1) (slots + N) Q (F0 m (pc + 2) ls (va_rf (some b) :: rest))) : W p l e R s m args below meth c H locs cells slots Q (F0 m pc ls (.int n :: rest)) := by
  obtain ⟨⟨hexec, hb, -, hown, hts⟩, hK, -, -⟩ := X
  have hz := V.1.2.1
  refine va_newaK hexec hb (by rw [hat]; exact hts _ harr) rfl hdg rfl hn hN (by rw [hat]; exact hbytes) hcells hslots hz fun H1 cA e1 z1 o1 hAr hNm => ?_
  rw [hat] at e1 hNm
  have hcA : cA = E.2.1 0 := Option.some.inj (hNm.symm.trans (hK.2 0 _ rfl).2)
  subst hcA
  refine kk (mm_nw G 101 N) (mm_nx G) H1 (mm_V.nw 101 N V (by rw [z1, hz]) (fun q hq => o1 q (by rw [← hz]; exact hq)) ?_) hp
  rw [mm_cell_i E.2.1 (mm_nw_kd G 101 N), mm_nw_I, mm_nw_ln]
  exact e1
theorem q_arrZ (X : mm_X p s m args meth c cc nL own Ts E) (V : mm_V E s G H locs) (harr : Cond.arrayClass .boolean ∈ Ts) {n : Int32} {N : Nat} (hn : ¬ n < 0) (hN : n.toNatClampNeg = N) (hbytes : N * componentBytes .boolean ≤ 536870912) (hcells : cells + 1 ≤ R.cells) (hslots : slots + N ≤ R.slots) {at_ : ArrayType} (hat : newarray.typeOf at_ = .boolean) (hdg : decode cc pc = .ok (.newarray at_, 2)) {f : mm_M → Nat → Option α} (hp : q_arr G 102 N f = some res)
    (kk : ∀ (G1 : mm_M) (b : Nat) (H1 : Heap), mm_V E s G1 H1 locs → f G1 b = some res → W p l e R s m args below meth c H1 locs (cells + 1) (slots + N) Q (F0 m (pc + 2) ls (va_rf (some b) :: rest))) : W p l e R s m args below meth c H locs cells slots Q (F0 m pc ls (.int n :: rest)) := by
  obtain ⟨⟨hexec, hb, -, hown, hts⟩, hK, -, -⟩ := X
  have hz := V.1.2.1
  refine va_newaK hexec hb (by rw [hat]; exact hts _ harr) rfl hdg rfl hn hN (by rw [hat]; exact hbytes) hcells hslots hz fun H1 cA e1 z1 o1 hAr hNm => ?_
  rw [hat] at e1 hNm
  have hcA : cA = E.2.1 1 := Option.some.inj (hNm.symm.trans (hK.2 1 _ rfl).2)
  subst hcA
  refine kk (mm_nw G 102 N) (mm_nx G) H1 (mm_V.nw 102 N V (by rw [z1, hz]) (fun q hq => o1 q (by rw [← hz]; exact hq)) ?_) hp
  rw [mm_cell_z E.2.1 (mm_nw_kd G 102 N), mm_nw_I, mm_nw_ln]
  exact e1
theorem q_arrP {C : String} {index : Nat} (X : mm_X p s m args meth c cc nL own Ts E) (V : mm_V E s G H locs) (ht : (mm_tys E.2.1)[2]? = some (E.2.1 2, .object C)) (hcl : Cond.classLink own index C ∈ Ts) (hover : va_AO C s) {n : Int32} {N : Nat} (hn : ¬ n < 0) (hN : n.toNatClampNeg = N) (hbytes : N * 4 ≤ 536870912) (hcells : cells + 1 ≤ R.cells) (hslots : slots + N ≤ R.slots) (hdg : decode cc pc = .ok (.anewarray index, 3)) {f : mm_M → Nat → Option α} (hp : q_arr G 103 N f = some res)
    (kk : ∀ (G1 : mm_M) (b : Nat) (H1 : Heap), mm_V E s G1 H1 locs → f G1 b = some res → W p l e R s m args below meth c H1 locs (cells + 1) (slots + N) Q (F0 m (pc + 3) ls (va_rf (some b) :: rest))) : W p l e R s m args below meth c H locs cells slots Q (F0 m pc ls (.int n :: rest)) := by
  obtain ⟨⟨hexec, hb, -, hown, hts⟩, hK, -, -⟩ := X
  have hz := V.1.2.1
  subst hN
  refine W.anew hexec hb hown (hts _ hcl) (va_AO.use hover) rfl hdg rfl hn hbytes hcells hslots fun cA kA comp f1 f2 f3 f4 => ?_
  obtain ⟨-, -, -, -, -, -, f5⟩ := hK.2 2 _ ht
  have hcA : cA = E.2.1 2 := Option.some.inj (f1.symm.trans f5)
  subst hcA
  refine W.eq (g2 := F0 m (pc + 3) ls (va_rf (some (mm_nx G)) :: rest)) (by rw [← hz]; rfl) ?_
  refine kk (mm_nw G 103 n.toNatClampNeg) (mm_nx G) _ (mm_V.nw 103 n.toNatClampNeg V (by rw [Array.size_push]) (fun q hq => by rw [Array.getElem?_push, if_neg (Nat.ne_of_lt hq)]) ?_) hp
  rw [mm_cell_p E.2.1 (mm_nw_kd G 103 _), mm_nw_R, mm_nw_ln]
  show _ = some (vp_cell _ _)
  rw [vp_cell_q, ← hz, Array.getElem?_push_size, show (fun j : Nat => va_rf ((fun _ => none : Nat → Option Nat) j)) = (fun _ => Value.null) from rfl, ← arrV_new]
theorem q_arrB {C : String} {index : Nat} (X : mm_X p s m args meth c cc nL own Ts E) (V : mm_V E s G H locs) (ht : (mm_tys E.2.1)[3]? = some (E.2.1 3, .object C)) (hcl : Cond.classLink own index C ∈ Ts) (hover : va_AO C s) {n : Int32} {N : Nat} (hn : ¬ n < 0) (hN : n.toNatClampNeg = N) (hbytes : N * 4 ≤ 536870912) (hcells : cells + 1 ≤ R.cells) (hslots : slots + N ≤ R.slots) (hdg : decode cc pc = .ok (.anewarray index, 3)) {f : mm_M → Nat → Option α} (hp : q_arr G 104 N f = some res)
    (kk : ∀ (G1 : mm_M) (b : Nat) (H1 : Heap), mm_V E s G1 H1 locs → f G1 b = some res → W p l e R s m args below meth c H1 locs (cells + 1) (slots + N) Q (F0 m (pc + 3) ls (va_rf (some b) :: rest))) : W p l e R s m args below meth c H locs cells slots Q (F0 m pc ls (.int n :: rest)) := by
  obtain ⟨⟨hexec, hb, -, hown, hts⟩, hK, -, -⟩ := X
  have hz := V.1.2.1
  subst hN
  refine W.anew hexec hb hown (hts _ hcl) (va_AO.use hover) rfl hdg rfl hn hbytes hcells hslots fun cA kA comp f1 f2 f3 f4 => ?_
  obtain ⟨-, -, -, -, -, -, f5⟩ := hK.2 3 _ ht
  have hcA : cA = E.2.1 3 := Option.some.inj (f1.symm.trans f5)
  subst hcA
  refine W.eq (g2 := F0 m (pc + 3) ls (va_rf (some (mm_nx G)) :: rest)) (by rw [← hz]; rfl) ?_
  refine kk (mm_nw G 104 n.toNatClampNeg) (mm_nx G) _ (mm_V.nw 104 n.toNatClampNeg V (by rw [Array.size_push]) (fun q hq => by rw [Array.getElem?_push, if_neg (Nat.ne_of_lt hq)]) ?_) hp
  rw [mm_cell_b E.2.1 (mm_nw_kd G 104 _), mm_nw_R, mm_nw_ln]
  show _ = some (vp_cell _ _)
  rw [vp_cell_q, ← hz, Array.getElem?_push_size, show (fun j : Nat => va_rf ((fun _ => none : Nat → Option Nat) j)) = (fun _ => Value.null) from rfl, ← arrV_new]
theorem q_copy {index : Nat} {a b : Nat} {sp dp n : Int32} (X : mm_X p s m args meth c cc nL own Ts E) (V : mm_V E s G H locs) (hml : ls.size = nL) (hlink : Cond.methodLink own index arraycopyName ∈ Ts) (hnat : Cond.native arraycopyName ∈ Ts) (hstat : Cond.static arraycopyName ∈ Ts) (hini : Cond.initialized "java/lang/System" ∈ Ts)
    (hframes : 1 ≤ R.frames) (hlocals : (rest.map fun v => v.category).sum + (nativeFrameWords "java/lang/System" "arraycopy" 5 + 11) ≤ R.locals) (hdg : decode cc pc = .ok (.invokestatic index, 3)) {f : mm_M → Option α} (hp : q_cpy G a sp b dp n f = some res)
    (kk : ∀ (G1 : mm_M) (H1 : Heap) (locs1 : List Loc), mm_V E s G1 H1 locs1 → f G1 = some res → W p l e R s m args below meth c H1 locs1 cells slots Q (F0 m (pc + 3) ls rest)) : W p l e R s m args below meth c H locs cells slots Q (F0 m pc ls (.int n :: .int dp :: va_rf (some b) :: .int sp :: va_rf (some a) :: rest)) := by
  obtain ⟨⟨⟨hKa, hKb⟩, ⟨h1, h2, h3⟩, h4, h5⟩, hp⟩ := q_pos hp
  have hone := mm_H.one V.1 hKa (by omega)
  have honeb := mm_H.one V.1 hKb (by omega)
  obtain ⟨z1, z2, z3⟩ := mm_K_pos hKa (by omega)
  obtain ⟨y1, y2, y3⟩ := mm_K_pos hKb (by omega)
  rw [mm_cell_i E.2.1 z3] at hone
  rw [mm_cell_i E.2.1 y3] at honeb
  obtain ⟨⟨hexec, hb, hnl, hown, hts⟩, hK, -, -⟩ := X
  have n0 : ∀ z : Int32, z.toNatClampNeg = z.toInt.toNat := fun _ => rfl
  have hc0 : H[a]? = some (vp_cell (E.2.1 0) (mm_ln G a, .inl (mm_I G a))) := hone
  have hc1 : H[b]? = some (vp_cell (E.2.1 0) (mm_ln G b, .inl (mm_I G b))) := honeb
  intro T hT X
  obtain ⟨-, k0, hk0, cm0, hkk0⟩ := (hK.2 0 _ rfl).1 (mm_ln G a) (fun j => .int (mm_I G a j))
  obtain ⟨-, k1, hk1, cm1, hkk1⟩ := (hK.2 0 _ rfl).1 (mm_ln G b) (fun j => .int (mm_I G b j))
  obtain ⟨vm', X', step⟩ := X.arraycopy hexec hown (hts _ hlink) (hts _ hnat) (hts _ hstat) (hts _ hini) (src := a) (dst := b) (cs := vp_cell (E.2.1 0) (mm_ln G a, .inl (mm_I G a))) (cd := vp_cell (E.2.1 0) (mm_ln G b, .inl (mm_I G b))) (srcPos := sp) (destPos := dp) (n := n) (by rw [hT]; exact hc0) (by rw [hT]; exact hc1)
    (fun _ h => by cases h) (fun _ h => by cases h) (fun h => by cases h) (fun h => by cases h) hk0 hk1 hkk0 hkk1 (by simp [refKind]) (mm_nl h1) (mm_nl h2) (mm_nl h3)
    (by show ¬ _ > ((arrV (E.2.1 0) (mm_ln G a) (fun j => .int (mm_I G a j))).slots.size : Int); rw [arrV_size]; omega)
    (by show ¬ _ > ((arrV (E.2.1 0) (mm_ln G b) (fun j => .int (mm_I G b j))).slots.size : Int); rw [arrV_size]; omega)
    (fun vm₁ _ i hi => by
      rw [n0] at hi
      have e : (vp_cell (E.2.1 0) (mm_ln G a, .inl (mm_I G a))).slots.getD (sp.toNatClampNeg + i) .null = .int (mm_I G a (sp.toNatClampNeg + i)) := by
        show (arrV (E.2.1 0) (mm_ln G a) (fun j => .int (mm_I G a j))).slots.getD _ _ = _
        rw [Array.getD_eq_getD_getElem?, arrV_read _ _ (by rw [n0]; omega)]
        rfl
      refine ⟨?_, ?_⟩
      · rw [e]
        rfl
      · rw [e]
        exact trivial)
    (g := F0 m pc ls (.int n :: .int dp :: .ref b :: .int sp :: .ref a :: rest)) rfl (by rw [hnl]; exact hml) (rest := rest) rfl (by rw [hb]; exact hdg) hframes (by show 2 * 0 + _ + _ ≤ _; omega)
  have e1 : copied (vp_cell (E.2.1 0) (mm_ln G a, .inl (mm_I G a))) (vp_cell (E.2.1 0) (mm_ln G b, .inl (mm_I G b))) sp dp n = vp_cell (E.2.1 0) (mm_ln G b, .inl (va_cpy (mm_I G a) (mm_I G b) sp.toNatClampNeg dp.toNatClampNeg n.toNatClampNeg)) := va_copied (fun z => .int z) (E.2.1 0) (E.2.1 0) (mm_I G a) (mm_I G b) (by rw [n0, n0]; omega)
  rw [e1] at X' step
  have hl : b < H.size := (Array.getElem?_eq_some_iff.mp hc1).1
  have hheap : ((T.setVm vm').setCell b (vp_cell (E.2.1 0) (mm_ln G b, .inl (va_cpy (mm_I G a) (mm_I G b) sp.toNatClampNeg dp.toNatClampNeg n.toNatClampNeg)))).heap = H.setIfInBounds b (vp_cell (E.2.1 0) (mm_ln G b, .inl (va_cpy (mm_I G a) (mm_I G b) sp.toNatClampNeg dp.toNatClampNeg n.toNatClampNeg))) := by rw [← hT]; rfl
  have oq : ∀ q : Nat, q ≠ b → (H.setIfInBounds b (vp_cell (E.2.1 0) (mm_ln G b, .inl (va_cpy (mm_I G a) (mm_I G b) sp.toNatClampNeg dp.toNatClampNeg n.toNatClampNeg))))[q]? = H[q]? := fun q hq => by simp [Array.getElem?_setIfInBounds, Ne.symm hq]
  obtain ⟨t, a1, b1⟩ := kk _ _ _ (mm_V.wr (mm_sA G b (va_cpy (mm_I G a) (mm_I G b) sp.toInt.toNat dp.toInt.toNat n.toInt.toNat)) V y1 rfl rfl (mm_cell_sA E.2.1 G b _) (by simp) oq (by
      rw [mm_cell_i E.2.1 (show mm_kd (mm_sA G b (va_cpy (mm_I G a) (mm_I G b) sp.toInt.toNat dp.toInt.toNat n.toInt.toNat)) b = 101 from y3)]
      have e5 : mm_I (mm_sA G b (va_cpy (mm_I G a) (mm_I G b) sp.toInt.toNat dp.toInt.toNat n.toInt.toNat)) b = va_cpy (mm_I G a) (mm_I G b) sp.toInt.toNat dp.toInt.toNat n.toInt.toNat := by funext j; simp [mm_I, mm_sA]
      rw [e5]
      show (H.setIfInBounds b _)[b]? = some _
      simp [Array.getElem?_setIfInBounds, hl]
      rfl) (fun x hx => by
      rcases List.mem_append.mp hx with h | h
      · exact Or.inl h
      · obtain ⟨z, -, hz⟩ := List.mem_map.mp h
        rw [← hz]
        exact Or.inr rfl)) hp _ hheap X'
  exact ⟨t, step t a1, b1⟩
end QNEW
/-! a contract: the program's memory before, the program's memory behind, the program's answer -/
abbrev mm_Pc (E : mm_E) (G : mm_M) (av : List Value) : Array Value → State → Prop := va_Pc av (fun U => mm_H E G U.heap ∧ va_K E.2.2 vwCl (mm_tys E.2.1) U ∧ va_AO "XorOverlay$Peer" U ∧ va_AO "XorOverlay$Bucket" U)
abbrev mm_Qi (E : mm_E) (G : mm_M) (r : Int32) : Array Value → State → Outcome → State → Prop := va_Qi (fun x (_ : Unit) => x = r) (fun _ t => mm_H E G t.heap) (mm_A E)
abbrev mm_Qv (E : mm_E) (G : mm_M) : Array Value → State → Outcome → State → Prop := va_Qv (fun _ : Unit => True) (fun _ t => mm_H E G t.heap) (mm_A E)
abbrev mm_Qq (E : mm_E) (G : mm_M) (r : Option Nat) : Array Value → State → Outcome → State → Prop := va_Qq (fun x (_ : Unit) => x = r) (fun _ t => mm_H E G t.heap) (mm_A E)
theorem mm_blind {E : mm_E} {G : mm_M} {av : List Value} : FrameBlind (mm_Pc E G av) := fun a U g mk q => ⟨q.1, q.2.1, va_K.moved (u := U) (U := U.calling g mk a) (Vm.Alike.refl U.vm) q.2.2.1, va_AO.moved (u := U) (U := U.calling g mk a) (Vm.Alike.refl U.vm) q.2.2.2.1, va_AO.moved (u := U) (U := U.calling g mk a) (Vm.Alike.refl U.vm) q.2.2.2.2⟩
section QCALL
variable {p : Program} {l : Launch} {e : Env} {R : Room} {s : State} {m : MethodId} {args : Array Value} {below : List Frame} {meth : Method} {c : Code} {H : Heap} {locs : List Loc} {cells slots cells' slots' : Nat} {Q : State → Prop}
variable {cc : ByteArray} {pc nL : Nat} {ls : Array Slot} {rest st : List Value} {own : String} {Ts : List Cond} {E : mm_E} {G G1 : mm_M}
variable {y : MethodName} {bytes : ByteArray} {maxL mc ms n index : Nat} {ret : Option FieldType} {ws : List Cond} {rm : Room} {C : String} {b : Nat} {As : List Value}
theorem mm_preS {av : List Value} (X : mm_X p s m args meth c cc nL own Ts E) (V : mm_V E s G H locs) : PreS s H (mm_Pc E G av) av := ⟨mm_blind, fun U hU hW => ⟨rfl, by rw [hU]; exact V.1, va_K.moved hW.alike X.2.1, va_AO.moved hW.alike X.2.2.2.2.1, va_AO.moved hW.alike X.2.2.2.2.2⟩⟩
theorem mm_preV {T : u_T} {N ci kd : Nat} (X : mm_X p s m args meth c cc nL own Ts E) (V : mm_V E s G H locs) (hc : vwCl[ci]? = some (C, T, N)) (hci : ci < 100) (hkd : kd = ci + 1) (hK : mm_K G b = kd) : PreV s H C b (mm_Pc E G (.ref b :: As)) As := by
  have hone := mm_H.one V.1 hK (by omega)
  have hkd2 := (mm_K_pos hK (by omega)).2.2
  rw [mm_cell_obj E.2.1 (hkd2.trans hkd) hci] at hone
  exact ⟨mm_blind, va_recv X.2.1 (mm_P1 hone) hc (q0 := 0) rfl, fun U hU hW => ⟨rfl, by rw [hU]; exact V.1, va_K.moved hW.alike X.2.1, va_AO.moved hW.alike X.2.2.2.2.1, va_AO.moved hW.alike X.2.2.2.2.2⟩⟩
theorem q_goi {a : Array Value} {r : Int32} (hr : va_Run p l e R s m args below meth c H locs cells slots mc ms (F0 m pc ls st) rest (mm_Qi E G1 r a) (mm_A E)) (V : mm_V E s G H locs) (he : cells + mc = cells' ∧ slots + ms = slots')
    (kk : ∀ (H1 : Heap) (locs1 : List Loc), mm_V E s G1 H1 locs1 → W p l e R s m args below meth c H1 locs1 cells' slots' Q (F0 m (pc + 3) ls (.int r :: rest))) : W p l e R s m args below meth c H locs cells slots Q (F0 m pc ls st) := by
  obtain ⟨rfl, rfl⟩ := he
  refine va_calli hr V.2 (fun q _ h => h) (fun q h => h) (fun r u t H1 locs ht hvm hw hB hz hk hS => ?_)
  subst hw
  exact kk H1 locs ⟨by rw [← ht]; exact hB, hS⟩
theorem q_gov {a : Array Value} (hr : va_Run p l e R s m args below meth c H locs cells slots mc ms (F0 m pc ls st) rest (mm_Qv E G1 a) (mm_A E)) (V : mm_V E s G H locs) (he : cells + mc = cells' ∧ slots + ms = slots')
    (kk : ∀ (H1 : Heap) (locs1 : List Loc), mm_V E s G1 H1 locs1 → W p l e R s m args below meth c H1 locs1 cells' slots' Q (F0 m (pc + 3) ls rest)) : W p l e R s m args below meth c H locs cells slots Q (F0 m pc ls st) := by
  obtain ⟨rfl, rfl⟩ := he
  refine va_callv hr V.2 (fun q _ h => h) (fun q h => h) (fun u t H1 locs ht hvm hw hB hz hk hS => ?_)
  exact kk H1 locs ⟨by rw [← ht]; exact hB, hS⟩
theorem q_goq {a : Array Value} {r : Option Nat} (hr : va_Run p l e R s m args below meth c H locs cells slots mc ms (F0 m pc ls st) rest (mm_Qq E G1 r a) (mm_A E)) (V : mm_V E s G H locs) (he : cells + mc = cells' ∧ slots + ms = slots')
    (kk : ∀ (H1 : Heap) (locs1 : List Loc), mm_V E s G1 H1 locs1 → W p l e R s m args below meth c H1 locs1 cells' slots' Q (F0 m (pc + 3) ls (va_rf r :: rest))) : W p l e R s m args below meth c H locs cells slots Q (F0 m pc ls st) := by
  obtain ⟨rfl, rfl⟩ := he
  refine va_callq hr V.2 (fun q _ h => h) (fun q h => h) (fun r u t H1 locs ht hvm hw hB hz hk hS => ?_)
  subst hw
  exact kk H1 locs ⟨by rw [← ht]; exact hB, hS⟩
theorem q_iret {v : Int32} {res : mm_M × Int32} (X : mm_X p s m args meth c cc nL own Ts E) (V : mm_V E s G H locs) (hr : meth.sig.returnType = some .int) (hcs : cells ≤ mc ∧ slots ≤ ms) (hdg : decode cc pc = .ok (.ireturn, 1)) (hp : some (G, v) = some res) : W p l e R s m args below meth c H locs cells slots (MQ below (mm_Qi E res.1 res.2) args s mc ms (mm_A E)) (F0 m pc ls [.int v]) := by
  cases hp
  exact W.widen hcs.1 hcs.2 (W.iret X.1.1 X.1.2.1 hr (fun t ht hW => ⟨⟨v, (), rfl, rfl, by show mm_H E G t.heap; rw [ht]; exact V.1⟩, V.2.F ht⟩) V.2.2.2 hdg (hlocks := X.2.2.1))
theorem q_zret {v : Int32} {res : mm_M × Int32} (X : mm_X p s m args meth c cc nL own Ts E) (V : mm_V E s G H locs) (hr : meth.sig.returnType = some .boolean) (hn : narrow .boolean (.int v) = .int v) (hcs : cells ≤ mc ∧ slots ≤ ms) (hdg : decode cc pc = .ok (.ireturn, 1)) (hp : some (G, v) = some res) : W p l e R s m args below meth c H locs cells slots (MQ below (mm_Qi E res.1 res.2) args s mc ms (mm_A E)) (F0 m pc ls [.int v]) := by
  cases hp
  exact W.widen hcs.1 hcs.2 (W.zret X.1.1 X.1.2.1 hr hn (fun t ht hW => ⟨⟨v, (), rfl, rfl, by show mm_H E G t.heap; rw [ht]; exact V.1⟩, V.2.F ht⟩) V.2.2.2 hdg (hlocks := X.2.2.1))
theorem q_vret {res : mm_M × Unit} (X : mm_X p s m args meth c cc nL own Ts E) (V : mm_V E s G H locs) (hr : meth.sig.returnType = none) (hcs : cells ≤ mc ∧ slots ≤ ms) (hdg : decode cc pc = .ok (.return_, 1)) (hp : some (G, ()) = some res) : W p l e R s m args below meth c H locs cells slots (MQ below (mm_Qv E res.1) args s mc ms (mm_A E)) (F0 m pc ls []) := by
  cases hp
  exact W.widen hcs.1 hcs.2 (W.vret X.1.1 X.1.2.1 hr (fun t ht hW => ⟨⟨(), rfl, trivial, by show mm_H E G t.heap; rw [ht]; exact V.1⟩, V.2.F ht⟩) V.2.2.2 hdg (hlocks := X.2.2.1))
theorem q_aret {v : Option Nat} {res : mm_M × Option Nat} {ty : String} (X : mm_X p s m args meth c cc nL own Ts E) (V : mm_V E s G H locs) (hr : meth.sig.returnType = some (.object ty)) (hcs : cells ≤ mc ∧ slots ≤ ms) (hdg : decode cc pc = .ok (.areturn, 1)) (hp : some (G, v) = some res) : W p l e R s m args below meth c H locs cells slots (MQ below (mm_Qq E res.1 res.2) args s mc ms (mm_A E)) (F0 m pc ls [va_rf v]) := by
  cases hp
  refine W.widen hcs.1 hcs.2 (W.aret X.1.1 X.1.2.1 hr (Or.inl ⟨_, rfl⟩) ?_ (fun t ht hW => ⟨⟨v, (), rfl, rfl, by show mm_H E G t.heap; rw [ht]; exact V.1⟩, V.2.F ht⟩) V.2.2.2 hdg (hlocks := X.2.2.1))
  cases v with
  | none => exact Or.inl rfl
  | some b => exact Or.inr ⟨b, rfl⟩
end QCALL
/-! locals: ints and references alone -/
def lx_val (q : Int32 ⊕ Option Nat) : Value := match q with
  | .inl x => .int x
  | .inr r => va_rf r
def lx_v (q : Nat × (Int32 ⊕ Option Nat)) : Nat × Value := (q.1, lx_val q.2)
def lx_has (ls : Array Slot) (nL : Nat) (l : List (Nat × (Int32 ⊕ Option Nat))) : Prop := lv_has ls nL (l.map lx_v)
theorem lx_cat (q : Int32 ⊕ Option Nat) : (lx_val q).category = 1 := by
  cases q with
  | inl x => rfl
  | inr r => exact va_rf_cat r
theorem lx_at {ls : Array Slot} {nL : Nat} {l : List (Nat × (Int32 ⊕ Option Nat))} (h : lx_has ls nL l) (k : Nat) {i : Nat} {v : Int32 ⊕ Option Nat} (hk : l[k]? = some (i, v)) : ls[i]? = some (.val (lx_val v)) := lv_at h k (by rw [List.getElem?_map, hk]; rfl)
theorem lx_sub {ls : Array Slot} {nL : Nat} {l l' : List (Nat × (Int32 ⊕ Option Nat))} (h : lx_has ls nL l) (ks : List Nat) (hl : ks.filterMap (fun k => l[k]?) = l') : lx_has ls nL l' := by
  subst hl
  refine ⟨h.1, h.2.1, fun q hq => ?_⟩
  obtain ⟨q0, h0, rfl⟩ := List.mem_map.mp hq
  obtain ⟨k, -, hk⟩ := List.mem_filterMap.mp h0
  exact h.2.2 _ (List.mem_map.mpr ⟨q0, List.mem_of_getElem? hk, rfl⟩)
theorem lx_put {ls : Array Slot} {nL i : Nat} {v : Int32 ⊕ Option Nat} {l l' : List (Nat × (Int32 ⊕ Option Nat))} (h : lv_has ls nL ((i, lx_val v) :: (l.map lx_v).filter (fun q => !(q.1 == i) && !(q.1 + 1 == i && q.2.category == 2)))) (hl : (i, v) :: l.filter (fun q => !(q.1 == i)) = l') : lx_has ls nL l' := by
  subst hl
  refine ⟨h.1, h.2.1, fun q hq => h.2.2 q ?_⟩
  obtain ⟨q0, h0, rfl⟩ := List.mem_map.mp hq
  rcases List.mem_cons.mp h0 with h1 | h1
  · subst h1; exact List.mem_cons_self
  · obtain ⟨h2, h3⟩ := List.mem_filter.mp h1
    refine List.mem_cons_of_mem _ (List.mem_filter.mpr ⟨List.mem_map.mpr ⟨q0, h2, rfl⟩, ?_⟩)
    have hc : (lx_v q0).2.category = 1 := lx_cat q0.2
    rw [hc]
    show (!(q0.1 == i) && _) = true
    rw [h3]
    simp
def lx_args : Nat → List (Int32 ⊕ Option Nat) → List (Nat × (Int32 ⊕ Option Nat))
  | _, [] => []
  | i, v :: vs => (i, v) :: lx_args (i + 1) vs
theorem lx_args_v (vs : List (Int32 ⊕ Option Nat)) : ∀ i, lv_args i (vs.map lx_val) = (lx_args i vs).map lx_v := by
  induction vs with
  | nil => intro i; rfl
  | cons v vs ih =>
    intro i
    show (i, lx_val v) :: lv_args (if (lx_val v).category = 2 then i + 2 else i + 1) (vs.map lx_val) = (i, lx_val v) :: (lx_args (i + 1) vs).map lx_v
    rw [lx_cat, if_neg (by decide), ih]
theorem lx_sl (vs : List (Int32 ⊕ Option Nat)) : (lg_sl (vs.map lx_val)).length = vs.length := by
  induction vs with
  | nil => rfl
  | cons v vs ih =>
    have e : lg_sl ((v :: vs).map lx_val) = (if (lx_val v).category = 2 then [Slot.val (lx_val v), .second] else [.val (lx_val v)]) ++ lg_sl (vs.map lx_val) := by simp [lg_sl]
    rw [e, lx_cat, if_neg (by decide), List.length_append, ih]
    simp
    omega
section LXR
variable {p : Program} {l : Launch} {e : Env} {R : Room} {s : State} {m : MethodId} {args : Array Value} {below : List Frame} {meth : Method} {c : Code} {H : Heap} {locs : List Loc} {cells slots : Nat} {Q : State → Prop}
variable {cc : ByteArray} {pc nL nL' : Nat} {ls : Array Slot} {rest : List Value} {own : String} {Ts : List Cond} {E : mm_E} {lst lst' : List (Nat × (Int32 ⊕ Option Nat))}
theorem x_iload_n {k : Fin 4} {i : Nat} {x : Int32} (X : mm_X p s m args meth c cc nL own Ts E) (hdg : decode cc pc = .ok (.iload_n k, 1)) (h : lx_has ls nL' lst) (j : Nat) (hj : lst[j]? = some (i, .inl x)) (hi : (k : Nat) = i)
    (kk : W p l e R s m args below meth c H locs cells slots Q (F0 m (pc + 1) ls (.int x :: rest))) : W p l e R s m args below meth c H locs cells slots Q (F0 m pc ls rest) := lv_iload_n X.1.1 X.1.2.1 hdg hi (lx_at h j hj) kk
theorem x_iload {i : Nat} {x : Int32} (X : mm_X p s m args meth c cc nL own Ts E) (hdg : decode cc pc = .ok (.iload i, 2)) (h : lx_has ls nL' lst) (j : Nat) (hj : lst[j]? = some (i, .inl x))
    (kk : W p l e R s m args below meth c H locs cells slots Q (F0 m (pc + 2) ls (.int x :: rest))) : W p l e R s m args below meth c H locs cells slots Q (F0 m pc ls rest) := lv_iload X.1.1 X.1.2.1 hdg (lx_at h j hj) kk
theorem x_aload_n {k : Fin 4} {i : Nat} {r : Option Nat} (X : mm_X p s m args meth c cc nL own Ts E) (hdg : decode cc pc = .ok (.aload_n k, 1)) (h : lx_has ls nL' lst) (j : Nat) (hj : lst[j]? = some (i, .inr r)) (hi : (k : Nat) = i)
    (kk : W p l e R s m args below meth c H locs cells slots Q (F0 m (pc + 1) ls (va_rf r :: rest))) : W p l e R s m args below meth c H locs cells slots Q (F0 m pc ls rest) := q_aload_n r X hdg hi (lx_at h j hj) kk
theorem x_aload {i : Nat} {r : Option Nat} (X : mm_X p s m args meth c cc nL own Ts E) (hdg : decode cc pc = .ok (.aload i, 2)) (h : lx_has ls nL' lst) (j : Nat) (hj : lst[j]? = some (i, .inr r))
    (kk : W p l e R s m args below meth c H locs cells slots Q (F0 m (pc + 2) ls (va_rf r :: rest))) : W p l e R s m args below meth c H locs cells slots Q (F0 m pc ls rest) := q_aload r X hdg (lx_at h j hj) kk
theorem x_istore_n {k : Fin 4} {i : Nat} {x : Int32} (X : mm_X p s m args meth c cc nL own Ts E) (hdg : decode cc pc = .ok (.istore_n k, 1)) (h : lx_has ls nL' lst) (hi : (k : Nat) = i) (hn : i < nL') (hl : (i, .inl x) :: lst.filter (fun q => !(q.1 == i)) = lst')
    (kk : ∀ ls' : Array Slot, lx_has ls' nL' lst' → W p l e R s m args below meth c H locs cells slots Q (F0 m (pc + 1) ls' rest)) : W p l e R s m args below meth c H locs cells slots Q (F0 m pc ls (.int x :: rest)) := lv_istore_n X.1.1 X.1.2.1 hdg hi h hn rfl (fun ls' h' => kk ls' (lx_put (v := .inl x) h' hl))
theorem x_istore {i : Nat} {x : Int32} (X : mm_X p s m args meth c cc nL own Ts E) (hdg : decode cc pc = .ok (.istore i, 2)) (h : lx_has ls nL' lst) (hn : i < nL') (hl : (i, .inl x) :: lst.filter (fun q => !(q.1 == i)) = lst')
    (kk : ∀ ls' : Array Slot, lx_has ls' nL' lst' → W p l e R s m args below meth c H locs cells slots Q (F0 m (pc + 2) ls' rest)) : W p l e R s m args below meth c H locs cells slots Q (F0 m pc ls (.int x :: rest)) := lv_istore X.1.1 X.1.2.1 hdg h hn rfl (fun ls' h' => kk ls' (lx_put (v := .inl x) h' hl))
theorem x_astore_n {k : Fin 4} {i : Nat} {r : Option Nat} (X : mm_X p s m args meth c cc nL own Ts E) (hdg : decode cc pc = .ok (.astore_n k, 1)) (h : lx_has ls nL' lst) (hi : (k : Nat) = i) (hn : i < nL') (hl : (i, .inr r) :: lst.filter (fun q => !(q.1 == i)) = lst')
    (kk : ∀ ls' : Array Slot, lx_has ls' nL' lst' → W p l e R s m args below meth c H locs cells slots Q (F0 m (pc + 1) ls' rest)) : W p l e R s m args below meth c H locs cells slots Q (F0 m pc ls (va_rf r :: rest)) := q_astore_n r X hdg hi h hn rfl (fun ls' h' => kk ls' (lx_put (v := .inr r) h' hl))
theorem x_astore {i : Nat} {r : Option Nat} (X : mm_X p s m args meth c cc nL own Ts E) (hdg : decode cc pc = .ok (.astore i, 2)) (h : lx_has ls nL' lst) (hn : i < nL') (hl : (i, .inr r) :: lst.filter (fun q => !(q.1 == i)) = lst')
    (kk : ∀ ls' : Array Slot, lx_has ls' nL' lst' → W p l e R s m args below meth c H locs cells slots Q (F0 m (pc + 2) ls' rest)) : W p l e R s m args below meth c H locs cells slots Q (F0 m pc ls (va_rf r :: rest)) := q_astore r X hdg h hn rfl (fun ls' h' => kk ls' (lx_put (v := .inr r) h' hl))
theorem x_iinc {i : Nat} {n : Int} {x v : Int32} (X : mm_X p s m args meth c cc nL own Ts E) (hdg : decode cc pc = .ok (.iinc i n, 3)) (h : lx_has ls nL' lst) (j : Nat) (hj : lst[j]? = some (i, .inl x)) (hv : Int32.ofInt n = v) (hn : i < nL') (hl : (i, .inl (x + v)) :: lst.filter (fun q => !(q.1 == i)) = lst')
    (kk : ∀ ls' : Array Slot, lx_has ls' nL' lst' → W p l e R s m args below meth c H locs cells slots Q (F0 m (pc + 3) ls' rest)) : W p l e R s m args below meth c H locs cells slots Q (F0 m pc ls rest) := lv_iinc (k := j) (v := x + v) X.1.1 X.1.2.1 hdg h (by rw [List.getElem?_map, hj]; rfl) (by rw [hv]) hn rfl (fun ls' h' => kk ls' (lx_put (v := .inl (x + v)) h' hl))
end LXR
theorem q_ifn {α : Type} {P : Prop} [Decidable P] {x y : Option α} {r : α} {X1 X2 X : Prop} (hp : (if P then x else y) = some r) (f : (¬ P → X1) → (P → X2) → X) (k1 : y = some r → X1) (k2 : x = some r → X2) : X := f (fun h => k1 (by rwa [if_neg h] at hp)) (fun h => k2 (by rwa [if_pos h] at hp))
def q_cl {α β : Type} (x : Option (mm_M × β)) (f : mm_M → β → Option α) : Option α := match x with
  | none => none
  | some y => f y.1 y.2
theorem q_cl_of {α β : Type} {x : Option (mm_M × β)} {f : mm_M → β → Option α} {r : α} (hp : q_cl x f = some r) : ∃ y : mm_M × β, x = some y ∧ f y.1 y.2 = some r := by
  cases x with
  | none => cases hp
  | some y => exact ⟨y, rfl, hp⟩
theorem q_is_of {α : Type} {G : mm_M} {a kd : Nat} {f : Option α} {r : α} (hp : q_is G a kd f = some r) : mm_K G a = kd ∧ f = some r := q_pos hp
/-- a contract out of the walk of a body -/
theorem mm_met {l : Launch} {y : MethodName} {ws : List Cond} {rm : Room} {Qc : Array Value → State → Outcome → State → Prop} {mc ms : Nat} {cc : ByteArray} {maxL : Nat} {ret : Option FieldType} {own : String} (E : mm_E) (G : mm_M) (vs : List (Int32 ⊕ Option Nat)) (hy : plainName y.cls = true) (hw : ws = Cond.code y cc maxL ret :: tw_T) (hown : y.cls = own) (hn : vs.length ≤ maxL)
    (body : ∀ (p : Program) (e : Env) (s : State) (m : MethodId) (args : Array Value) (below : List Frame) (meth : Method) (c : Code) (ls : Array Slot), mm_X p s m args meth c cc maxL own tw_T E → meth.sig.returnType = ret → meth.name = y.name → mm_V E s G s.heap [] → lx_has ls maxL (lx_args 0 vs) → W p l e rm s m args below meth c s.heap [] 0 0 (MQ below Qc args s mc ms (mm_A E)) (F0 m 0 ls [])) : Met l y ws rm (mm_Pc E G (vs.map lx_val)) Qc mc ms (mm_A E) := by
  refine Met.ofW (cc := cc) (maxL := maxL) (ret := ret) hy hw ?_
  intro p e s m args below meth c s₁ B hml hv
  obtain ⟨rfl, hH, hK, hA1, hA2⟩ := hv
  have hl := lv_entry (vs.map lx_val) (n := maxL) (by rw [lx_sl]; exact hn)
  rw [lg_entry_eq]
  rw [lx_args_v] at hl
  refine body p e s m _ below meth c _ ⟨⟨B.exec, B.bytes, hml, ?_, fun w h => atoms_spec (ws := ws) B.pre w (by rw [hw]; exact List.mem_cons_of_mem _ h)⟩, hK, B.notSynchronized, hH.2.2.1, hA1, hA2⟩ B.returns (name_of_methodNamed B.named B.method).1 ⟨hH, va_S.rf⟩ hl
  rw [← hown]
  exact findClass_of_methodNamed B.named
