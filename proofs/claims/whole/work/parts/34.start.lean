/-- what holds at the law's entry -/
def lw_At (p : Program) (s : State) (m : MethodId) (meth : Method) (c : Code) (b L : Nat) (xs : Nat → Int32) : Prop :=
  p.tables.exec = Jvm.exec ∧ c.code = code ∧ meth.sig.returnType = ret ∧ c.maxLocals = 4 ∧ s.vm.findClass R_law = some m.cls ∧ (∀ w ∈ lw_tbl, w.before #[Value.ref b] s = true) ∧ va_X b L xs s s.heap ∧ b < s.heap.size ∧ meth.locks = false ∧ (Jvm.Cond.and given_1 narrow_1).before #[Value.ref b] s = true
theorem tl_1 (i : Nat) {w : Cond} (h : tables_1_1[i]? = some w) : w ∈ lw_tbl := List.mem_append_right _ (show w ∈ tables_1 from List.mem_append_left _ (List.mem_of_getElem? h))
theorem tl_2 (i : Nat) {w : Cond} (h : tables_1_2[i]? = some w) : w ∈ lw_tbl := List.mem_append_right _ (show w ∈ tables_1 from List.mem_append_right _ (List.mem_append_left _ (List.mem_of_getElem? h)))
theorem tl_3 (i : Nat) {w : Cond} (h : tables_1_3[i]? = some w) : w ∈ lw_tbl := List.mem_append_right _ (show w ∈ tables_1 from List.mem_append_right _ (List.mem_append_right _ (List.mem_append_left _ (List.mem_of_getElem? h))))
theorem tl_4 (i : Nat) {w : Cond} (h : tables_1_4[i]? = some w) : w ∈ lw_tbl := List.mem_append_right _ (show w ∈ tables_1 from List.mem_append_right _ (List.mem_append_right _ (List.mem_append_right _ (List.mem_of_getElem? h))))
def mm_0 (lo : Nat) : mm_M := (lo, lo, fun _ => 0, fun _ => 0, fun _ _ => 0, fun _ _ => none)
theorem mm_aot {s : State} {cA comp : ClassId} {kA : Class} {ty : FieldType} (h2 : s.vm.classes[cA]? = some kA) (h3 : kA.kind = .array comp ty) : ArrOfT s cA ty := fun n z => ⟨fun k h => (by cases h), kA, h2, comp, h3⟩
set_option maxRecDepth 100000 in
set_option maxHeartbeats 4000000 in
theorem whole_of {p : Program} {e : Env} {s : State} {m : MethodId} {below : List Frame} {meth : Method} {c : Code} (l : Launch) {b L : Nat} {xs : Nat → Int32} (C0 : lw_At p s m meth c b L xs) {N : Nat} {res : mm_M × Int32} (hp : pL_law_0 N b L xs (mm_0 s.heap.size) = some res) (h1 : res.2 = 1) : W p l e room_1 s m #[Value.ref b] below meth c s.heap [] 0 0 (lw_Z below #[Value.ref b] s) (entryFrame m ([Value.ref b] : List Value).toArray 4) := by
  obtain ⟨hx, hb, hr, hml, hown, hts, hX, hbl, hlocks, -⟩ := C0
  have ht : ∀ w ∈ tw_T, w.before #[Value.ref b] s = true := fun w h => hts w (tw_sub w h)
  obtain ⟨d0, i0, k0⟩ := u_known ht inX0 (ht _ (show Cond.instantiable "XorOverlay$Bucket" 6 ∈ tw_T from (tw_1 90 rfl rfl)))
  obtain ⟨d1, i1, k1⟩ := u_known ht inX1 (ht _ (show Cond.instantiable "XorOverlay$Entries" 4 ∈ tw_T from (tw_1 189 rfl rfl)))
  obtain ⟨d2, i2, k2⟩ := u_known ht inX2 (ht _ (show Cond.instantiable "XorOverlay$Line" 2 ∈ tw_T from (tw_1 22 rfl rfl)))
  obtain ⟨d3, i3, k3⟩ := u_known ht inX3 (ht _ (show Cond.instantiable "XorOverlay$Lookup" 11 ∈ tw_T from (tw_1 138 rfl rfl)))
  obtain ⟨d4, i4, k4⟩ := u_known ht inX4 (ht _ (show Cond.instantiable "XorOverlay$Peer" 5 ∈ tw_T from (tw_1 77 rfl rfl)))
  obtain ⟨d5, i5, k5⟩ := u_known ht inX5 (ht _ (show Cond.instantiable "XorOverlay$Table" 3 ∈ tw_T from (tw_1 83 rfl rfl)))
  obtain ⟨d6, i6, k6⟩ := u_known ht inX6 (ht _ (show Cond.instantiable "XorOverlay" 7 ∈ tw_T from (tw_1 12 rfl rfl)))
  obtain ⟨d7, i7, k7⟩ := u_known ht inX7 (ht _ (show Cond.instantiable "XorOverlayModel" 27 ∈ tw_T from (tw_3 24 rfl rfl)))
  obtain ⟨cI, kI, oI, nI, gI, eI⟩ := Cond.arrayClass_spec (ht _ (show Cond.arrayClass .int ∈ tw_T from (tw_1 35 rfl rfl)))
  obtain ⟨cZ, kZ, oZ, nZ, gZ, eZ⟩ := Cond.arrayClass_spec (ht _ (show Cond.arrayClass .boolean ∈ tw_T from (tw_3 111 rfl rfl)))
  have aoP := hts _ (show Cond.arrayOver (.object "XorOverlay$Peer") ∈ lw_tbl from (tl_1 20 rfl))
  obtain ⟨oP, cP, kP, pP, -, gP, eP, nP⟩ := Cond.arrayOver_spec aoP
  have aoB := hts _ (show Cond.arrayOver (.object "XorOverlay$Bucket") ∈ lw_tbl from (tl_1 89 rfl))
  obtain ⟨oB, cB, kB, pB, -, gB, eB, nB⟩ := Cond.arrayOver_spec aoB
  generalize hE : ((s.heap.size, (fun k => match k with | 0 => cI | 1 => cZ | 2 => cP | _ => cB), ((fun ci => match ci with | 0 => d0 | 1 => d1 | 2 => d2 | 3 => d3 | 4 => d4 | 5 => d5 | 6 => d6 | _ => d7), (fun ci => match ci with | 0 => i0 | 1 => i1 | 2 => i2 | 3 => i3 | 4 => i4 | 5 => i5 | 6 => i6 | _ => i7))) : mm_E) = E
  have hK : va_K E.2.2 vwCl (mm_tys E.2.1) s := by
    subst hE
    refine ⟨fun ci q hq => ?_, fun k q hq => ?_⟩
    · have hlt : ci < 8 := (List.getElem?_eq_some_iff.mp hq).1
      rcases (show ci = 0 ∨ ci = 1 ∨ ci = 2 ∨ ci = 3 ∨ ci = 4 ∨ ci = 5 ∨ ci = 6 ∨ ci = 7 by omega) with rfl | rfl | rfl | rfl | rfl | rfl | rfl | rfl
      · cases hq; exact k0
      · cases hq; exact k1
      · cases hq; exact k2
      · cases hq; exact k3
      · cases hq; exact k4
      · cases hq; exact k5
      · cases hq; exact k6
      · cases hq; exact k7
    · have hlt : k < 4 := (List.getElem?_eq_some_iff.mp hq).1
      rcases (show k = 0 ∨ k = 1 ∨ k = 2 ∨ k = 3 by omega) with rfl | rfl | rfl | rfl
      · cases hq; exact ⟨mm_aot gI eI, nI⟩
      · cases hq; exact ⟨mm_aot gZ eZ, nZ⟩
      · cases hq; exact ⟨mm_aot gP eP, kP, oP, gP, eP, pP, nP⟩
      · cases hq; exact ⟨mm_aot gB eB, kB, oB, gB, eB, pB, nB⟩
  have hE1 : E.1 = s.heap.size := by subst hE; rfl
  have X : mm_X p s m #[Value.ref b] meth c code 4 "XorOverlayLaw" tw_T E := ⟨⟨hx, hb, hml, hown, ht⟩, hK, hlocks, by omega, va_AO.of aoP, va_AO.of aoB⟩
  have V : mm_V E s (mm_0 s.heap.size) s.heap [] := ⟨⟨hE1.symm, rfl, by omega, fun a g1 g2 => by
    have q1 : s.heap.size ≤ a := g1
    have q2 : a < s.heap.size := g2
    omega⟩, va_S.rf⟩
  have hl := lv_entry ([Value.ref b]) (n := 4) (Nat.le_of_ble_eq_true rfl)
  rw [lg_entry_eq]
  exact bL_law_0 X hr ⟨hX, hbl, hE1⟩ h1 V hl hp
