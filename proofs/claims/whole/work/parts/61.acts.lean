/-! the acting calls: leave, begin, refresh, drop -/
def wfp (S : List Nat) (p : Pe) : Prop := p.1 < 256 ∧ (0 < p.2.2.1.length ∧ p.2.2.1.length ≤ 9 ∧ okB p.2.2.1 ∧ (∀ n ∈ cns p.2.2.1, n < 256) ∧ mcB p.2.2.1 40000 ∧ ∀ b ∈ p.2.2.1, b.2.2.1 < 100000) ∧ (inS p.2.2.2.1.2.2.2.2.1 S ∧ (p.2.2.2.1.2.2.2.2.2.Nodup ∧ ∀ x ∈ p.2.2.2.1.2.2.2.2.2, x ∈ S) ∧ p.2.2.2.1.2.2.1 < 256 ∧ ∀ c ∈ p.2.2.2.1.2.2.2.2.1, -1 ≤ c.2.2.1 ∧ c.2.2.1 ≤ 100000) ∧ p.2.2.2.2.length ≤ 6
def WF (P : List (Nat × Pe)) (now ser : Nat) : Prop := (now < 10000 ∧ ser < 10000) ∧ (∀ p ∈ P, wfp (P.map (fun p => p.2.1)) p.2)
theorem WF.pe9 {P : List (Nat × Pe)} {now ser : Nat} (h : WF P now ser) : ∀ q ∈ P, pe9 q.2 := fun q hq => (h.2 q hq).2.1.2.1
theorem WF.S {P : List (Nat × Pe)} {now ser : Nat} (h : WF P now ser) (h12 : P.length ≤ 12) : (P.map (fun p => p.2.1)).length ≤ 12 ∧ ∀ x ∈ P.map (fun p => p.2.1), x < 256 := ⟨by simpa using h12, fun x hx => by
  obtain ⟨p, hp, rfl⟩ := List.mem_map.mp hx
  exact (h.2 p hp).1⟩
theorem inS_len {C : List Cd} {S : List Nat} (h : inS C S) (hS : S.length ≤ 12) : C.length ≤ 12 := by
  have := pig (C.map Prod.fst) S h.1 (fun x hx => by obtain ⟨c, hc1, rfl⟩ := List.mem_map.mp hx; exact h.2 c hc1)
  simp at this; omega
section ACTS
variable {G : mm_M} {J : Nat → Nat → Int32} {a now ser N : Nat} {P : List (Nat × Pe)} {L : List Dg}
def downP (p : Pe) : Pe := (p.1, false, p.2.2)
def leaveP (P : List (Nat × Pe)) (k : Nat) : List (Nat × Pe) := P.modify k (fun q => (q.1, downP q.2))
theorem modify_set {α : Type} {l : List α} {k : Nat} {x : α} (f : α → α) (h : l[k]? = some x) : l.modify k f = l.set k (f x) := by
  have hl := (List.getElem?_eq_some_iff.mp h).1
  apply List.ext_getElem?
  intro i
  rw [List.getElem?_modify]
  by_cases hi : k = i
  · subst hi
    rw [h, List.getElem?_set_self hl]
    simp
  · rw [List.getElem?_set_ne hi]
    cases l[i]? <;> simp [hi]
theorem e_leave {x : Int32} (h : CW G J a P now ser L) (hw : WF P now ser) (hN : 400 ≤ N) : (ups P x.toInt = none ∧ pX6_leave_0 N a (mm_w G J) x = some (mm_w G J, 0)) ∨ ∃ k p J', P[k]? = some p ∧ ups P x.toInt = some p ∧ pX6_leave_0 N a (mm_w G J) x = some (mm_w G J', 1) ∧ CW G J' a (leaveP P k) now ser L ∧ ∀ z j, z < a ∨ (a + 6 ≤ z ∧ z < a + 29) → J' z j = J z j := by
  unfold pX6_leave_0
  rw [w_is h.1.1, e_up h hN, w_cl]
  cases hu : ups P x.toInt with
  | none => exact Or.inl ⟨rfl, rfl⟩
  | some p =>
    obtain ⟨hb, q, k, hk⟩ := ups_pv h hu
    simp only [Option.map_some]
    have fr : ∀ z j, z ≠ p.1 ∨ j ≠ 4 → js J p.1 4 0 z j = J z j := fun z j hz => js_ne _ hz
    refine Or.inr ⟨k, p, js J p.1 4 0, hk, rfl, by rw [w_op, w_pI q.1.1], ?_, fun z j hz => fr z j (Or.inl (by omega))⟩
    unfold leaveP
    rw [modify_set _ hk]
    obtain ⟨p1, p2⟩ := p
    have hp' : pv (mm_rw G (p1 + 2) (mm_R G (p1 + 2))) (js J p1 4 0) p1 (downP p2) := by
      rw [mm_rwR]
      obtain ⟨h0, ⟨h1, h2⟩, ⟨w, hw', ht⟩, hk', he⟩ := q
      refine ⟨h0, ⟨by rw [fr _ _ (Or.inr (by omega))]; exact h1, by rw [js_same]; rfl⟩, ⟨w, hw', tv_congr hw' (hw.pe9 _ (List.mem_of_getElem? hk)) ht (fun z z1 z2 j => fr z j (Or.inl (by dsimp only at z1 ⊢; omega)))⟩, lk_congr hk' (fun z z1 z2 j => fr z j (Or.inl (by dsimp only at z1 ⊢; omega))), en_congr he (fun z z1 z2 j => fr z j (Or.inl (by dsimp only at z1 ⊢; omega)))⟩
    have := CW.upd (now' := now) (ser' := ser) (L' := L) h hw.pe9 hk hp' ⟨by rw [fr _ _ (Or.inl (by dsimp only at hb ⊢; omega))]; exact h.2.2.2.1.1, fun i D hD c hc => by rw [fr _ _ (Or.inl (by dsimp only at hb ⊢; omega))]; exact h.2.2.2.1.2 i D hD c hc⟩ h.2.1.2 (fr _ _ (Or.inl (by dsimp only at hb ⊢; omega))) (by rw [fr _ _ (Or.inl (by dsimp only at hb ⊢; omega))]; exact h.2.2.1.2.1) (by rw [fr _ _ (Or.inl (by dsimp only at hb ⊢; omega))]; exact h.2.2.1.2.2) (fun z j _ hz => fr z j (Or.inl (by omega)))
    rw [mm_rwR] at this
    exact this
/-- a peer and the line, once a lookup is started -/
def strP (now ser : Nat) (p : Pe) (k t : Nat) (L : List Dg) : Pe × List Dg :=
  let bs1 := tchB p.2.2.1 t now
  let C0 := cl3 bs1 t 3 (cbb bs1 t (-1) (-1)) []
  let CL := goL k p.1 (ser + 1) t now 2 C0 L
  ((p.1, p.2.1, bs1, (goS 1 CL.1, k, t, ser + 1, CL.1, []), p.2.2.2.2), goD k p.1 (ser + 1) t CL.1 CL.2)
theorem goD_len {k nr se t : Nat} {C : List Cd} {L : List Dg} (h : L.length ≤ 24) : (goD k nr se t C L).length ≤ 24 := by
  unfold goD
  split
  · exact lin_len_sst C 0 L h
  · exact h
/-- what it keeps to: its own cells -/
def frC (J J' : Nat → Nat → Int32) (a : Nat) : Prop := ∀ z j, z < a ∨ (a + 6 ≤ z ∧ z < a + 29) → J' z j = J z j
theorem frP.C {J J' : Nat → Nat → Int32} {a b : Nat} (h : frP J J' a b) (hb : a + 29 ≤ b) : frC J J' a := fun z j hz => h z j (by omega) (by omega) (by omega) (by omega) (Or.inl (by omega))
theorem e_startW {x y : Int32} {k t i : Nat} {b : Nat} {p : Pe} (h : CW G J a P now ser L) (hw : WF P now ser) (hN : 400 ≤ N) (hi : P[i]? = some (b, p)) (hx : x.toInt = (k : Int)) (hy : y.toInt = (t : Int)) (ht : t < 256) : ∃ J', pX6_startLookup_0 N a (mm_w G J) (some b) x y = some (mm_w G J', ()) ∧ CW G J' a (P.set i (b, (strP now ser p k t L).1)) now (ser + 1) (strP now ser p k t L).2 ∧ frC J J' a := by
  obtain ⟨q1, q2, q3⟩ := h.2.2.2.2.1 i _ hi
  dsimp only at q1 q2 q3
  obtain ⟨w0, ⟨w1, w2, w3, w4, w5, w6⟩, w7, w8⟩ := hw.2 _ (List.mem_of_getElem? hi)
  dsimp only at w0 w1 w2 w3 w4 w5 w6 w7 w8
  obtain ⟨h0, ⟨h1, h2⟩, ⟨w, hT, htv⟩, hk', he⟩ := q3
  obtain ⟨J', e1, e2, e3, e4, e5, e6⟩ := e_startL (N := N) h.1 h0 hT (by omega) htv w3 w1 w2 w4 hk' h.2.2.2.1 h.2.1.2 h.2.2.1.2.1 h.2.2.1.2.2 (by have := hw.1.2; omega) h1 hN hx hy ht
  refine ⟨J', e1, ?_, e6.C q2⟩
  have hp' : pv (mm_rw G (b + 2) (mm_R G (b + 2))) J' b (strP now ser p k t L).1 := by
    rw [mm_rwR]
    exact ⟨h0, ⟨by rw [e6 _ _ (by omega) (by omega) (by omega) (by omega) (Or.inl (by omega))]; exact h1, by rw [e6 _ _ (by omega) (by omega) (by omega) (by omega) (Or.inl (by omega))]; exact h2⟩, ⟨w, hT, e3⟩, e4, en_congr he (fun z z1 z2 j => e6 z j (by omega) (by omega) (by omega) (by omega) (Or.inl (by omega)))⟩
  have := CW.upd (now' := now) (ser' := ser + 1) h hw.pe9 hi hp' e5 (goD_len ((goL_len 2 _ L).2 h.2.1.2)) (e6 _ _ (by omega) (by omega) (by omega) (by omega) (Or.inr (by omega))) (by rw [e6 _ _ (by omega) (by omega) (by omega) (by omega) (Or.inr (by omega))]; exact h.2.2.1.2.1) e2 (fun z j z1 z2 => e6 z j (by omega) (by omega) (by omega) (by omega) (Or.inl (by omega)))
  rw [mm_rwR] at this
  exact this
/-- may a lookup begin -/
def bgn (P : List (Nat × Pe)) (v k t : Int) : Option (Nat × Pe) := match ups P v with
  | some p => if p.2.2.2.2.1.1 ≠ 1 ∧ (0 ≤ k ∧ k ≤ 2) ∧ 0 ≤ t ∧ t < 256 then some p else none
  | none => none
theorem e_begin {x y z : Int32} (h : CW G J a P now ser L) (hw : WF P now ser) (hN : 400 ≤ N) : (bgn P x.toInt y.toInt z.toInt = none ∧ pX6_begin_0 N a (mm_w G J) x y z = some (mm_w G J, 0)) ∨ ∃ i p J', P[i]? = some p ∧ bgn P x.toInt y.toInt z.toInt = some p ∧ pX6_begin_0 N a (mm_w G J) x y z = some (mm_w G J', 1) ∧ CW G J' a (P.set i (p.1, (strP now ser p.2 y.toInt.toNat z.toInt.toNat L).1)) now (ser + 1) (strP now ser p.2 y.toInt.toNat z.toInt.toNat L).2 ∧ frC J J' a := by
  unfold pX6_begin_0 bgn
  rw [w_is h.1.1, e_up h hN, w_cl]
  cases hu : ups P x.toInt with
  | none => exact Or.inl ⟨rfl, rfl⟩
  | some p =>
    obtain ⟨hb, q, i, hi⟩ := ups_pv h hu
    simp only [Option.map_some]
    have hpre : (q_op (some p.1) (some (mm_w G J, (0 : Int32))) fun b9_3 => q_gR (mm_w G J) b9_3 5 2 fun r14_4 => q_nn r14_4 fun b17_5 => q_is (mm_w G J) b17_5 4 <| q_cl (pX3_isRunning_0 N b17_5 (mm_w G J)) fun G v17_7 => if v17_7 = 0 then if y < 0 then some (G, (0 : Int32)) else if (2 : Int32) < y then some (G, (0 : Int32)) else q_cl (pX6_isNumber_0 N G z) fun G v35_9 => if v35_9 = 0 then some (G, (0 : Int32)) else q_is G a 7 <| q_cl (pX6_startLookup_0 N a G (some b9_3) y z) fun G _ => some (G, (1 : Int32)) else some (G, (0 : Int32))) = if p.2.2.2.2.1.1 ≠ 1 ∧ (0 ≤ y.toInt ∧ y.toInt ≤ 2) ∧ 0 ≤ z.toInt ∧ z.toInt < 256 then q_cl (pX6_startLookup_0 N a (mm_w G J) (some p.1) y z) fun G _ => some (G, (1 : Int32)) else some (mm_w G J, 0) := by
      rw [w_op, w_gR q.1.1, q.1.2.1.2.1, w_nn, w_is q.1.2.2.1.1, e_running q.1.2.2.1 q.2.2.2.1, w_cl]
      by_cases hs : p.2.2.2.2.1.1 = 1
      · rw [if_pos hs, if_neg (by decide), if_neg (fun e => e.1 hs)]
      · rw [if_neg hs, if_pos rfl]
        by_cases hy0 : y.toInt < 0
        · rw [if_pos (by rw [zi_lt, zi_0]; exact hy0), if_neg (fun e => by omega)]
        · rw [if_neg (by rw [zi_lt, zi_0]; exact hy0)]
          by_cases hy2 : 2 < y.toInt
          · rw [if_pos (by rw [zi_lt, zi_2]; exact hy2), if_neg (fun e => by omega)]
          · rw [if_neg (by rw [zi_lt, zi_2]; exact hy2), e_isnum, w_cl]
            by_cases hz : 0 ≤ z.toInt ∧ z.toInt < 256
            · rw [if_pos hz, if_neg (by decide), w_is h.1.1, if_pos ⟨hs, by omega, hz⟩]
            · rw [if_neg hz, if_pos rfl, if_neg (fun e => hz e.2.2)]
    rw [hpre]
    by_cases hc : p.2.2.2.2.1.1 ≠ 1 ∧ (0 ≤ y.toInt ∧ y.toInt ≤ 2) ∧ 0 ≤ z.toInt ∧ z.toInt < 256
    · obtain ⟨J', e1, e2, e3⟩ := e_startW (N := N) (x := y) (y := z) (k := y.toInt.toNat) (t := z.toInt.toNat) (b := p.1) (p := p.2) h hw hN hi (by omega) (by omega) (by omega)
      refine Or.inr ⟨i, p, J', hi, if_pos hc, ?_, e2, e3⟩
      rw [if_pos hc, e1, w_cl]
    · exact Or.inl ⟨if_neg hc, if_neg hc⟩
def rfr (P : List (Nat × Pe)) (now : Nat) (v : Int) : Option ((Nat × Pe) × Nat) := match ups P v with
  | some p => if p.2.2.2.2.1.1 ≠ 1 then (stl p.2.2.2.1 now).map (fun t => (p, t)) else none
  | none => none
theorem stl_256 {bs : List Bk} {now : Nat} (h : ∀ b ∈ bs, b.1 + b.2.1 ≤ 256) : ∀ t, stl bs now = some t → t < 256 := by
  intro t ht
  unfold stl at ht
  cases hf : bs.find? (fun b => decide (0 < b.2.1) && decide (b.2.2.1 + 16 ≤ now)) with
  | none => rw [hf] at ht; cases ht
  | some b =>
    rw [hf] at ht
    cases ht
    have h1 := h b (List.mem_of_find?_eq_some hf)
    have h2 := List.find?_some hf
    simp at h2
    have := Nat.mod_lt now h2.1
    omega
theorem e_refresh {x : Int32} (h : CW G J a P now ser L) (hw : WF P now ser) (hr : ∀ p ∈ P, ∀ b ∈ p.2.2.2.1, b.1 + b.2.1 ≤ 256) (hN : 400 ≤ N) : (rfr P now x.toInt = none ∧ pX6_refresh_0 N a (mm_w G J) x = some (mm_w G J, -1)) ∨ ∃ i p t J', P[i]? = some p ∧ rfr P now x.toInt = some (p, t) ∧ pX6_refresh_0 N a (mm_w G J) x = some (mm_w G J', Int32.ofNat t) ∧ t < 256 ∧ CW G J' a (P.set i (p.1, (strP now ser p.2 0 t L).1)) now (ser + 1) (strP now ser p.2 0 t L).2 ∧ frC J J' a := by
  unfold pX6_refresh_0 rfr
  rw [w_is h.1.1, e_up h hN, w_cl]
  cases hu : ups P x.toInt with
  | none => exact Or.inl ⟨rfl, rfl⟩
  | some p =>
    obtain ⟨hb, q, i, hi⟩ := ups_pv h hu
    obtain ⟨w0, ⟨w1, w2, w3, w4, w5, w6⟩, w7, w8⟩ := hw.2 _ (List.mem_of_getElem? hi)
    obtain ⟨w, hT, htv⟩ := q.2.2.1
    simp only [Option.map_some]
    have hpre : (q_op (some p.1) (some (mm_w G J, (-1 : Int32))) fun b7_3 => q_gR (mm_w G J) b7_3 5 2 fun r11_4 => q_nn r11_4 fun b14_5 => q_is (mm_w G J) b14_5 4 <| q_cl (pX3_isRunning_0 N b14_5 (mm_w G J)) fun G v14_7 => if v14_7 = 0 then q_gR G b7_3 5 1 fun r23_8 => q_gI G a 7 5 fun v27_9 => q_nn r23_8 fun b30_10 => q_is G b30_10 6 <| q_cl (pX5_staleTarget_0 N b30_10 G v27_9) fun G v30_12 => if v30_12 = (-1 : Int32) then some (G, v30_12) else q_is G a 7 <| q_cl (pX6_startLookup_0 N a G (some b7_3) (0 : Int32) v30_12) fun G _ => some (G, v30_12) else some (G, (-1 : Int32))) = if p.2.2.2.2.1.1 ≠ 1 then (if oI (stl p.2.2.2.1 now) = (-1 : Int32) then some (mm_w G J, oI (stl p.2.2.2.1 now)) else q_cl (pX6_startLookup_0 N a (mm_w G J) (some p.1) (0 : Int32) (oI (stl p.2.2.2.1 now))) fun G _ => some (G, oI (stl p.2.2.2.1 now))) else some (mm_w G J, -1) := by
      rw [w_op, w_gR q.1.1, q.1.2.1.2.1, w_nn, w_is q.1.2.2.1.1, e_running q.1.2.2.1 q.2.2.2.1, w_cl]
      by_cases hs : p.2.2.2.2.1.1 = 1
      · rw [if_pos hs, if_neg (by decide), if_neg (fun e => e hs)]
      · rw [if_neg hs, if_pos rfl, if_pos hs, w_gR q.1.1, w_gI h.1.1, q.1.2.1.1, w_nn, w_is hT.1, e_stale hT htv w3 w2 hN h.2.2.1.2.1 (by have := hw.1.1; omega) w6, w_cl, w_is h.1.1]
    rw [hpre]
    by_cases hc : p.2.2.2.2.1.1 ≠ 1
    · rw [if_pos hc, if_pos hc]
      cases hst : stl p.2.2.2.1 now with
      | none =>
        rw [if_pos (show oI none = -1 from rfl)]
        exact Or.inl ⟨rfl, rfl⟩
      | some t =>
        have ht := stl_256 (hr p (List.mem_of_getElem? hi)) t hst
        have htI := oI_some (n := t) (by omega)
        obtain ⟨J', e1, e2, e3⟩ := e_startW (N := N) (x := 0) (y := oI (some t)) (k := 0) (t := t) (b := p.1) (p := p.2) h hw hN hi zi_0 htI ht
        refine Or.inr ⟨i, p, t, J', hi, rfl, ?_, ht, e2, e3⟩
        rw [if_neg (by rw [zi_eq, htI, zi_m1]; omega), e1, w_cl]
        rfl
    · rw [if_neg hc, if_neg hc]
      exact Or.inl ⟨rfl, rfl⟩
theorem e_drop {x : Int32} (h : CW G J a P now ser L) (hw : WF P now ser) : (¬ (0 ≤ x.toInt ∧ x.toInt < L.length) ∧ pX6_drop_0 N a (mm_w G J) x = some (mm_w G J, 0)) ∨ ((0 ≤ x.toInt ∧ x.toInt < L.length) ∧ ∃ J', pX6_drop_0 N a (mm_w G J) x = some (mm_w G J', 1) ∧ CW G J' a P now ser (L.eraseIdx x.toInt.toNat) ∧ frC J J' a) := by
  unfold pX6_drop_0
  rw [w_gR h.1.1, h.1.2.1.2.1, w_nn, w_is h.1.2.2.2.1.1, e_has h.1.2.2.2.1 h.2.2.2.1, w_cl]
  by_cases hx : 0 ≤ x.toInt ∧ x.toInt < L.length
  · refine Or.inr ⟨hx, ?_⟩
    obtain ⟨J', e1, e2, e3⟩ := e_lremove (N := N) (x := x) (k := x.toInt.toNat) h.1.2.2.2.1 h.2.2.2.1 h.2.1.2 (by omega) (by omega)
    rw [if_pos hx, if_neg (by decide), w_gR h.1.1, h.1.2.1.2.1, w_nn, w_is h.1.2.2.2.1.1, e1, w_cl]
    obtain ⟨c0, ⟨c1, c2⟩, ⟨c3, c4, c5⟩, c6, c7, c8⟩ := h
    have fr : ∀ z j, z ≠ a + 2 → z ≠ a + 3 → J' z j = J z j := fun z j z1 z2 => e3 z j z1 (by omega)
    refine ⟨J', rfl, ⟨c0, ⟨c1, by have := List.length_eraseIdx_le L x.toInt.toNat; omega⟩, ⟨by rw [fr _ _ (by omega) (by omega)]; exact c3, by rw [fr _ _ (by omega) (by omega)]; exact c4, by rw [fr _ _ (by omega) (by omega)]; exact c5⟩, e2, fun k p hk => ?_, c8⟩, fun z j hz => fr z j (by omega) (by omega)⟩
    obtain ⟨r1, r2, r3⟩ := c7 k p hk
    refine ⟨r1, r2, ?_⟩
    have := pv_keep (c := a + 1) (g := mm_R G (a + 1)) r3 (hw.pe9 p (List.mem_of_getElem? hk)) (by omega) (fun z z1 z2 j => fr z j (by omega) (by omega))
    rw [mm_rwR] at this
    exact this
  · refine Or.inl ⟨hx, ?_⟩
    rw [if_neg hx, if_pos rfl]
end ACTS
