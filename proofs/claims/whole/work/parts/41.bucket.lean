/-! a bucket: the object at q, its numbers at q + 1, its misses at q + 2 -/
def sB (G : mm_M) (q : Nat) : Prop := mm_K G q = 1 ∧ mm_R G q 0 = some (q + 1) ∧ mm_R G q 1 = some (q + 2) ∧ (mm_K G (q + 1) = 101 ∧ mm_ln G (q + 1) = 3) ∧ mm_K G (q + 2) = 101 ∧ mm_ln G (q + 2) = 3
def bk (J : Nat → Nat → Int32) (q : Nat) (f z t : Nat) (L : List (Nat × Nat)) : Prop := (J q 2).toInt = (f : Int) ∧ (J q 3).toInt = (z : Int) ∧ (J q 4).toInt = (t : Int) ∧ (J q 5).toInt = (L.length : Int) ∧ ∀ j p, L[j]? = some p → (J (q + 1) j).toInt = (p.1 : Int) ∧ (J (q + 2) j).toInt = (p.2 : Int)
def fr3 (J J' : Nat → Nat → Int32) (q : Nat) : Prop := ∀ b j, b ≠ q → b ≠ q + 1 → b ≠ q + 2 → J' b j = J b j
theorem bk_congr {J J' : Nat → Nat → Int32} {q f z t : Nat} {L : List (Nat × Nat)} (h : bk J q f z t L) (h0 : ∀ j, J' q j = J q j) (h1 : ∀ j, J' (q + 1) j = J (q + 1) j) (h2 : ∀ j, J' (q + 2) j = J (q + 2) j) : bk J' q f z t L := by
  obtain ⟨a, b, c, d, e⟩ := h
  exact ⟨by rw [h0]; exact a, by rw [h0]; exact b, by rw [h0]; exact c, by rw [h0]; exact d, fun j p hp => by rw [h1, h2]; exact e j p hp⟩
theorem e_open {G : mm_M} {J : Nat → Nat → Int32} {q N : Nat} {x y w : Int32} {f z t : Nat} (h : sB G q) (hx : x.toInt = (f : Int)) (hy : y.toInt = (z : Int)) (hw : w.toInt = (t : Int)) : ∃ J', pX0_open_0 N q (mm_w G J) x y w = some (mm_w G J', ()) ∧ bk J' q f z t [] ∧ fr3 J J' q := by
  refine ⟨js (js (js (js J q 2 x) q 3 y) q 4 w) q 5 0, ?_, ⟨?_, ?_, ?_, ?_, ?_⟩, ?_⟩
  · unfold pX0_open_0
    rw [w_pI h.1, w_pI h.1, w_pI h.1, w_pI h.1]
  · simp [js, hx]
  · simp [js, hy]
  · simp [js, hw]
  · simp [js, zi_0]
  · intro j p hp; simp at hp
  · intro b j h0 h1 h2; simp [js, h0]
theorem e_full {G : mm_M} {J : Nat → Nat → Int32} {q N : Nat} {f z t : Nat} {L : List (Nat × Nat)} (h : sB G q) (hb : bk J q f z t L) : pX0_isFull_0 N q (mm_w G J) = some (mm_w G J, if L.length < 3 then 0 else 1) := by
  unfold pX0_isFull_0
  rw [w_gI h.1]
  by_cases hl : L.length < 3
  · rw [if_pos (by rw [zi_lt, hb.2.2.2.1, zi_3]; omega), if_pos hl]
  · rw [if_neg (by rw [zi_lt, hb.2.2.2.1, zi_3]; omega), if_neg hl]
theorem e_must {G : mm_M} {J : Nat → Nat → Int32} {q N o : Nat} {f z t : Nat} {L : List (Nat × Nat)} {x : Int32} (h : sB G q) (hb : bk J q f z t L) (hx : x.toInt = (o : Int)) (hf : f + z < 1000000) : pX0_mustSplitFor_0 N q (mm_w G J) x = some (mm_w G J, if 3 ≤ L.length ∧ f ≤ o ∧ o < f + z then 1 else 0) := by
  unfold pX0_mustSplitFor_0
  rw [w_is h.1, e_full h hb, w_cl]
  by_cases hl : L.length < 3
  · rw [if_neg (show ¬ (3 ≤ L.length ∧ f ≤ o ∧ o < f + z) by omega)]
    simp [hl]
  · simp only [hl, if_false]
    rw [if_neg (by decide), w_gI h.1]
    by_cases h2 : o < f
    · rw [if_pos (by rw [zi_lt, hx, hb.1]; omega), if_neg (show ¬ (3 ≤ L.length ∧ f ≤ o ∧ o < f + z) by omega)]
    · rw [if_neg (by rw [zi_lt, hx, hb.1]; omega), w_gI h.1, w_gI h.1]
      have hs : (J q 2 + J q 3).toInt = (f : Int) + z := zi_add hb.1 hb.2.1 (by omega) (by omega)
      by_cases h3 : f + z ≤ o
      · rw [if_pos (by rw [zi_le, hs, hx]; omega), if_neg (show ¬ (3 ≤ L.length ∧ f ≤ o ∧ o < f + z) by omega)]
      · rw [if_neg (by rw [zi_le, hs, hx]; omega), if_pos (show (3 ≤ L.length ∧ f ≤ o ∧ o < f + z) by omega)]
theorem e_append {G : mm_M} {J : Nat → Nat → Int32} {q N u v : Nat} {f z t : Nat} {L : List (Nat × Nat)} {x y : Int32} (h : sB G q) (hb : bk J q f z t L) (hl : L.length < 3) (hx : x.toInt = (u : Int)) (hy : y.toInt = (v : Int)) : ∃ J', pX0_append_0 N q (mm_w G J) x y = some (mm_w G J', ()) ∧ bk J' q f z t (L ++ [(u, v)]) ∧ fr3 J J' q ∧ ∀ k, k ≠ L.length → J' (q + 1) k = J (q + 1) k ∧ J' (q + 2) k = J (q + 2) k := by
  obtain ⟨h0, h1, h2, ⟨h3, h4⟩, h5, h6⟩ := h
  obtain ⟨b0, b1, b2, b3, b4⟩ := hb
  refine ⟨js (js (js J (q + 1) L.length x) (q + 2) L.length y) q 5 (J q 5 + 1), ?_, ⟨?_, ?_, ?_, ?_, ?_⟩, ?_, ?_⟩
  · unfold pX0_append_0
    rw [w_gI h0, if_neg (by rw [zi_le, b3, zi_3]; omega), w_gR h0, h1, w_gI h0, w_nn, w_sI h3 b3 (by omega), w_gR h0, h2, w_gI h0, w_nn]
    rw [w_sI h5 (i := L.length) (by rw [js_ne _ (Or.inl (by omega))]; exact b3) (by omega), w_gI h0, w_pI h0]
    rw [js_ne _ (Or.inl (by omega)), js_ne _ (Or.inl (by omega))]
  · simp [js, b0]
  · simp [js, b1]
  · simp [js, b2]
  · rw [js_same, zi_inc b3 (by omega)]
    simp
  · intro j p hp
    by_cases hj : j < L.length
    · rw [List.getElem?_append_left hj] at hp
      have h9 := b4 j p hp
      simp [js, Nat.ne_of_lt hj]
      exact h9
    · have hj2 : j = L.length := by
        have := (List.getElem?_eq_some_iff.mp hp).1
        simp at this; omega
      subst hj2
      simp at hp
      subst hp
      simp [js, hx, hy]
  · intro b j g0 g1 g2; simp [js, g0, g1, g2]
  · intro k hk; simp [js, hk]
theorem e_place_l {G : mm_M} {J : Nat → Nat → Int32} {q c N : Nat} {x : Int32} {kx : mm_M → Option (mm_M × Int32)} (h : sB G q) (hc : (J q 5).toInt = (c : Int)) (hc3 : c ≤ 3) : ∀ (r n i : Nat) (y : Int32), y.toInt = (i : Int) → i + r = c → r < n → pX0_placeOf_2 N q kx n (mm_w G J) x y = match fi (fun j => decide (J (q + 1) j = x)) i r with | some j => some (mm_w G J, Int32.ofNat j) | none => kx (mm_w G J) := by
  intro r
  induction r with
  | zero =>
    intro n i y hy hi hn
    obtain ⟨n, rfl⟩ : ∃ m, n = m + 1 := ⟨n - 1, by omega⟩
    show pX0_placeOf_2_b N q _ kx _ x y = _
    unfold pX0_placeOf_2_b
    rw [w_gI h.1, if_pos (by rw [zi_le, hc, hy]; omega)]
    rfl
  | succ r ih =>
    intro n i y hy hi hn
    obtain ⟨n, rfl⟩ : ∃ m, n = m + 1 := ⟨n - 1, by omega⟩
    show pX0_placeOf_2_b N q _ kx _ x y = _
    unfold pX0_placeOf_2_b fi
    rw [w_gI h.1, if_neg (by rw [zi_le, hc, hy]; omega), w_gR h.1, h.2.1, w_nn, w_aI h.2.2.2.1.1 hy (by rw [h.2.2.2.1.2]; omega)]
    by_cases hx : J (q + 1) i = x
    · rw [if_pos hx, if_pos (by simpa using hx), zi_eqN hy (by omega)]
    · rw [if_neg hx, if_neg (by simpa using hx)]
      exact ih n (i + 1) (y + 1) (zi_inc hy (by omega)) (by omega) (by omega)
/-- where a number stands in a list of contacts -/
def pl (L : List (Nat × Nat)) (u : Nat) : Option Nat := L.findIdx? (fun p => p.1 == u)
def pli (L : List (Nat × Nat)) (u : Nat) : Int32 := match pl L u with
  | some j => Int32.ofNat j
  | none => -1
theorem e_place {G : mm_M} {J : Nat → Nat → Int32} {q N u : Nat} {f z t : Nat} {L : List (Nat × Nat)} {x : Int32} (h : sB G q) (hb : bk J q f z t L) (hl : L.length ≤ 3) (hN : 400 ≤ N) (hx : x.toInt = (u : Int)) : pX0_placeOf_0 N q (mm_w G J) x = some (mm_w G J, pli L u) := by
  unfold pX0_placeOf_0
  rw [e_place_l h hb.2.2.2.1 hl L.length N 0 0 zi_0 (by omega) (by omega)]
  have key : ∀ (r i : Nat), i + r = L.length → fi (fun j => decide (J (q + 1) j = x)) i r = ((L.drop i).findIdx? (fun p => p.1 == u)).map (fun j => j + i) := by
    intro r
    induction r with
    | zero =>
      intro i hi
      rw [List.drop_eq_nil_of_le (by omega)]
      rfl
    | succ r ih =>
      intro i hi
      have hlt : i < L.length := by omega
      rw [List.drop_eq_getElem_cons hlt, List.findIdx?_cons]
      unfold fi
      have h9 := (hb.2.2.2.2 i L[i] (List.getElem?_eq_getElem hlt)).1
      by_cases hu : L[i].1 = u
      · rw [if_pos (by rw [decide_eq_true_eq, zi_eq, h9, hx, hu])]
        simp [hu]
      · rw [if_neg (by rw [decide_eq_true_eq, zi_eq, h9, hx]; omega), ih (i + 1) (by omega)]
        simp [hu]
        cases (List.drop (i + 1) L).findIdx? (fun p => p.1 == u) with
        | none => rfl
        | some j => simp; omega
  rw [key L.length 0 (by omega)]
  unfold pli pl
  simp only [List.drop_zero]
  cases L.findIdx? (fun p => p.1 == u) with
  | none => rfl
  | some j => rfl
/-! one contact is taken out -/
def shf (J : Nat → Nat → Int32) (q j i : Nat) : Nat → Nat → Int32 := fun b k => if (b = q + 1 ∨ b = q + 2) ∧ j ≤ k ∧ k < i then J b (k + 1) else J b k
theorem shf_0 (J : Nat → Nat → Int32) (q j : Nat) : shf J q j j = J := by
  funext b k
  unfold shf
  rw [if_neg (by omega)]
theorem shf_s (J : Nat → Nat → Int32) (q j i : Nat) (h : j ≤ i) : js (js (shf J q j i) (q + 1) i (J (q + 1) (i + 1))) (q + 2) i (J (q + 2) (i + 1)) = shf J q j (i + 1) := by
  funext b k
  unfold js shf
  by_cases h2 : b = q + 2 ∧ k = i
  · rw [if_pos h2, if_pos (by omega), h2.1, h2.2]
  · rw [if_neg h2]
    by_cases h1 : b = q + 1 ∧ k = i
    · rw [if_pos h1, if_pos (by omega), h1.1, h1.2]
    · rw [if_neg h1]
      by_cases h3 : (b = q + 1 ∨ b = q + 2) ∧ j ≤ k ∧ k < i
      · rw [if_pos h3, if_pos (by omega)]
      · rw [if_neg h3, if_neg (by omega)]
theorem e_rem_l {G : mm_M} {J : Nat → Nat → Int32} {q c j N : Nat} {kx : mm_M → Option (mm_M × Unit)} (h : sB G q) (hc : (J q 5).toInt = (c : Int)) (hc3 : c ≤ 3) : ∀ (r n i : Nat) (y : Int32), y.toInt = (i : Int) → i + r + 1 = c → r < n → j ≤ i → pX0_removeAt_2 N q kx n (mm_w G (shf J q j i)) y = kx (mm_w G (shf J q j (c - 1))) := by
  obtain ⟨h0, h1, h2, ⟨h3, h4⟩, h5, h6⟩ := h
  intro r
  induction r with
  | zero =>
    intro n i y hy hi hn hj
    obtain ⟨n, rfl⟩ : ∃ m, n = m + 1 := ⟨n - 1, by omega⟩
    show pX0_removeAt_2_b N q _ kx _ y = _
    unfold pX0_removeAt_2_b
    have e5 : shf J q j i q 5 = J q 5 := by unfold shf; rw [if_neg (by omega)]
    rw [w_gI h0, e5, if_pos (by rw [zi_le, hc, zi_inc hy (by omega)]; omega)]
    rw [show c - 1 = i by omega]
  | succ r ih =>
    intro n i y hy hi hn hj
    obtain ⟨n, rfl⟩ : ∃ m, n = m + 1 := ⟨n - 1, by omega⟩
    show pX0_removeAt_2_b N q _ kx _ y = _
    unfold pX0_removeAt_2_b
    have e5 : shf J q j i q 5 = J q 5 := by unfold shf; rw [if_neg (by omega)]
    have e1 : shf J q j i (q + 1) (i + 1) = J (q + 1) (i + 1) := by unfold shf; rw [if_neg (by omega)]
    have e2 : shf J q j i (q + 2) (i + 1) = J (q + 2) (i + 1) := by unfold shf; rw [if_neg (by omega)]
    have hy1 := zi_inc hy (by omega)
    rw [w_gI h0, e5, if_neg (by rw [zi_le, hc, hy1]; omega), w_gR h0, w_gR h0, h1, w_nn, w_aI h3 hy1 (by omega), w_nn, w_sI h3 hy (by omega), w_gR h0, w_gR h0, h2, w_nn, w_aI h5 hy1 (by omega), w_nn, w_sI h5 hy (by omega)]
    rw [js_ne _ (Or.inl (by omega)), e1, e2, shf_s J q j i hj]
    exact ih n (i + 1) (y + 1) hy1 (by omega) (by omega) (by omega)
theorem e_remove {G : mm_M} {J : Nat → Nat → Int32} {q N j : Nat} {f z t : Nat} {L : List (Nat × Nat)} {x : Int32} (h : sB G q) (hb : bk J q f z t L) (hl : L.length ≤ 3) (hj : j < L.length) (hN : 400 ≤ N) (hx : x.toInt = (j : Int)) : ∃ J', pX0_removeAt_0 N q (mm_w G J) x = some (mm_w G J', ()) ∧ bk J' q f z t (L.eraseIdx j) ∧ fr3 J J' q := by
  obtain ⟨b0, b1, b2, b3, b4⟩ := hb
  refine ⟨js (shf J q j (L.length - 1)) q 5 (J q 5 - 1), ?_, ⟨?_, ?_, ?_, ?_, ?_⟩, ?_⟩
  · unfold pX0_removeAt_0
    have h9 := e_rem_l (N := N) (kx := fun (G : mm_M) => q_gI G q 1 5 fun v48_12 => q_pI G q 1 5 (v48_12 - (1 : Int32)) fun G => some (G, ())) h b3 hl (L.length - 1 - j) N j x hx (by omega) (by omega) (Nat.le_refl _)
    rw [shf_0] at h9
    rw [h9, w_gI h.1, w_pI h.1]
    have e5 : shf J q j (L.length - 1) q 5 = J q 5 := by unfold shf; rw [if_neg (by omega)]
    rw [e5]
  · rw [js_ne _ (Or.inr (by omega))]; unfold shf; rw [if_neg (by omega)]; exact b0
  · rw [js_ne _ (Or.inr (by omega))]; unfold shf; rw [if_neg (by omega)]; exact b1
  · rw [js_ne _ (Or.inr (by omega))]; unfold shf; rw [if_neg (by omega)]; exact b2
  · rw [js_same, zi_sub b3 zi_1 (by omega) (by omega), List.length_eraseIdx, if_pos hj]
    omega
  · intro k p hp
    rw [js_ne _ (Or.inl (by omega)), js_ne _ (Or.inl (by omega))]
    have hk : k < (L.eraseIdx j).length := (List.getElem?_eq_some_iff.mp hp).1
    rw [List.length_eraseIdx, if_pos hj] at hk
    rw [List.getElem?_eraseIdx] at hp
    unfold shf
    by_cases hkj : k < j
    · rw [if_pos hkj] at hp
      rw [if_neg (by omega), if_neg (by omega)]
      exact b4 k p hp
    · rw [if_neg hkj] at hp
      rw [if_pos (by omega), if_pos (by omega)]
      exact b4 (k + 1) p hp
  · intro b k g0 g1 g2
    rw [js_ne _ (Or.inl g0)]
    unfold shf
    rw [if_neg (by omega)]
/-! room is made, if need be, by the first contact that has failed twice -/
def mkr (L : List (Nat × Nat)) : List (Nat × Nat) := if L.length < 3 then L else match L.findIdx? (fun p => decide (2 ≤ p.2)) with
  | some j => L.eraseIdx j
  | none => L
theorem e_room_x {G : mm_M} {J : Nat → Nat → Int32} {q N n : Nat} {f z t : Nat} {L : List (Nat × Nat)} {y : Int32} {kx : mm_M → Option (mm_M × Int32)} (h : sB G q) (hb : bk J q f z t L) (hl : L.length < 3) : pX0_makeRoom_2 N q kx (n + 1) (mm_w G J) y = kx (mm_w G J) := by
  show pX0_makeRoom_2_b N q _ kx _ y = _
  unfold pX0_makeRoom_2_b
  rw [w_gI h.1]
  split
  · rfl
  · rw [w_is h.1, e_full h hb, w_cl, if_pos (by rw [if_pos hl])]
theorem e_room_l {G : mm_M} {J : Nat → Nat → Int32} {q N : Nat} {f z t : Nat} {L : List (Nat × Nat)} {kx : mm_M → Option (mm_M × Int32)} (h : sB G q) (hb : bk J q f z t L) (hl : L.length = 3) (hN : 400 ≤ N) : ∀ (r n i : Nat) (y : Int32), y.toInt = (i : Int) → i + r = 3 → r + 1 < n → ∃ J', pX0_makeRoom_2 N q kx n (mm_w G J) y = kx (mm_w G J') ∧ bk J' q f z t (match (L.drop i).findIdx? (fun p => decide (2 ≤ p.2)) with | some j => L.eraseIdx (j + i) | none => L) ∧ fr3 J J' q := by
  intro r
  induction r with
  | zero =>
    intro n i y hy hi hn
    obtain ⟨n, rfl⟩ : ∃ m, n = m + 1 := ⟨n - 1, by omega⟩
    refine ⟨J, ?_, ?_, fun b j _ _ _ => rfl⟩
    · show pX0_makeRoom_2_b N q _ kx _ y = _
      unfold pX0_makeRoom_2_b
      rw [w_gI h.1, if_pos (by rw [zi_le, hb.2.2.2.1, hy]; omega)]
    · rw [List.drop_eq_nil_of_le (by omega)]
      exact hb
  | succ r ih =>
    intro n i y hy hi hn
    obtain ⟨n, rfl⟩ : ∃ m, n = m + 1 := ⟨n - 1, by omega⟩
    have hlt : i < L.length := by omega
    have h9 := (hb.2.2.2.2 i L[i] (List.getElem?_eq_getElem hlt)).2
    have hunf : pX0_makeRoom_2 N q kx (n + 1) (mm_w G J) y = if J (q + 2) i < 2 then pX0_makeRoom_2 N q kx n (mm_w G J) (y + 1) else q_is (mm_w G J) q 1 (q_cl (pX0_removeAt_0 N q (mm_w G J) y) fun G _ => pX0_makeRoom_2 N q kx n G (y + 1)) := by
      show pX0_makeRoom_2_b N q _ kx _ y = _
      unfold pX0_makeRoom_2_b
      rw [w_gI h.1, if_neg (by rw [zi_le, hb.2.2.2.1, hy]; omega), w_is h.1, e_full h hb, w_cl, if_neg (by rw [if_neg (by omega)]; show ¬ (1 : Int32) = 0; decide), w_gR h.1, h.2.2.1, w_nn, w_aI h.2.2.2.2.1 hy (by rw [h.2.2.2.2.2]; omega)]
    rw [hunf, List.drop_eq_getElem_cons hlt, List.findIdx?_cons]
    by_cases hm : 2 ≤ L[i].2
    · rw [if_neg (by rw [zi_lt, h9, zi_2]; omega), w_is h.1]
      obtain ⟨J1, e1, e2, e3⟩ := e_remove h hb (by omega) hlt hN hy
      rw [e1, w_cl]
      obtain ⟨n, rfl⟩ : ∃ m, n = m + 1 := ⟨n - 1, by omega⟩
      refine ⟨J1, ?_, ?_, e3⟩
      · exact e_room_x h e2 (by rw [List.length_eraseIdx, if_pos hlt]; omega)
      · simp [hm]
        exact e2
    · rw [if_pos (by rw [zi_lt, h9, zi_2]; omega)]
      obtain ⟨J1, e1, e2, e3⟩ := ih n (i + 1) (y + 1) (zi_inc hy (by omega)) (by omega) (by omega)
      refine ⟨J1, e1, ?_, e3⟩
      simp [hm]
      cases hh : (List.drop (i + 1) L).findIdx? (fun p => decide (2 ≤ p.2)) with
      | none => rw [hh] at e2; exact e2
      | some j =>
        rw [hh] at e2
        simp only [Option.map_some]
        rw [show j + 1 + i = j + (i + 1) by omega]
        exact e2
theorem e_room {G : mm_M} {J : Nat → Nat → Int32} {q N : Nat} {f z t : Nat} {L : List (Nat × Nat)} (h : sB G q) (hb : bk J q f z t L) (hl : L.length ≤ 3) (hN : 400 ≤ N) : ∃ J', pX0_makeRoom_0 N q (mm_w G J) = some (mm_w G J', if (mkr L).length < 3 then 1 else 0) ∧ bk J' q f z t (mkr L) ∧ fr3 J J' q := by
  have fin : ∀ J' L', bk J' q f z t L' → (q_is (mm_w G J') q 1 <| q_cl (pX0_isFull_0 N q (mm_w G J')) fun G v39_9 => if v39_9 = 0 then some (G, (1 : Int32)) else some (G, (0 : Int32))) = some (mm_w G J', if L'.length < 3 then 1 else 0) := by
    intro J' L' hb'
    rw [w_is h.1, e_full h hb', w_cl]
    by_cases h3 : L'.length < 3
    · simp [h3]
    · simp [h3]
  unfold pX0_makeRoom_0
  by_cases h3 : L.length < 3
  · obtain ⟨n, hn⟩ : ∃ m, N = m + 1 := ⟨N - 1, by omega⟩
    have hm : mkr L = L := by unfold mkr; rw [if_pos h3]
    refine ⟨J, ?_, by rw [hm]; exact hb, fun b j _ _ _ => rfl⟩
    rw [hm]
    conv => lhs; arg 4; rw [hn]
    rw [e_room_x h hb h3]
    exact fin J L hb
  · obtain ⟨J1, e1, e2, e3⟩ := e_room_l (N := N) (kx := fun (G : mm_M) => q_is G q 1 <| q_cl (pX0_isFull_0 N q G) fun G v39_9 => if v39_9 = 0 then some (G, (1 : Int32)) else some (G, (0 : Int32))) h hb (by omega) hN 3 N 0 0 zi_0 (by omega) (by omega)
    have hm : mkr L = (match (L.drop 0).findIdx? (fun p => decide (2 ≤ p.2)) with | some j => L.eraseIdx (j + 0) | none => L) := by unfold mkr; rw [if_neg h3]; rfl
    rw [← hm] at e2
    exact ⟨J1, e1.trans (fin J1 _ e2), e2, e3⟩
