/-! holders; how many are asked; who is next -/
def hadd (H : List Nat) (u : Nat) : List Nat := if u ∈ H then H else H ++ [u]
theorem e_holder_l {G : mm_M} {J : Nat → Nat → Int32} {q c N : Nat} {x : Int32} {kx : mm_M → Int32 → Option (mm_M × Unit)} (h : sL G q) (hc : (J q 10).toInt = (c : Int)) (hc3 : c ≤ 12) : ∀ (r n i : Nat) (y : Int32), y.toInt = (i : Int) → i + r = c → r < n → pX3_addHolder_17 N q kx n (mm_w G J) x y = match fi (fun j => decide (J (q + 1 + 4) j = x)) i r with | some _ => some (mm_w G J, ()) | none => kx (mm_w G J) x := by
  have hr0 := h.2 4 (by omega)
  intro r
  induction r with
  | zero =>
    intro n i y hy hi hn
    obtain ⟨n, rfl⟩ : ∃ m, n = m + 1 := ⟨n - 1, by omega⟩
    show pX3_addHolder_17_b N q _ kx _ x y = _
    unfold pX3_addHolder_17_b
    rw [w_gI h.1, if_pos (by rw [zi_le, hc, hy]; omega)]
    rfl
  | succ r ih =>
    intro n i y hy hi hn
    obtain ⟨n, rfl⟩ : ∃ m, n = m + 1 := ⟨n - 1, by omega⟩
    show pX3_addHolder_17_b N q _ kx _ x y = _
    unfold pX3_addHolder_17_b fi
    rw [w_gI h.1, if_neg (by rw [zi_le, hc, hy]; omega), w_gR h.1, hr0.1, w_nn, w_aI hr0.2.1 hy (by rw [hr0.2.2]; omega)]
    by_cases hx : J (q + 1 + 4) i = x
    · rw [if_pos hx, if_pos (by simpa using hx)]
    · rw [if_neg hx, if_neg (by simpa using hx)]
      exact ih n (i + 1) (y + 1) (zi_inc hy (by omega)) (by omega) (by omega)
theorem e_holder {G : mm_M} {J : Nat → Nat → Int32} {q st kd tg se N u : Nat} {C : List Cd} {H : List Nat} {x : Int32} (h : sL G q) (hl : lk J q st kd tg se C H) (h12 : H.length ≤ 12) (h12' : u ∉ H → H.length < 12) (hN : 400 ≤ N) (hx : x.toInt = (u : Int)) : ∃ J', pX3_addHolder_0 N q (mm_w G J) x = some (mm_w G J', ()) ∧ lk J' q st kd tg se C (hadd H u) ∧ frL J J' q := by
  have r4 := h.2 4 (by omega)
  unfold pX3_addHolder_0 hadd
  rw [if_neg (by rw [zi_eq, hx, zi_m1]; omega), w_gI h.1]
  by_cases hf : H.length < 12
  · rw [if_pos (by rw [zi_lt, hl.2.1.2, zi_12]; omega), e_holder_l h hl.2.1.2 h12 H.length N 0 0 zi_0 (by omega) (by omega)]
    rw [fi_find0 (L := H) (P := fun c => decide (c = u)) (fun j c hc => by
      have h9 := hl.2.2.2 j c hc
      rw [Bool.eq_iff_iff]
      simp only [decide_eq_true_eq]
      rw [zi_eq, show q + 1 + 4 = q + 5 from rfl, h9, hx]
      omega)]
    by_cases hm : u ∈ H
    · rw [if_pos hm]
      have : ∃ j, H.findIdx? (fun c => decide (c = u)) = some j := by
        cases hh : H.findIdx? (fun c => decide (c = u)) with
        | none =>
          have h9 := List.findIdx?_eq_none_iff.mp hh u hm
          simp at h9
        | some j => exact ⟨j, rfl⟩
      obtain ⟨j, hj⟩ := this
      rw [hj]
      exact ⟨J, rfl, hl, fun _ _ _ => rfl⟩
    · rw [if_neg hm]
      have : H.findIdx? (fun c => decide (c = u)) = none := by
        rw [List.findIdx?_eq_none_iff]
        intro a ha
        simp only [decide_eq_false_iff_not]
        intro e
        exact hm (e ▸ ha)
      rw [this]
      refine ⟨js (js J (q + 1 + 4) H.length x) q 10 (J q 10 + 1), ?_, ⟨⟨?_, ?_, ?_, ?_⟩, ⟨?_, ?_⟩, ?_, ?_⟩, ?_⟩
      · dsimp only
        rw [w_gR h.1, r4.1, w_gI h.1, w_nn, w_sI r4.2.1 hl.2.1.2 (by rw [r4.2.2]; omega), w_gI h.1, w_pI h.1, js_ne _ (Or.inl (by omega))]
      · rw [js_ne _ (Or.inr (by omega)), js_ne _ (Or.inl (by omega))]; exact hl.1.1
      · rw [js_ne _ (Or.inr (by omega)), js_ne _ (Or.inl (by omega))]; exact hl.1.2.1
      · rw [js_ne _ (Or.inr (by omega)), js_ne _ (Or.inl (by omega))]; exact hl.1.2.2.1
      · rw [js_ne _ (Or.inr (by omega)), js_ne _ (Or.inl (by omega))]; exact hl.1.2.2.2
      · rw [js_ne _ (Or.inr (by omega)), js_ne _ (Or.inl (by omega))]; exact hl.2.1.1
      · rw [js_same, zi_inc hl.2.1.2 (by omega)]; simp
      · intro j c hc
        rw [js_ne _ (Or.inl (by omega)), js_ne _ (Or.inl (by omega)), js_ne _ (Or.inl (by omega)), js_ne _ (Or.inl (by omega)), js_ne _ (Or.inl (by omega)), js_ne _ (Or.inl (by omega)), js_ne _ (Or.inl (by omega)), js_ne _ (Or.inl (by omega))]
        exact hl.2.2.1 j c hc
      · intro j y hy
        rw [js_ne _ (Or.inl (by omega))]
        by_cases hj : j < H.length
        · rw [List.getElem?_append_left hj] at hy
          rw [js_ne _ (Or.inr (by omega))]
          exact hl.2.2.2 j y hy
        · have hj2 : j = H.length := by have := (List.getElem?_eq_some_iff.mp hy).1; simp at this; omega
          subst hj2
          simp at hy
          subst hy
          rw [show q + 5 = q + 1 + 4 from rfl, js_same]
          exact hx
      · intro b j hb
        rw [js_ne _ (Or.inl (by omega)), js_ne _ (Or.inl (by omega))]
  · rw [if_neg (by rw [zi_lt, hl.2.1.2, zi_12]; omega)]
    by_cases hm : u ∈ H
    · rw [if_pos hm]; exact ⟨J, rfl, hl, fun _ _ _ => rfl⟩
    · exact absurd (h12' hm) hf
def isA (c : Cd) : Bool := decide (c.2.1 = 1)
theorem e_asked_l {G : mm_M} {J : Nat → Nat → Int32} {q st kd tg se N : Nat} {C : List Cd} {H : List Nat} {kx : mm_M → Int32 → Option (mm_M × Int32)} (h : sL G q) (hl : lk J q st kd tg se C H) (h12 : C.length ≤ 12) : ∀ (r n i a : Nat) (x y : Int32), y.toInt = (i : Int) → x.toInt = (a : Int) → a ≤ i → i + r = C.length → r < n → pX3_askedCount_4 N q kx n (mm_w G J) x y = kx (mm_w G J) (Int32.ofNat (a + (C.drop i).countP isA)) := by
  have hr0 := h.2 1 (by omega)
  intro r
  induction r with
  | zero =>
    intro n i a x y hy hx ha hi hn
    obtain ⟨n, rfl⟩ : ∃ m, n = m + 1 := ⟨n - 1, by omega⟩
    show pX3_askedCount_4_b N q _ kx _ x y = _
    unfold pX3_askedCount_4_b
    rw [w_gI h.1, if_pos (by rw [zi_le, hl.2.1.1, hy]; omega), List.drop_eq_nil_of_le (by omega), zi_eqN hx (by omega)]
    rfl
  | succ r ih =>
    intro n i a x y hy hx ha hi hn
    obtain ⟨n, rfl⟩ : ∃ m, n = m + 1 := ⟨n - 1, by omega⟩
    have hlt : i < C.length := by omega
    have hv : (J (q + 1 + 1) i).toInt = (C[i].2.1 : Int) := (hl.2.2.1 i C[i] (List.getElem?_eq_getElem hlt)).2.1
    show pX3_askedCount_4_b N q _ kx _ x y = _
    unfold pX3_askedCount_4_b
    rw [w_gI h.1, if_neg (by rw [zi_le, hl.2.1.1, hy]; omega), w_gR h.1, hr0.1, w_nn, w_aI hr0.2.1 hy (by rw [hr0.2.2]; omega), List.drop_eq_getElem_cons hlt, List.countP_cons]
    have hy1 := zi_inc hy (by omega)
    by_cases hm : C[i].2.1 = 1
    · rw [if_pos (by rw [zi_eq, hv, zi_1]; omega), ih n (i + 1) (a + 1) (x + 1) (y + 1) hy1 (zi_inc hx (by omega)) (by omega) (by omega) (by omega)]
      have : isA C[i] = true := by simp [isA, hm]
      rw [if_pos this, show a + 1 + List.countP isA (List.drop (i + 1) C) = a + (List.countP isA (List.drop (i + 1) C) + 1) by omega]
    · rw [if_neg (by rw [zi_eq, hv, zi_1]; omega), ih n (i + 1) a x (y + 1) hy1 hx (by omega) (by omega) (by omega)]
      have : ¬ isA C[i] = true := by simp [isA, hm]
      rw [if_neg this]
      rfl
theorem e_asked {G : mm_M} {J : Nat → Nat → Int32} {q st kd tg se N : Nat} {C : List Cd} {H : List Nat} (h : sL G q) (hl : lk J q st kd tg se C H) (h12 : C.length ≤ 12) (hN : 400 ≤ N) : pX3_askedCount_0 N q (mm_w G J) = some (mm_w G J, Int32.ofNat (C.countP isA)) := by
  unfold pX3_askedCount_0
  rw [e_asked_l h hl h12 C.length N 0 0 0 0 zi_0 zi_0 (by omega) (by omega) (by omega), List.drop_zero, Nat.zero_add]
def ntk : List Cd → Nat → Nat → Option Nat
  | [], _, _ => none
  | c :: C, p, i => if 3 ≤ p then none else if c.2.1 = 0 then some i else if c.2.1 = 3 then ntk C p (i + 1) else ntk C (p + 1) (i + 1)
def nta (C : List Cd) : Option Nat := if C.countP isA < 2 then ntk C 0 0 else none
theorem e_next_l {G : mm_M} {J : Nat → Nat → Int32} {q st kd tg se N : Nat} {C : List Cd} {H : List Nat} {kx : mm_M → Option (mm_M × Int32)} (h : sL G q) (hl : lk J q st kd tg se C H) (h12 : C.length ≤ 12) : ∀ (r n i a : Nat) (x y : Int32), y.toInt = (i : Int) → x.toInt = (a : Int) → a ≤ i → i + r = C.length → r < n → pX3_nextToAsk_14 N q kx n (mm_w G J) x y = match ntk (C.drop i) a i with | some j => some (mm_w G J, Int32.ofNat j) | none => kx (mm_w G J) := by
  have hr0 := h.2 1 (by omega)
  intro r
  induction r with
  | zero =>
    intro n i a x y hy hx ha hi hn
    obtain ⟨n, rfl⟩ : ∃ m, n = m + 1 := ⟨n - 1, by omega⟩
    show pX3_nextToAsk_14_b N q _ kx _ x y = _
    unfold pX3_nextToAsk_14_b
    rw [w_gI h.1, if_pos (by rw [zi_le, hl.2.1.1, hy]; omega), List.drop_eq_nil_of_le (by omega)]
    rfl
  | succ r ih =>
    intro n i a x y hy hx ha hi hn
    obtain ⟨n, rfl⟩ : ∃ m, n = m + 1 := ⟨n - 1, by omega⟩
    have hlt : i < C.length := by omega
    have hv : (J (q + 1 + 1) i).toInt = (C[i].2.1 : Int) := (hl.2.2.1 i C[i] (List.getElem?_eq_getElem hlt)).2.1
    show pX3_nextToAsk_14_b N q _ kx _ x y = _
    unfold pX3_nextToAsk_14_b
    rw [w_gI h.1, if_neg (by rw [zi_le, hl.2.1.1, hy]; omega), List.drop_eq_getElem_cons hlt]
    unfold ntk
    have hy1 := zi_inc hy (by omega)
    by_cases h3 : 3 ≤ a
    · rw [if_pos (by rw [zi_le, zi_3, hx]; omega), if_pos h3]
    · rw [if_neg (by rw [zi_le, zi_3, hx]; omega), if_neg h3, w_gR h.1, hr0.1, w_nn, w_aI hr0.2.1 hy (by rw [hr0.2.2]; omega)]
      by_cases m0 : C[i].2.1 = 0
      · rw [if_pos (by rw [zi_eq, hv, zi_0]; omega), if_pos m0, zi_eqN hy (by omega)]
      · rw [if_neg (by rw [zi_eq, hv, zi_0]; omega), if_neg m0, w_gR h.1, hr0.1, w_nn, w_aI hr0.2.1 hy (by rw [hr0.2.2]; omega)]
        by_cases m3 : C[i].2.1 = 3
        · rw [if_pos (by rw [zi_eq, hv, zi_3]; omega), if_pos m3]
          exact ih n (i + 1) a x (y + 1) hy1 hx (by omega) (by omega) (by omega)
        · rw [if_neg (by rw [zi_eq, hv, zi_3]; omega), if_neg m3]
          exact ih n (i + 1) (a + 1) (x + 1) (y + 1) hy1 (zi_inc hx (by omega)) (by omega) (by omega) (by omega)
theorem e_next {G : mm_M} {J : Nat → Nat → Int32} {q st kd tg se N : Nat} {C : List Cd} {H : List Nat} (h : sL G q) (hl : lk J q st kd tg se C H) (h12 : C.length ≤ 12) (hN : 400 ≤ N) : pX3_nextToAsk_0 N q (mm_w G J) = some (mm_w G J, oI (nta C)) := by
  have hle := List.countP_le_length (p := isA) (l := C)
  unfold pX3_nextToAsk_0 nta
  rw [w_is h.1, e_asked h hl h12 hN, w_cl]
  by_cases h2 : C.countP isA < 2
  · rw [if_pos (by rw [zi_lt, zi_ofNat (by omega), zi_2]; omega), if_pos h2, e_next_l h hl h12 C.length N 0 0 0 0 zi_0 zi_0 (by omega) (by omega) (by omega), List.drop_zero]
    cases ntk C 0 0 with
    | none => rfl
    | some j => rfl
  · rw [if_neg (by rw [zi_lt, zi_ofNat (by omega), zi_2]; omega), if_neg h2]
    rfl
