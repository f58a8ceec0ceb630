/-! a lookup: the object at q, its arrays at q + 1 .. q + 5 -/
def sL (G : mm_M) (q : Nat) : Prop := mm_K G q = 4 ∧ ∀ i, i < 5 → mm_R G q i = some (q + 1 + i) ∧ mm_K G (q + 1 + i) = 101 ∧ mm_ln G (q + 1 + i) = 12
abbrev Cd : Type := Nat × Nat × Int × Int
def lk (J : Nat → Nat → Int32) (q st kd tg se : Nat) (C : List Cd) (H : List Nat) : Prop := ((J q 5).toInt = (st : Int) ∧ (J q 6).toInt = (kd : Int) ∧ (J q 7).toInt = (tg : Int) ∧ (J q 8).toInt = (se : Int)) ∧ ((J q 9).toInt = (C.length : Int) ∧ (J q 10).toInt = (H.length : Int)) ∧ (∀ (j : Nat) (c : Cd), C[j]? = some c → (J (q + 1) j).toInt = (c.1 : Int) ∧ (J (q + 2) j).toInt = (c.2.1 : Int) ∧ (J (q + 3) j).toInt = c.2.2.1 ∧ (J (q + 4) j).toInt = c.2.2.2) ∧ ∀ (j h : Nat), H[j]? = some h → (J (q + 5) j).toInt = (h : Int)
def frL (J J' : Nat → Nat → Int32) (q : Nat) : Prop := ∀ b j, b < q ∨ q + 6 ≤ b → J' b j = J b j
theorem lk_congr {J J' : Nat → Nat → Int32} {q st kd tg se : Nat} {C : List Cd} {H : List Nat} (h : lk J q st kd tg se C H) (hj : ∀ b, q ≤ b → b < q + 6 → ∀ j, J' b j = J b j) : lk J' q st kd tg se C H := by
  obtain ⟨⟨a, b, c, d⟩, ⟨e, f⟩, g, i⟩ := h
  refine ⟨⟨?_, ?_, ?_, ?_⟩, ⟨?_, ?_⟩, fun j c hc => ?_, fun j x hx => ?_⟩
  · rw [hj q (by omega) (by omega)]; exact a
  · rw [hj q (by omega) (by omega)]; exact b
  · rw [hj q (by omega) (by omega)]; exact c
  · rw [hj q (by omega) (by omega)]; exact d
  · rw [hj q (by omega) (by omega)]; exact e
  · rw [hj q (by omega) (by omega)]; exact f
  · rw [hj _ (by omega) (by omega), hj _ (by omega) (by omega), hj _ (by omega) (by omega), hj _ (by omega) (by omega)]; exact g j c hc
  · rw [hj _ (by omega) (by omega)]; exact i j x hx
theorem e_forget {G : mm_M} {J : Nat → Nat → Int32} {q st kd tg se N : Nat} {C : List Cd} {H : List Nat} (h : sL G q) (hl : lk J q st kd tg se C H) : ∃ J', pX3_forget_0 N q (mm_w G J) = some (mm_w G J', ()) ∧ lk J' q 0 kd tg se [] [] ∧ frL J J' q := by
  obtain ⟨⟨a, b, c, d⟩, -, -, -⟩ := hl
  refine ⟨js (js (js J q 5 0) q 9 0) q 10 0, ?_, ⟨⟨?_, ?_, ?_, ?_⟩, ⟨?_, ?_⟩, fun j c hc => by simp at hc, fun j x hx => by simp at hx⟩, ?_⟩
  · unfold pX3_forget_0
    rw [w_pI h.1, w_pI h.1, w_pI h.1]
  · simp [js, zi_0]
  · simp [js, b]
  · simp [js, c]
  · simp [js, d]
  · simp [js, zi_0]
  · simp [js, zi_0]
  · intro b j hb
    rw [js_ne _ (Or.inl (by omega)), js_ne _ (Or.inl (by omega)), js_ne _ (Or.inl (by omega))]
theorem e_lstart {G : mm_M} {J : Nat → Nat → Int32} {q st kd tg se N k t s : Nat} {C : List Cd} {H : List Nat} {x y z : Int32} (h : sL G q) (hl : lk J q st kd tg se C H) (hx : x.toInt = (k : Int)) (hy : y.toInt = (t : Int)) (hz : z.toInt = (s : Int)) : ∃ J', pX3_start_0 N q (mm_w G J) x y z = some (mm_w G J', ()) ∧ lk J' q 1 k t s [] [] ∧ frL J J' q := by
  obtain ⟨J1, e1, e2, e3⟩ := e_forget (N := N) h hl
  obtain ⟨⟨a, b, c, d⟩, ⟨e, f⟩, -, -⟩ := e2
  refine ⟨js (js (js (js J1 q 6 x) q 7 y) q 8 z) q 5 1, ?_, ⟨⟨?_, ?_, ?_, ?_⟩, ⟨?_, ?_⟩, fun j c hc => by simp at hc, fun j x hx => by simp at hx⟩, ?_⟩
  · unfold pX3_start_0
    rw [w_is h.1, e1, w_cl, w_pI h.1, w_pI h.1, w_pI h.1, w_pI h.1]
  · simp [js, zi_1]
  · simp [js, hx]
  · simp [js, hy]
  · simp [js, hz]
  · simp [js]; simpa using e
  · simp [js]; simpa using f
  · intro b j hb
    rw [js_ne _ (Or.inl (by omega)), js_ne _ (Or.inl (by omega)), js_ne _ (Or.inl (by omega)), js_ne _ (Or.inl (by omega)), e3 b j hb]
theorem e_running {G : mm_M} {J : Nat → Nat → Int32} {q st kd tg se N : Nat} {C : List Cd} {H : List Nat} (h : sL G q) (hl : lk J q st kd tg se C H) : pX3_isRunning_0 N q (mm_w G J) = some (mm_w G J, if st = 1 then 1 else 0) := by
  unfold pX3_isRunning_0
  rw [w_gI h.1]
  by_cases hs : st = 1
  · rw [if_pos (by rw [zi_eq, hl.1.1, zi_1]; omega), if_pos hs]
  · rw [if_neg (by rw [zi_eq, hl.1.1, zi_1]; omega), if_neg hs]
theorem e_hascand {G : mm_M} {J : Nat → Nat → Int32} {q st kd tg se N : Nat} {C : List Cd} {H : List Nat} {x : Int32} (h : sL G q) (hl : lk J q st kd tg se C H) : pX3_hasCandidate_0 N q (mm_w G J) x = some (mm_w G J, if 0 ≤ x.toInt ∧ x.toInt < C.length then 1 else 0) := by
  unfold pX3_hasCandidate_0
  by_cases h0 : x.toInt < 0
  · rw [if_pos (by rw [zi_lt, zi_0]; exact h0), if_neg (by omega)]
  · rw [if_neg (by rw [zi_lt, zi_0]; exact h0), w_gI h.1]
    by_cases h1 : (C.length : Int) ≤ x.toInt
    · rw [if_pos (by rw [zi_le, hl.2.1.1]; exact h1), if_neg (by omega)]
    · rw [if_neg (by rw [zi_le, hl.2.1.1]; exact h1), if_pos (by omega)]
theorem e_lplace_l {G : mm_M} {J : Nat → Nat → Int32} {q c N : Nat} {x : Int32} {kx : mm_M → Option (mm_M × Int32)} (h : sL G q) (hc : (J q 9).toInt = (c : Int)) (hc3 : c ≤ 12) : ∀ (r n i : Nat) (y : Int32), y.toInt = (i : Int) → i + r = c → r < n → pX3_placeOf_2 N q kx n (mm_w G J) x y = match fi (fun j => decide (J (q + 1) j = x)) i r with | some j => some (mm_w G J, Int32.ofNat j) | none => kx (mm_w G J) := by
  have hr0 := h.2 0 (by omega)
  intro r
  induction r with
  | zero =>
    intro n i y hy hi hn
    obtain ⟨n, rfl⟩ : ∃ m, n = m + 1 := ⟨n - 1, by omega⟩
    show pX3_placeOf_2_b N q _ kx _ x y = _
    unfold pX3_placeOf_2_b
    rw [w_gI h.1, if_pos (by rw [zi_le, hc, hy]; omega)]
    rfl
  | succ r ih =>
    intro n i y hy hi hn
    obtain ⟨n, rfl⟩ : ∃ m, n = m + 1 := ⟨n - 1, by omega⟩
    show pX3_placeOf_2_b N q _ kx _ x y = _
    unfold pX3_placeOf_2_b fi
    rw [w_gI h.1, if_neg (by rw [zi_le, hc, hy]; omega), w_gR h.1, hr0.1, w_nn, w_aI hr0.2.1 hy (by rw [hr0.2.2]; omega)]
    by_cases hx : J (q + 1) i = x
    · rw [if_pos hx, if_pos (by simpa using hx), zi_eqN hy (by omega)]
    · rw [if_neg hx, if_neg (by simpa using hx)]
      exact ih n (i + 1) (y + 1) (zi_inc hy (by omega)) (by omega) (by omega)
/-- a search by the memory is a search in the list -/
theorem fi_find {α : Type} {L : List α} {P : α → Bool} {Q : Nat → Bool} (h : ∀ j a, L[j]? = some a → Q j = P a) : ∀ (r i : Nat), i + r = L.length → fi Q i r = ((L.drop i).findIdx? P).map (fun j => j + i) := by
  intro r
  induction r with
  | zero =>
    intro i hi
    rw [List.drop_eq_nil_of_le (by omega)]
    rfl
  | succ r ih =>
    intro i hi
    have hlt : i < L.length := by omega
    rw [List.drop_eq_getElem_cons hlt, List.findIdx?_cons]
    unfold fi
    rw [h i L[i] (List.getElem?_eq_getElem hlt)]
    by_cases hu : P L[i] = true
    · simp [hu]
    · simp only [hu, if_false, Bool.false_eq_true]
      rw [ih (i + 1) (by omega)]
      cases (List.drop (i + 1) L).findIdx? P with
      | none => rfl
      | some j => simp; omega
theorem fi_find0 {α : Type} {L : List α} {P : α → Bool} {Q : Nat → Bool} (h : ∀ j a, L[j]? = some a → Q j = P a) : fi Q 0 L.length = L.findIdx? P := by
  rw [fi_find h L.length 0 (by omega)]
  simp
def cpl (C : List Cd) (u : Nat) : Option Nat := C.findIdx? (fun c => decide (c.1 = u))
theorem e_lplace {G : mm_M} {J : Nat → Nat → Int32} {q st kd tg se N u : Nat} {C : List Cd} {H : List Nat} {x : Int32} (h : sL G q) (hl : lk J q st kd tg se C H) (h12 : C.length ≤ 12) (hN : 400 ≤ N) (hx : x.toInt = (u : Int)) : pX3_placeOf_0 N q (mm_w G J) x = some (mm_w G J, oI (cpl C u)) := by
  unfold pX3_placeOf_0
  rw [e_lplace_l h hl.2.1.1 h12 C.length N 0 0 zi_0 (by omega) (by omega)]
  rw [fi_find0 (L := C) (P := fun c => decide (c.1 = u)) (fun j c hc => by
    have h9 := (hl.2.2.1 j c hc).1
    rw [Bool.eq_iff_iff]
    simp only [decide_eq_true_eq]
    rw [zi_eq, h9, hx]
    omega)]
  unfold cpl
  cases C.findIdx? (fun c => decide (c.1 = u)) with
  | none => rfl
  | some j => rfl
/-! a candidate goes in by its distance -/
def ipf (f : Nat → Bool) : Nat → Nat
  | 0 => 0
  | k + 1 => if f k = true then ipf f k else k + 1
theorem ipf_le (f : Nat → Bool) : ∀ k, ipf f k ≤ k
  | 0 => Nat.le_refl _
  | k + 1 => by
    unfold ipf
    split
    · have := ipf_le f k; omega
    · omega
def kgt (C : List Cd) (t u : Nat) (k : Nat) : Bool := decide (u ^^^ t < (C.getD k (0, 0, 0, 0)).1 ^^^ t)
def cin (C : List Cd) (t u : Nat) : List Cd := C.take (ipf (kgt C t u) C.length) ++ ((u, 0, -1, -1) :: C.drop (ipf (kgt C t u) C.length))
def shd (J : Nat → Nat → Int32) (q c i : Nat) : Nat → Nat → Int32 := fun b m => if (q + 1 ≤ b ∧ b ≤ q + 4) ∧ i < m ∧ m ≤ c then J b (m - 1) else J b m
theorem shd_0 (J : Nat → Nat → Int32) (q c : Nat) : shd J q c c = J := by
  funext b k
  unfold shd
  rw [if_neg (by omega)]
theorem shd_s (J : Nat → Nat → Int32) (q c i : Nat) (h : i + 1 ≤ c) : js (js (js (js (shd J q c (i + 1)) (q + 1) (i + 1) (J (q + 1) i)) (q + 2) (i + 1) (J (q + 2) i)) (q + 3) (i + 1) (J (q + 3) i)) (q + 4) (i + 1) (J (q + 4) i) = shd J q c i := by
  funext b k
  unfold js
  by_cases h4 : b = q + 4 ∧ k = i + 1
  · rw [if_pos h4]; unfold shd; rw [if_pos (by omega), h4.1, h4.2]; rfl
  · rw [if_neg h4]
    by_cases h3 : b = q + 3 ∧ k = i + 1
    · rw [if_pos h3]; unfold shd; rw [if_pos (by omega), h3.1, h3.2]; rfl
    · rw [if_neg h3]
      by_cases h2 : b = q + 2 ∧ k = i + 1
      · rw [if_pos h2]; unfold shd; rw [if_pos (by omega), h2.1, h2.2]; rfl
      · rw [if_neg h2]
        by_cases h1 : b = q + 1 ∧ k = i + 1
        · rw [if_pos h1]; unfold shd; rw [if_pos (by omega), h1.1, h1.2]; rfl
        · rw [if_neg h1]
          unfold shd
          by_cases h0 : (q + 1 ≤ b ∧ b ≤ q + 4) ∧ i + 1 < k ∧ k ≤ c
          · rw [if_pos h0, if_pos (by omega)]
          · rw [if_neg h0, if_neg (by omega)]
