theorem zi_half {x : Int32} {n : Nat} (h : x.toInt = (n : Int)) : (x / 2).toInt = ((n / 2 : Nat) : Int) := by
  have hr := zi_rng x
  rw [Int32.toInt_div, h, zi_2]
  have e : (n : Int).tdiv 2 = ((n / 2 : Nat) : Int) := by
    rw [Int.tdiv_eq_ediv_of_nonneg (by omega)]
    omega
  rw [e, zi_bm (by omega) (by omega)]
def fr6 (J J' : Nat → Nat → Int32) (q p : Nat) : Prop := ∀ b j, b ≠ q → b ≠ q + 1 → b ≠ q + 2 → b ≠ p → b ≠ p + 1 → b ≠ p + 2 → J' b j = J b j
theorem fil_len {L : List (Nat × Nat)} {P : Nat × Nat → Bool} (i : Nat) : ((L.take i).filter P).length ≤ i := by
  have h1 := List.length_filter_le P (L.take i)
  have h2 : (L.take i).length ≤ i := by simp; omega
  omega
theorem take_s {L : List (Nat × Nat)} {i : Nat} (h : i < L.length) : L.take (i + 1) = L.take i ++ [L[i]] := by
  rw [List.take_succ, List.getElem?_eq_getElem h]
  rfl
theorem e_half_l {G : mm_M} {J0 : Nat → Nat → Int32} {q p N mid z t f : Nat} {L : List (Nat × Nat)} {kx : mm_M → Option (mm_M × Unit)} {w : Int32} (h : sB G q) (hu : sB G p) (hd : q + 3 ≤ p ∨ p + 3 ≤ q) (hl : L.length ≤ 3) (hw : w.toInt = (L.length : Int)) : ∀ (r n i : Nat) (y : Int32) (J : Nat → Nat → Int32), y.toInt = (i : Int) → i + r = L.length → r < n → bk J q f z t ((L.take i).filter (fun c => decide (c.1 < mid))) → bk J p mid z t ((L.take i).filter (fun c => !decide (c.1 < mid))) → (∀ k c, i ≤ k → L[k]? = some c → (J (q + 1) k).toInt = (c.1 : Int) ∧ (J (q + 2) k).toInt = (c.2 : Int)) → fr6 J0 J q p → ∃ J', pX0_moveUpperHalf_43 N q kx n (mm_w G J) (some p) w y = kx (mm_w G J') ∧ bk J' q f z t (L.filter (fun c => decide (c.1 < mid))) ∧ bk J' p mid z t (L.filter (fun c => !decide (c.1 < mid))) ∧ fr6 J0 J' q p := by
  intro r
  induction r with
  | zero =>
    intro n i y J hy hi hn b1 b2 hk hf
    obtain ⟨n, rfl⟩ : ∃ m, n = m + 1 := ⟨n - 1, by omega⟩
    have hi2 : i = L.length := by omega
    subst hi2
    rw [List.take_length] at b1 b2
    refine ⟨J, ?_, b1, b2, hf⟩
    show pX0_moveUpperHalf_43_b N q _ kx _ _ w y = _
    unfold pX0_moveUpperHalf_43_b
    rw [if_pos (by rw [zi_le, hw, hy]; omega)]
  | succ r ih =>
    intro n i y J hy hi hn b1 b2 hk hf
    obtain ⟨n, rfl⟩ : ∃ m, n = m + 1 := ⟨n - 1, by omega⟩
    have hlt : i < L.length := by omega
    obtain ⟨k1, k2⟩ := hk i L[i] (Nat.le_refl _) (List.getElem?_eq_getElem hlt)
    have hfl := fil_len (L := L) (P := fun c => decide (c.1 < mid)) i
    have hfu := fil_len (L := L) (P := fun c => !decide (c.1 < mid)) i
    have hunf : pX0_moveUpperHalf_43 N q kx (n + 1) (mm_w G J) (some p) w y = if J p 2 ≤ J (q + 1) i then q_cl (pX0_append_0 N p (mm_w G J) (J (q + 1) i) (J (q + 2) i)) fun G _ => pX0_moveUpperHalf_43 N q kx n G (some p) w (y + 1) else q_cl (pX0_append_0 N q (mm_w G J) (J (q + 1) i) (J (q + 2) i)) fun G _ => pX0_moveUpperHalf_43 N q kx n G (some p) w (y + 1) := by
      show pX0_moveUpperHalf_43_b N q _ kx _ _ w y = _
      unfold pX0_moveUpperHalf_43_b
      obtain ⟨h0, h1, h2, ⟨h3, h4⟩, h5, h6⟩ := h
      rw [if_neg (by rw [zi_le, hw, hy]; omega), w_gR h0, h1, w_nn, w_aI h3 hy (by omega), w_nn, w_gI hu.1]
      split
      · rw [w_gR h0, h1, w_nn, w_aI h3 hy (by omega), w_gR h0, h2, w_nn, w_aI h5 hy (by omega), w_is hu.1]
      · rw [w_gR h0, h1, w_nn, w_aI h3 hy (by omega), w_gR h0, h2, w_nn, w_aI h5 hy (by omega), w_is h0]
    rw [hunf]
    have hy1 := zi_inc hy (by omega)
    by_cases hm : L[i].1 < mid
    · rw [if_neg (by rw [zi_le, b2.1, k1]; omega)]
      obtain ⟨J1, e1, e2, e3, e4⟩ := e_append (N := N) h b1 (by omega) k1 k2
      rw [e1, w_cl]
      refine ih n (i + 1) (y + 1) J1 hy1 (by omega) (by omega) ?_ ?_ ?_ ?_
      · rw [take_s hlt, List.filter_append]
        simp [hm]
        simpa using e2
      · rw [take_s hlt, List.filter_append]
        simp [hm]
        simpa using bk_congr b2 (fun j => e3 _ j (by omega) (by omega) (by omega)) (fun j => e3 _ j (by omega) (by omega) (by omega)) (fun j => e3 _ j (by omega) (by omega) (by omega))
      · intro k c hki hc
        obtain ⟨g1, g2⟩ := e4 k (by omega)
        rw [g1, g2]
        exact hk k c (by omega) hc
      · intro b j g0 g1 g2 g3 g4 g5
        rw [e3 b j g0 g1 g2]
        exact hf b j g0 g1 g2 g3 g4 g5
    · rw [if_pos (by rw [zi_le, b2.1, k1]; omega)]
      obtain ⟨J1, e1, e2, e3, e4⟩ := e_append (N := N) hu b2 (by omega) k1 k2
      rw [e1, w_cl]
      refine ih n (i + 1) (y + 1) J1 hy1 (by omega) (by omega) ?_ ?_ ?_ ?_
      · rw [take_s hlt, List.filter_append]
        simp [hm]
        simpa using bk_congr b1 (fun j => e3 _ j (by omega) (by omega) (by omega)) (fun j => e3 _ j (by omega) (by omega) (by omega)) (fun j => e3 _ j (by omega) (by omega) (by omega))
      · rw [take_s hlt, List.filter_append]
        simp [hm]
        simpa using e2
      · intro k c hki hc
        rw [e3 _ k (by omega) (by omega) (by omega), e3 _ k (by omega) (by omega) (by omega)]
        exact hk k c (by omega) hc
      · intro b j g0 g1 g2 g3 g4 g5
        rw [e3 b j g3 g4 g5]
        exact hf b j g0 g1 g2 g3 g4 g5
theorem e_half {G : mm_M} {J : Nat → Nat → Int32} {q p N z t f : Nat} {L : List (Nat × Nat)} (h : sB G q) (hu : sB G p) (hd : q + 3 ≤ p ∨ p + 3 ≤ q) (hb : bk J q f z t L) (hl : L.length ≤ 3) (hN : 400 ≤ N) (hz : f + z < 1000000) : ∃ J', pX0_moveUpperHalf_0 N q (mm_w G J) (some p) = some (mm_w G J', ()) ∧ bk J' q f (z / 2) t (L.filter (fun c => decide (c.1 < f + z / 2))) ∧ bk J' p (f + z / 2) (z / 2) t (L.filter (fun c => !decide (c.1 < f + z / 2))) ∧ fr6 J J' q p := by
  obtain ⟨b0, b1, b2, b3, b4⟩ := hb
  have hh := zi_half b1
  have hs : (js J q 3 (J q 3 / 2) q 2 + J q 3 / 2).toInt = ((f + z / 2 : Nat) : Int) := by
    rw [js_ne _ (Or.inr (by omega)), zi_add b0 hh (by omega) (by omega)]
    omega
  obtain ⟨J1, e1, e2, e3⟩ := e_open (N := N) (J := js (js J q 3 (J q 3 / 2)) q 5 0) (t := t) (w := J q 4) hu hs hh b2
  obtain ⟨J2, g1, g2, g3, g4⟩ := e_half_l (N := N) (kx := fun (G : mm_M) => some (G, ())) (J0 := J) (L := L) h hu hd hl b3 L.length N 0 0 J1 zi_0 (by omega) (by omega)
    (by
      refine ⟨?_, ?_, ?_, ?_, ?_⟩
      · rw [e3 _ _ (by omega) (by omega) (by omega), js_ne _ (Or.inr (by omega)), js_ne _ (Or.inr (by omega))]; exact b0
      · rw [e3 _ _ (by omega) (by omega) (by omega), js_ne _ (Or.inr (by omega)), js_same]; exact hh
      · rw [e3 _ _ (by omega) (by omega) (by omega), js_ne _ (Or.inr (by omega)), js_ne _ (Or.inr (by omega))]; exact b2
      · rw [e3 _ _ (by omega) (by omega) (by omega), js_same]; rfl
      · intro j c hc; simp at hc)
    (by simpa using e2)
    (by
      intro k c _ hc
      rw [e3 _ _ (by omega) (by omega) (by omega), e3 _ _ (by omega) (by omega) (by omega), js_ne _ (Or.inl (by omega)), js_ne _ (Or.inl (by omega)), js_ne _ (Or.inl (by omega)), js_ne _ (Or.inl (by omega))]
      exact b4 k c hc)
    (by
      intro b j g0 g1 g2 g3 g4 g5
      rw [e3 b j g3 g4 g5, js_ne _ (Or.inl g0), js_ne _ (Or.inl g0)])
  refine ⟨J2, ?_, g2, g3, g4⟩
  unfold pX0_moveUpperHalf_0
  rw [w_gI h.1, w_gI h.1, w_pI h.1, w_pI h.1, w_gI h.1, w_gI h.1, w_gI h.1, w_gI h.1, w_nn, w_is hu.1]
  have q3 : js (js J q 3 (J q 3 / 2)) q 5 0 q 3 = J q 3 / 2 := by rw [js_ne _ (Or.inr (by omega)), js_same]
  have q2 : js (js J q 3 (J q 3 / 2)) q 5 0 q 2 = js J q 3 (J q 3 / 2) q 2 := by rw [js_ne _ (Or.inr (by omega))]
  have q4 : js (js J q 3 (J q 3 / 2)) q 5 0 q 4 = J q 4 := by rw [js_ne _ (Or.inr (by omega)), js_ne _ (Or.inr (by omega))]
  rw [q3, q2, q4, e1, w_cl]
  exact g1
