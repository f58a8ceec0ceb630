/-! the reference's line -/
def rlin (J : Nat → Nat → Int32) (m : Nat) (L : List Dg) : Prop := (J m 24).toInt = (L.length : Int) ∧ L.length ≤ 24 ∧ ∀ (k : Nat) (D : Dg), L[k]? = some D → ∀ c, c < 12 → (J (m + 21) (12 * k + c)).toInt = D c
/-- all but the line is as it was -/
def frR (J J' : Nat → Nat → Int32) (m : Nat) : Prop := ∀ z j, z ≠ m + 21 → (z ≠ m ∨ j ≠ 24) → J' z j = J z j
theorem frR.trans {J J' J'' : Nat → Nat → Int32} {m : Nat} (h : frR J J' m) (k : frR J' J'' m) : frR J J'' m := fun z j a b => (k z j a b).trans (h z j a b)
theorem frR.refl {J : Nat → Nat → Int32} {m : Nat} : frR J J m := fun _ _ _ _ => rfl
theorem zi_10 : (10 : Int32).toInt = 10 := by decide
theorem zi_k12 {x : Int32} {k : Nat} (h : x.toInt = (k : Int)) (hk : k < 100000) : ((12 : Int32) * x).toInt = ((12 * k : Nat) : Int) := by
  rw [zi_mul zi_12 h (by omega) (by omega)]; omega
section RLINE
variable {G : mm_M} {m N : Nat} {ids : List Nat}
theorem r_send_l {r : Nat} {x7 : Int32} {kx : mm_M → Int32 → Option (mm_M × Int32)} (h : sM G m) (h7 : x7.toInt = (r : Int)) (hr : r + 12 ≤ 288) : ∀ (q n c : Nat) (z : Int32) (J : Nat → Nat → Int32), z.toInt = (c : Int) → c + q = 12 → q < n → ∃ J', pX7_send_105 N m kx n (mm_w G J) x7 z = kx (mm_w G J') x7 ∧ (∀ d, c ≤ d → d < 12 → J' (m + 21) (r + d) = -1) ∧ ∀ z j, (z ≠ m + 21 ∨ j < r + c ∨ r + 12 ≤ j) → J' z j = J z j := by
  intro q
  induction q with
  | zero =>
    intro n c z J hz hc hn
    obtain ⟨n, rfl⟩ : ∃ m, n = m + 1 := ⟨n - 1, by omega⟩
    refine ⟨J, ?_, fun d d1 d2 => by omega, fun _ _ _ => rfl⟩
    show pX7_send_105_b N m _ kx _ x7 z = _
    unfold pX7_send_105_b
    rw [if_pos (by rw [zi_le, zi_12, hz]; omega)]
  | succ q ih =>
    intro n c z J hz hc hn
    obtain ⟨n, rfl⟩ : ∃ m, n = m + 1 := ⟨n - 1, by omega⟩
    obtain ⟨J', e1, e2, e3⟩ := ih n (c + 1) (z + 1) (js J (m + 21) (r + c) (-1)) (zi_inc hz (by omega)) (by omega) (by omega)
    refine ⟨J', ?_, fun d d1 d2 => ?_, fun z j hz => ?_⟩
    · show pX7_send_105_b N m _ kx _ x7 z = _
      unfold pX7_send_105_b
      rw [if_neg (by rw [zi_le, zi_12, hz]; omega), gr_line h, w_nn, si_line (i := r + c) h (by rw [zi_add h7 hz (by omega) (by omega)]; omega) (by omega)]
      exact e1
    · by_cases hd : d = c
      · subst hd
        rw [e3 _ _ (Or.inr (Or.inl (by omega))), js_same]
      · exact e2 d (by omega) d2
    · rw [e3 z j (by omega), js_ne _ (by omega)]
theorem r_send {J : Nat → Nat → Int32} {L : List Dg} {i j : Nat} {x1 x2 x3 x4 x5 x6 : Int32} (h : sM G m) (hi : rid J m ids) (hl : rlin J m L) (hN : 400 ≤ N) (h2 : x2.toInt = (i : Int)) (h3 : x3.toInt = (j : Int)) (hi2 : i < ids.length) (hj : j < ids.length) : ∃ J', pX7_send_0 N m (mm_w G J) x1 x2 x3 x4 x5 x6 = some (mm_w G J', if L.length < 24 then Int32.ofNat (12 * L.length) else -1) ∧ rlin J' m (ladd L (mkD x1.toInt (idg ids i) (idg ids j) x4.toInt x5.toInt x6.toInt)) ∧ frR J J' m := by
  obtain ⟨l1, l2, l3⟩ := hl
  have h12 := hi.2.1
  obtain ⟨u1, -⟩ := hi.g hi2
  obtain ⟨v1, -⟩ := hi.g hj
  unfold pX7_send_0 ladd
  rw [w_gI h.1]
  by_cases hc : L.length < 24
  · have hr := zi_k12 l1 (by omega)
    have ha : ∀ k : Nat, ∀ y : Int32, y.toInt = (k : Int) → k < 12 → ((12 : Int32) * J m 24 + y).toInt = ((12 * L.length + k : Nat) : Int) := fun k y hy hk => by rw [zi_add hr hy (by omega) (by omega)]; omega
    rw [if_pos (by rw [zi_lt, l1, zi_24]; omega), if_pos hc, if_pos hc, w_gI h.1, w_gI h.1, w_pI h.1, gr_line h, w_nn, si_line h hr (by omega), gr_line h, gr_id h, w_nn, ai_id h h2 (by omega), w_nn, si_line h (ha 1 1 zi_1 (by omega)) (by omega), gr_line h, gr_id h, w_nn, ai_id h h3 (by omega), w_nn, si_line h (ha 2 2 zi_2 (by omega)) (by omega), gr_line h, w_nn, si_line h (ha 3 3 zi_3 (by omega)) (by omega), gr_line h, w_nn, si_line h (ha 4 4 zi_4 (by omega)) (by omega), gr_line h, w_nn, si_line h (ha 5 5 zi_5 (by omega)) (by omega)]
    generalize hJ1 : js J m 24 (J m 24 + 1) = J1
    have f1 : ∀ z k, (z ≠ m ∨ k ≠ 24) → J1 z k = J z k := fun z k hz => by rw [← hJ1]; exact js_ne _ (by omega)
    have n1 : (J1 m 24).toInt = ((L.length + 1 : Nat) : Int) := by rw [← hJ1, js_same]; exact zi_inc l1 (by omega)
    rw [js_ne (a := m + 21) (b := m + 1) _ (Or.inl (by omega)), js_ne (a := m + 21) (b := m + 1) _ (Or.inl (by omega)), js_ne (a := m + 21) (b := m + 1) _ (Or.inl (by omega)), f1 (m + 1) i (Or.inl (by omega)), f1 (m + 1) j (Or.inl (by omega))]
    generalize hJ2 : js (js (js (js (js (js J1 (m + 21) (12 * L.length) x1) (m + 21) (12 * L.length + 1) (J (m + 1) i)) (m + 21) (12 * L.length + 2) (J (m + 1) j)) (m + 21) (12 * L.length + 3) x4) (m + 21) (12 * L.length + 4) x5) (m + 21) (12 * L.length + 5) x6 = J2
    have f2 : ∀ z k, (z ≠ m + 21 ∨ k < 12 * L.length ∨ 12 * L.length + 6 ≤ k) → J2 z k = J1 z k := fun z k hz => by
      rw [← hJ2, js_ne _ (by omega), js_ne _ (by omega), js_ne _ (by omega), js_ne _ (by omega), js_ne _ (by omega), js_ne _ (by omega)]
    have d0 : J2 (m + 21) (12 * L.length) = x1 := by rw [← hJ2, js_ne _ (by omega), js_ne _ (by omega), js_ne _ (by omega), js_ne _ (by omega), js_ne _ (by omega), js_same]
    have d1 : J2 (m + 21) (12 * L.length + 1) = J (m + 1) i := by rw [← hJ2, js_ne _ (by omega), js_ne _ (by omega), js_ne _ (by omega), js_ne _ (by omega), js_same]
    have d2 : J2 (m + 21) (12 * L.length + 2) = J (m + 1) j := by rw [← hJ2, js_ne _ (by omega), js_ne _ (by omega), js_ne _ (by omega), js_same]
    have d3 : J2 (m + 21) (12 * L.length + 3) = x4 := by rw [← hJ2, js_ne _ (by omega), js_ne _ (by omega), js_same]
    have d4 : J2 (m + 21) (12 * L.length + 4) = x5 := by rw [← hJ2, js_ne _ (by omega), js_same]
    have d5 : J2 (m + 21) (12 * L.length + 5) = x6 := by rw [← hJ2, js_same]
    obtain ⟨J3, e1, e2, e3⟩ := r_send_l (N := N) (r := 12 * L.length) (x7 := 12 * J m 24) (kx := fun (G : mm_M) (x7 : Int32) => some (G, x7)) h hr (by omega) 6 N 6 6 J2 zi_6 (by omega) (by omega)
    refine ⟨J3, ?_, ⟨?_, ?_, ?_⟩, fun z k z1 z2 => ?_⟩
    · rw [e1, zi_eqN hr (by omega)]
    · rw [e3 _ _ (Or.inl (by omega)), f2 _ _ (Or.inl (by omega)), n1, List.length_append]; rfl
    · rw [List.length_append]; simp only [List.length_cons, List.length_nil]; omega
    · intro k D hD c hc12
      by_cases hk : k < L.length
      · rw [List.getElem?_append_left hk] at hD
        rw [e3 _ _ (by omega), f2 _ _ (by omega), f1 _ _ (Or.inl (by omega))]
        exact l3 k D hD c hc12
      · rw [List.getElem?_append_right (by omega)] at hD
        have hk0 : k = L.length := by
          refine Decidable.byContradiction fun hne => ?_
          rw [show k - L.length = (k - L.length - 1) + 1 by omega] at hD
          cases hD
        subst hk0
        rw [Nat.sub_self] at hD
        cases hD
        rcases (by omega : c = 0 ∨ c = 1 ∨ c = 2 ∨ c = 3 ∨ c = 4 ∨ c = 5 ∨ 6 ≤ c) with rfl | rfl | rfl | rfl | rfl | rfl | hc6
        · rw [e3 _ _ (by omega), show 12 * L.length + 0 = 12 * L.length from rfl, d0]; rfl
        · rw [e3 _ _ (by omega), d1, u1]; rfl
        · rw [e3 _ _ (by omega), d2, v1]; rfl
        · rw [e3 _ _ (by omega), d3]; rfl
        · rw [e3 _ _ (by omega), d4]; rfl
        · rw [e3 _ _ (by omega), d5]; rfl
        · rw [e2 c hc6 hc12, zi_m1]
          unfold mkD
          rw [if_neg (by omega), if_neg (by omega), if_neg (by omega), if_neg (by omega), if_neg (by omega), if_neg (by omega)]
    · rw [e3 _ _ (Or.inl z1), f2 _ _ (Or.inl z1), f1 _ _ z2]
  · rw [if_neg (by rw [zi_lt, l1, zi_24]; omega), if_neg hc, if_neg hc]
    exact ⟨J, rfl, ⟨l1, l2, l3⟩, frR.refl⟩
def shL (J : Nat → Nat → Int32) (m a c : Nat) : Nat → Nat → Int32 := fun z j => if z = m + 21 ∧ a ≤ j ∧ j < c then J z (j + 12) else J z j
theorem r_out_s {J : Nat → Nat → Int32} {k l : Nat} {kx : mm_M → Option (mm_M × Unit)} (h : sM G m) (hl : (J m 24).toInt = (l : Int)) (hl24 : l ≤ 23) : ∀ (q n c : Nat) (z : Int32), z.toInt = (c : Int) → 12 * k ≤ c → c + q = 12 * l → q < n → pX7_takeOut_46 N m kx n (mm_w G (shL J m (12 * k) c)) z = kx (mm_w G (shL J m (12 * k) (12 * l))) := by
  intro q
  induction q with
  | zero =>
    intro n c z hz hk hc hn
    obtain ⟨n, rfl⟩ : ∃ m, n = m + 1 := ⟨n - 1, by omega⟩
    show pX7_takeOut_46_b N m _ kx _ z = _
    unfold pX7_takeOut_46_b
    have : shL J m (12 * k) c m 24 = J m 24 := if_neg (by omega)
    rw [w_gI h.1, this, if_pos (by rw [zi_le, zi_k12 hl (by omega), hz]; omega), show c = 12 * l by omega]
  | succ q ih =>
    intro n c z hz hk hc hn
    obtain ⟨n, rfl⟩ : ∃ m, n = m + 1 := ⟨n - 1, by omega⟩
    show pX7_takeOut_46_b N m _ kx _ z = _
    unfold pX7_takeOut_46_b
    have h0 : shL J m (12 * k) c m 24 = J m 24 := if_neg (by omega)
    have h1 : shL J m (12 * k) c (m + 21) (c + 12) = J (m + 21) (c + 12) := if_neg (by omega)
    have h2 : js (shL J m (12 * k) c) (m + 21) c (J (m + 21) (c + 12)) = shL J m (12 * k) (c + 1) := by
      funext y j
      unfold js shL
      by_cases hy : y = m + 21
      · subst hy
        by_cases hj : j = c
        · subst hj
          rw [if_pos ⟨rfl, rfl⟩, if_pos (by omega)]
        · rw [if_neg (by omega)]
          by_cases hj2 : 12 * k ≤ j ∧ j < c
          · rw [if_pos (by omega), if_pos (by omega)]
          · rw [if_neg (by omega), if_neg (by omega)]
      · rw [if_neg (by omega), if_neg (by omega), if_neg (by omega)]
    rw [w_gI h.1, h0, if_neg (by rw [zi_le, zi_k12 hl (by omega), hz]; omega), gr_line h, gr_line h, w_nn, ai_line (i := c + 12) h (by rw [zi_add hz zi_12 (by omega) (by omega)]; omega) (by omega), h1, w_nn, si_line h hz (by omega), h2]
    exact ih n (c + 1) (z + 1) (zi_inc hz (by omega)) (by omega) (by omega) (by omega)
theorem r_out_c {k : Nat} {x : Int32} {kx : mm_M → Int32 → Option (mm_M × Unit)} (h : sM G m) (hx : x.toInt = (k : Int)) (hk : k < 24) : ∀ (q n c : Nat) (z : Int32) (J : Nat → Nat → Int32), z.toInt = (c : Int) → c + q = 12 → q < n → ∃ J', pX7_takeOut_2 N m kx n (mm_w G J) x z = kx (mm_w G J') x ∧ (∀ d, c ≤ d → d < 12 → J' (m + 22) d = J (m + 21) (12 * k + d)) ∧ ∀ y j, (y ≠ m + 22 ∨ j < c) → J' y j = J y j := by
  intro q
  induction q with
  | zero =>
    intro n c z J hz hc hn
    obtain ⟨n, rfl⟩ : ∃ m, n = m + 1 := ⟨n - 1, by omega⟩
    refine ⟨J, ?_, fun d d1 d2 => by omega, fun _ _ _ => rfl⟩
    show pX7_takeOut_2_b N m _ kx _ x z = _
    unfold pX7_takeOut_2_b
    rw [if_pos (by rw [zi_le, zi_12, hz]; omega)]
  | succ q ih =>
    intro n c z J hz hc hn
    obtain ⟨n, rfl⟩ : ∃ m, n = m + 1 := ⟨n - 1, by omega⟩
    obtain ⟨J', e1, e2, e3⟩ := ih n (c + 1) (z + 1) (js J (m + 22) c (J (m + 21) (12 * k + c))) (zi_inc hz (by omega)) (by omega) (by omega)
    refine ⟨J', ?_, fun d d1 d2 => ?_, fun y j hy => ?_⟩
    · show pX7_takeOut_2_b N m _ kx _ x z = _
      unfold pX7_takeOut_2_b
      rw [if_neg (by rw [zi_le, zi_12, hz]; omega), gr_now h, gr_line h, w_nn, ai_line (i := 12 * k + c) h (by rw [zi_add (zi_k12 hx (by omega)) hz (by omega) (by omega)]; omega) (by omega), w_nn, si_now h hz (by omega)]
      exact e1
    · by_cases hd : d = c
      · subst hd
        rw [e3 _ _ (Or.inr (by omega)), js_same]
      · rw [e2 d (by omega) d2, js_ne _ (Or.inl (by omega))]
    · rw [e3 y j (by omega), js_ne _ (by omega)]
def rnow (J : Nat → Nat → Int32) (m : Nat) (D : Dg) : Prop := ∀ c, c < 12 → (J (m + 22) c).toInt = D c
theorem r_out {J : Nat → Nat → Int32} {L : List Dg} {k : Nat} {D : Dg} {x : Int32} (h : sM G m) (hl : rlin J m L) (hN : 400 ≤ N) (hx : x.toInt = (k : Int)) (hk : L[k]? = some D) : ∃ J', pX7_takeOut_0 N m (mm_w G J) x = some (mm_w G J', ()) ∧ rlin J' m (L.eraseIdx k) ∧ rnow J' m D ∧ ∀ z j, z ≠ m + 21 → z ≠ m + 22 → (z ≠ m ∨ j ≠ 24) → J' z j = J z j := by
  obtain ⟨l1, l2, l3⟩ := hl
  have hkl := (List.getElem?_eq_some_iff.mp hk).1
  obtain ⟨J1, e1, e2, e3⟩ := r_out_c (N := N) (kx := fun (G : mm_M) (x1 : Int32) => q_gI G m 8 24 fun v33_6 => q_pI G m 8 24 (v33_6 - (1 : Int32)) fun G => pX7_takeOut_46 N m (fun (G : mm_M) => some (G, ())) N G ((12 : Int32) * x1)) h hx (by omega) 12 N 0 0 J zi_0 (by omega) (by omega)
  have hd : (J m 24 - 1).toInt = ((L.length - 1 : Nat) : Int) := zi_dec (by rw [l1]; omega) (by omega)
  have hJ2 : (js J1 m 24 (J m 24 - 1) m 24).toInt = ((L.length - 1 : Nat) : Int) := by rw [js_same]; exact hd
  have hs := r_out_s (N := N) (J := js J1 m 24 (J m 24 - 1)) (k := k) (kx := fun (G : mm_M) => some (G, ())) h hJ2 (by omega) (12 * (L.length - 1) - 12 * k) N (12 * k) (12 * x) (zi_k12 hx (by omega)) (by omega) (by omega) (by omega)
  have h0 : shL (js J1 m 24 (J m 24 - 1)) m (12 * k) (12 * k) = js J1 m 24 (J m 24 - 1) := by
    funext y j
    unfold shL
    rw [if_neg (by omega)]
  rw [h0] at hs
  refine ⟨shL (js J1 m 24 (J m 24 - 1)) m (12 * k) (12 * (L.length - 1)), ?_, ⟨?_, ?_, fun i E hE c hc => ?_⟩, fun c hc => ?_, fun z j z1 z2 z3 => ?_⟩
  · unfold pX7_takeOut_0
    rw [e1, w_gI h.1, e3 m 24 (Or.inl (by omega)), w_pI h.1]
    exact hs
  · have : shL (js J1 m 24 (J m 24 - 1)) m (12 * k) (12 * (L.length - 1)) m 24 = js J1 m 24 (J m 24 - 1) m 24 := if_neg (by omega)
    rw [this, hJ2, List.length_eraseIdx_of_lt hkl]
  · rw [List.length_eraseIdx_of_lt hkl]; omega
  · have hil := (List.getElem?_eq_some_iff.mp hE).1
    rw [List.length_eraseIdx_of_lt hkl] at hil
    rw [List.getElem?_eraseIdx] at hE
    unfold shL
    by_cases hik : i < k
    · rw [if_pos hik] at hE
      rw [if_neg (by omega), js_ne _ (Or.inl (by omega)), e3 _ _ (Or.inl (by omega))]
      exact l3 i E hE c hc
    · rw [if_neg hik] at hE
      rw [if_pos ⟨rfl, by omega, by omega⟩, js_ne _ (Or.inl (by omega)), e3 _ _ (Or.inl (by omega)), show 12 * i + c + 12 = 12 * (i + 1) + c by omega]
      exact l3 (i + 1) E hE c hc
  · have : shL (js J1 m 24 (J m 24 - 1)) m (12 * k) (12 * (L.length - 1)) (m + 22) c = J1 (m + 22) c := by
      unfold shL
      rw [if_neg (by omega), js_ne _ (Or.inl (by omega))]
    rw [this, e2 c (by omega) hc]
    exact l3 k D hk c hc
  · unfold shL
    rw [if_neg (fun e => z1 e.1), js_ne _ (by omega), e3 _ _ (Or.inl z2)]
theorem r_inline {J : Nat → Nat → Int32} {L : List Dg} {x : Int32} (h : sM G m) (hl : rlin J m L) : pX7_inLine_0 N m (mm_w G J) x = some (mm_w G J, if 0 ≤ x.toInt ∧ x.toInt < L.length then 1 else 0) := by
  unfold pX7_inLine_0
  by_cases h0 : x.toInt < 0
  · rw [if_pos (by rw [zi_lt, zi_0]; exact h0), if_neg (by omega)]
  · rw [if_neg (by rw [zi_lt, zi_0]; exact h0), w_gI h.1]
    by_cases h1 : x.toInt < L.length
    · rw [if_neg (by rw [zi_le, hl.1]; omega), if_pos (by omega)]
    · rw [if_pos (by rw [zi_le, hl.1]; omega), if_neg (by omega)]
end RLINE
