/-! the line: the object at q, its cells at q + 1; a row of twelve cells stands elsewhere -/
def jc (J : Nat → Nat → Int32) (a b s d m : Nat) : Nat → Nat → Int32 := fun x j => if x = b then va_cpy (J a) (J b) s d m j else J x j
theorem jc_ne {J : Nat → Nat → Int32} {a b s d m x : Nat} (j : Nat) (h : x ≠ b) : jc J a b s d m x j = J x j := if_neg h
theorem jc_in {J : Nat → Nat → Int32} {a b s d m : Nat} (i : Nat) (h : i < m) : jc J a b s d m b (d + i) = J a (s + i) := by
  unfold jc va_cpy
  rw [if_pos rfl, if_pos (by omega), show s + (d + i - d) = s + i by omega]
theorem jc_out {J : Nat → Nat → Int32} {a b s d m j : Nat} (h : j < d ∨ d + m ≤ j) : jc J a b s d m b j = J b j := by
  unfold jc va_cpy
  rw [if_pos rfl, if_neg (by omega)]
theorem w_cpy {α : Type} {G : mm_M} {J : Nat → Nat → Int32} {a b s d m : Nat} {x y z : Int32} {f : mm_M → Option α} (ha : mm_K G a = 101) (hb : mm_K G b = 101) (hx : x.toInt = (s : Int)) (hy : y.toInt = (d : Int)) (hz : z.toInt = (m : Int)) (h1 : s + m ≤ mm_ln G a) (h2 : d + m ≤ mm_ln G b) : q_cpy (mm_w G J) a x b y z f = f (mm_w G (jc J a b s d m)) := by
  unfold q_cpy
  rw [if_pos ⟨⟨ha, hb⟩, ⟨by omega, by omega, by omega⟩, by rw [mm_ln_w, hx, hz]; exact_mod_cast h1, by rw [mm_ln_w, hy, hz]; exact_mod_cast h2⟩, hx, hy, hz]
  rfl
def sN (G : mm_M) (q : Nat) : Prop := mm_K G q = 3 ∧ mm_R G q 0 = some (q + 1) ∧ mm_K G (q + 1) = 101 ∧ mm_ln G (q + 1) = 288
def sW (G : mm_M) (r : Nat) : Prop := mm_K G r = 101 ∧ mm_ln G r = 12
abbrev Dg : Type := Nat → Int
def rw12 (J : Nat → Nat → Int32) (r : Nat) (D : Dg) : Prop := ∀ c, c < 12 → (J r c).toInt = D c
def lin (J : Nat → Nat → Int32) (q : Nat) (L : List Dg) : Prop := (J q 1).toInt = (L.length : Int) ∧ ∀ (k : Nat) (D : Dg), L[k]? = some D → ∀ c, c < 12 → (J (q + 1) (12 * k + c)).toInt = D c
def frN (J J' : Nat → Nat → Int32) (q : Nat) : Prop := ∀ b j, b ≠ q → b ≠ q + 1 → J' b j = J b j
def ladd (L : List Dg) (D : Dg) : List Dg := if L.length < 24 then L ++ [D] else L
theorem zi_m12 {x : Int32} {k : Nat} (h : x.toInt = (k : Int)) (hk : k < 100000) : (x * 12).toInt = ((12 * k : Nat) : Int) := by
  rw [zi_mul h zi_12 (by omega) (by omega)]; omega
theorem e_addrow {G : mm_M} {J : Nat → Nat → Int32} {q r N : Nat} {L : List Dg} {D : Dg} (h : sN G q) (hr : sW G r) (hne : r ≠ q ∧ r ≠ q + 1) (hl : lin J q L) (h24 : L.length ≤ 24) (hd : rw12 J r D) : ∃ J', pX2_addOrLose_0 N q (mm_w G J) (some r) = some (mm_w G J', ()) ∧ lin J' q (ladd L D) ∧ frN J J' q := by
  obtain ⟨h0, h1, h2, h3⟩ := h
  unfold pX2_addOrLose_0 ladd
  rw [w_gI h0]
  by_cases hf : L.length < 24
  · rw [if_neg (by rw [zi_le, zi_24, hl.1]; omega), if_pos hf]
    refine ⟨js (jc J r (q + 1) 0 (12 * L.length) 12) q 1 (J q 1 + 1), ?_, ⟨?_, ?_⟩, ?_⟩
    · rw [w_gR h0, h1, w_gI h0, w_nn, w_nn, w_cpy (s := 0) (d := 12 * L.length) (m := 12) hr.1 h2 zi_0 (zi_m12 hl.1 (by omega)) zi_12 (by rw [hr.2]; omega) (by rw [h3]; omega), w_gI h0, w_pI h0, jc_ne _ (by omega)]
    · rw [js_same, zi_inc hl.1 (by omega)]; simp
    · intro k E hE c hc
      rw [js_ne _ (Or.inl (by omega))]
      by_cases hk : k < L.length
      · rw [List.getElem?_append_left hk] at hE
        rw [jc_out (by omega)]
        exact hl.2 k E hE c hc
      · have hk2 : k = L.length := by have := (List.getElem?_eq_some_iff.mp hE).1; simp at this; omega
        subst hk2
        simp at hE
        subst hE
        rw [jc_in c hc, Nat.zero_add]
        exact hd c hc
    · intro b j g0 g1
      rw [js_ne _ (Or.inl g0), jc_ne _ g1]
  · rw [if_pos (by rw [zi_le, zi_24, hl.1]; omega), if_neg hf]
    exact ⟨J, rfl, hl, fun _ _ _ _ => rfl⟩
theorem e_has {G : mm_M} {J : Nat → Nat → Int32} {q N : Nat} {L : List Dg} {x : Int32} (h : sN G q) (hl : lin J q L) : pX2_has_0 N q (mm_w G J) x = some (mm_w G J, if 0 ≤ x.toInt ∧ x.toInt < L.length then 1 else 0) := by
  unfold pX2_has_0
  by_cases h0 : x.toInt < 0
  · rw [if_pos (by rw [zi_lt, zi_0]; exact h0), if_neg (by omega)]
  · rw [if_neg (by rw [zi_lt, zi_0]; exact h0), w_gI h.1]
    by_cases h1 : (L.length : Int) ≤ x.toInt
    · rw [if_pos (by rw [zi_le, hl.1]; exact h1), if_neg (by omega)]
    · rw [if_neg (by rw [zi_le, hl.1]; exact h1), if_pos (by omega)]
theorem e_lcell {G : mm_M} {J : Nat → Nat → Int32} {q N k c : Nat} {L : List Dg} {D : Dg} {x y : Int32} (h : sN G q) (hl : lin J q L) (h24 : L.length ≤ 24) (hx : x.toInt = (k : Int)) (hy : y.toInt = (c : Int)) (hk : L[k]? = some D) (hc : c < 12) : ∃ v : Int32, pX2_cell_0 N q (mm_w G J) x y = some (mm_w G J, v) ∧ v.toInt = D c := by
  have hlt : k < L.length := (List.getElem?_eq_some_iff.mp hk).1
  refine ⟨_, ?_, hl.2 k D hk c hc⟩
  unfold pX2_cell_0
  have e : (x * 12 + y).toInt = ((12 * k + c : Nat) : Int) := by
    rw [zi_add (zi_m12 hx (by omega)) hy (by omega) (by omega)]; omega
  rw [w_gR h.1, h.2.1, w_nn, w_aI h.2.2.1 e (by rw [h.2.2.2]; omega)]
theorem e_copyout {G : mm_M} {J : Nat → Nat → Int32} {q r N k : Nat} {L : List Dg} {D : Dg} {x : Int32} (h : sN G q) (hr : sW G r) (hl : lin J q L) (h24 : L.length ≤ 24) (hx : x.toInt = (k : Int)) (hk : L[k]? = some D) : ∃ J', pX2_copyOut_0 N q (mm_w G J) x (some r) = some (mm_w G J', ()) ∧ rw12 J' r D ∧ ∀ b j, b ≠ r → J' b j = J b j := by
  have hlt : k < L.length := (List.getElem?_eq_some_iff.mp hk).1
  refine ⟨jc J (q + 1) r (12 * k) 0 12, ?_, ?_, fun b j hb => jc_ne j hb⟩
  · unfold pX2_copyOut_0
    rw [w_gR h.1, w_nn, h.2.1, w_nn, w_cpy (s := 12 * k) (d := 0) (m := 12) h.2.2.1 hr.1 (zi_m12 hx (by omega)) zi_0 zi_12 (by rw [h.2.2.2]; omega) (by rw [hr.2]; omega)]
  · intro c hc
    have := jc_in (J := J) (a := q + 1) (b := r) (s := 12 * k) (d := 0) c hc
    rw [Nat.zero_add] at this
    rw [this]
    exact hl.2 k D hk c hc
theorem e_lremove {G : mm_M} {J : Nat → Nat → Int32} {q N k : Nat} {L : List Dg} {x : Int32} (h : sN G q) (hl : lin J q L) (h24 : L.length ≤ 24) (hx : x.toInt = (k : Int)) (hk : k < L.length) : ∃ J', pX2_remove_0 N q (mm_w G J) x = some (mm_w G J', ()) ∧ lin J' q (L.eraseIdx k) ∧ frN J J' q := by
  refine ⟨js (jc J (q + 1) (q + 1) (12 * (k + 1)) (12 * k) (12 * (L.length - 1 - k))) q 1 (J q 1 - 1), ?_, ⟨?_, ?_⟩, ?_⟩
  · unfold pX2_remove_0
    have e1 : ((J q 1 - 1) - x).toInt = ((L.length - 1 - k : Nat) : Int) := by
      rw [zi_sub (zi_sub hl.1 zi_1 (by omega) (by omega)) hx (by omega) (by omega)]; omega
    rw [w_gI h.1, w_gR h.1, w_gR h.1, h.2.1, w_nn, w_nn, w_cpy h.2.2.1 h.2.2.1 (zi_m12 (zi_inc hx (by omega)) (by omega)) (zi_m12 hx (by omega)) (zi_m12 e1 (by omega)) (by rw [h.2.2.2]; omega) (by rw [h.2.2.2]; omega), w_gI h.1, w_pI h.1, jc_ne _ (by omega)]
  · rw [js_same, zi_sub hl.1 zi_1 (by omega) (by omega), List.length_eraseIdx, if_pos hk]; omega
  · intro i D hD c hc
    have hi : i < (L.eraseIdx k).length := (List.getElem?_eq_some_iff.mp hD).1
    rw [List.length_eraseIdx, if_pos hk] at hi
    rw [List.getElem?_eraseIdx] at hD
    rw [js_ne _ (Or.inl (by omega))]
    by_cases hik : i < k
    · rw [if_pos hik] at hD
      rw [jc_out (by omega)]
      exact hl.2 i D hD c hc
    · rw [if_neg hik] at hD
      have := jc_in (J := J) (a := q + 1) (b := q + 1) (s := 12 * (k + 1)) (d := 12 * k) (m := 12 * (L.length - 1 - k)) (12 * (i - k) + c) (by omega)
      rw [show 12 * k + (12 * (i - k) + c) = 12 * i + c by omega, show 12 * (k + 1) + (12 * (i - k) + c) = 12 * (i + 1) + c by omega] at this
      rw [this]
      exact hl.2 (i + 1) D hD c hc
  · intro b j g0 g1
    rw [js_ne _ (Or.inl g0), jc_ne _ g1]
/-! a row is filled -/
theorem e_fill_l {G : mm_M} {J0 : Nat → Nat → Int32} {r N : Nat} {v w : Int32} {kx : mm_M → Option (mm_M × Unit)} (hr : sW G r) (hw : w.toInt = 12) : ∀ (m n i : Nat) (y : Int32) (J : Nat → Nat → Int32), y.toInt = (i : Int) → i + m = 12 → m < n → (∀ c, c < i → J r c = v) → (∀ b j, b ≠ r → J b j = J0 b j) → ∃ J', pJ7_fill_5 N kx n (mm_w G J) (some r) v y w = kx (mm_w G J') ∧ (∀ c, c < 12 → J' r c = v) ∧ ∀ b j, b ≠ r → J' b j = J0 b j := by
  intro m
  induction m with
  | zero =>
    intro n i y J hy hi hn hv hf
    obtain ⟨n, rfl⟩ : ∃ m, n = m + 1 := ⟨n - 1, by omega⟩
    refine ⟨J, ?_, fun c hc => hv c (by omega), hf⟩
    show pJ7_fill_5_b N _ kx _ _ v y w = _
    unfold pJ7_fill_5_b
    rw [if_pos (by rw [zi_le, hw, hy]; omega)]
  | succ m ih =>
    intro n i y J hy hi hn hv hf
    obtain ⟨n, rfl⟩ : ∃ m, n = m + 1 := ⟨n - 1, by omega⟩
    have hunf : pJ7_fill_5 N kx (n + 1) (mm_w G J) (some r) v y w = pJ7_fill_5 N kx n (mm_w G (js J r i v)) (some r) v (y + 1) w := by
      show pJ7_fill_5_b N _ kx _ _ v y w = _
      unfold pJ7_fill_5_b
      rw [if_neg (by rw [zi_le, hw, hy]; omega), w_nn, w_sI hr.1 hy (by rw [hr.2]; omega)]
    rw [hunf]
    refine ih n (i + 1) (y + 1) _ (zi_inc hy (by omega)) (by omega) (by omega) (fun c hc => ?_) (fun b j hb => ?_)
    · by_cases hci : c = i
      · subst hci; rw [js_same]
      · rw [js_ne _ (Or.inr hci)]; exact hv c (by omega)
    · rw [js_ne _ (Or.inl hb)]; exact hf b j hb
theorem e_fill {G : mm_M} {J : Nat → Nat → Int32} {r N : Nat} {v : Int32} (hr : sW G r) (hN : 400 ≤ N) : ∃ J', pJ7_fill_0 N (mm_w G J) (some r) v = some (mm_w G J', ()) ∧ (∀ c, c < 12 → J' r c = v) ∧ ∀ b j, b ≠ r → J' b j = J b j := by
  unfold pJ7_fill_0
  have e : q_len (mm_w G J) r 101 (fun v3_2 => pJ7_fill_5 N (fun (G : mm_M) => some (G, ())) N (mm_w G J) (some r) v (0 : Int32) v3_2) = pJ7_fill_5 N (fun (G : mm_M) => some (G, ())) N (mm_w G J) (some r) v (0 : Int32) (Int32.ofNat 12) := by
    unfold q_len
    rw [if_pos (show mm_K (mm_w G J) r = 101 from hr.1), mm_ln_w, hr.2]
  rw [w_nn, e]
  exact e_fill_l (J0 := J) hr (show (Int32.ofNat 12).toInt = 12 from zi_ofNat (n := 12) (by omega)) 12 N 0 0 J zi_0 (by omega) (by omega) (fun c hc => by omega) (fun b j _ => rfl)
