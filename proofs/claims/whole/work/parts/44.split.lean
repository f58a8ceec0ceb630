theorem zi_dec {x : Int32} {i : Nat} (h : x.toInt = ((i + 1 : Nat) : Int)) (hi : i < 1000000) : (x - 1).toInt = (i : Int) := by
  rw [zi_sub h zi_1 (by omega) (by omega)]; omega
theorem zi_dec2 {x : Int32} {i : Nat} (h : x.toInt = ((i + 1 : Nat) : Int)) (hi : i < 1000000) : (x + (-1 : Int32)).toInt = (i : Int) := by
  rw [zi_add h zi_m1 (by omega) (by omega)]; omega
theorem sB_rw {G : mm_M} {a p : Nat} {g : Nat → Option Nat} (h : sB G p) (hp : p ≠ a) : sB (mm_rw G a g) p := by
  obtain ⟨h0, h1, h2, h3⟩ := h
  exact ⟨h0, by rw [mm_rw_ne _ _ _ hp]; exact h1, by rw [mm_rw_ne _ _ _ hp]; exact h2, h3⟩
def sgf (G : mm_M) (q c i : Nat) : Nat → Option Nat := fun m => if i < m ∧ m ≤ c then mm_R G (q + 1) (m - 1) else mm_R G (q + 1) m
theorem e_split_l {G : mm_M} {J : Nat → Nat → Int32} {q k c N : Nat} {w : Nat → Nat} {x : Int32} {v : Option Nat} {kx : mm_M → Int32 → Option Nat → Option (mm_M × Unit)} (h : sT G q w) (hc : c < 9) (hx : x.toInt = (k : Int)) : ∀ (r n : Nat) (y : Int32), y.toInt = ((k + 1 + r : Nat) : Int) → k + 1 + r ≤ c → r < n → pX5_split_15 N q kx n (mm_w (mm_rw G (q + 1) (sgf G q c (k + 1 + r))) J) x v y = kx (mm_w (mm_rw G (q + 1) (sgf G q c (k + 1))) J) x v := by
  intro r
  induction r with
  | zero =>
    intro n y hy hi hn
    obtain ⟨n, rfl⟩ : ∃ m, n = m + 1 := ⟨n - 1, by omega⟩
    show pX5_split_15_b N q _ kx _ x v y = _
    unfold pX5_split_15_b
    rw [if_pos (by rw [zi_le, zi_inc hx (by omega), hy]; omega)]
  | succ r ih =>
    intro n y hy hi hn
    obtain ⟨n, rfl⟩ : ∃ m, n = m + 1 := ⟨n - 1, by omega⟩
    show pX5_split_15_b N q _ kx _ x v y = _
    unfold pX5_split_15_b
    have hy1 : (y - 1).toInt = ((k + 1 + r : Nat) : Int) := zi_dec (by rw [hy]; rfl) (by omega)
    have hy2 : (y + (-1 : Int32)).toInt = ((k + 1 + r : Nat) : Int) := zi_dec2 (by rw [hy]; rfl) (by omega)
    have hK : mm_K (mm_rw G (q + 1) (sgf G q c (k + 1 + (r + 1)))) q = 6 := h.1
    have hK1 : mm_K (mm_rw G (q + 1) (sgf G q c (k + 1 + (r + 1)))) (q + 1) = 104 := h.2.2.1.1
    have hln : mm_ln (mm_rw G (q + 1) (sgf G q c (k + 1 + (r + 1)))) (q + 1) = 9 := h.2.2.1.2
    have hrow := h.row (k := k + 1 + r) (by omega)
    have eg : sgf G q c (k + 1 + (r + 1)) (k + 1 + r) = some (q + 2 + 3 * w (k + 1 + r)) := by
      unfold sgf
      rw [if_neg (by omega)]
      exact hrow.1
    rw [if_neg (by rw [zi_le, zi_inc hx (by omega), hy]; omega), w_gR hK, w_gR hK, mm_rw_ne _ _ _ (by omega), h.2.1, w_nn, w_aR hK1 hy1 (by rw [hln]; omega), mm_rw_at, eg, w_nn, w_sR h.2.2.1.1 hy (by rw [h.2.2.1.2]; omega) (fun b hb => by cases hb; exact hrow.2.1.1)]
    have e2 : (fun m => if m = k + 1 + (r + 1) then some (q + 2 + 3 * w (k + 1 + r)) else sgf G q c (k + 1 + (r + 1)) m) = sgf G q c (k + 1 + r) := by
      funext m
      unfold sgf
      by_cases hm : m = k + 1 + (r + 1)
      · rw [if_pos hm, if_pos (by omega), hm]
        exact hrow.1.symm
      · rw [if_neg hm]
        by_cases hm2 : k + 1 + (r + 1) < m ∧ m ≤ c
        · rw [if_pos hm2, if_pos (by omega)]
        · rw [if_neg hm2, if_neg (by omega)]
    rw [e2]
    exact ih n _ hy2 (by omega) (by omega)
def wsp (w : Nat → Nat) (k c : Nat) : Nat → Nat := fun m => if m = k + 1 then w c else if k + 1 < m ∧ m ≤ c then w (m - 1) else w m
def bsp (bs : List Bk) (k : Nat) (b : Bk) : List Bk := bs.take k ++ ((b.1, b.2.1 / 2, b.2.2.1, b.2.2.2.filter (fun c => decide (c.1 < b.1 + b.2.1 / 2))) :: (b.1 + b.2.1 / 2, b.2.1 / 2, b.2.2.1, b.2.2.2.filter (fun c => !decide (c.1 < b.1 + b.2.1 / 2))) :: bs.drop (k + 1))
theorem bsp_len {bs : List Bk} {k : Nat} {b : Bk} (h : k < bs.length) : (bsp bs k b).length = bs.length + 1 := by
  unfold bsp
  simp
  omega
theorem bsp_lo {bs : List Bk} {k m : Nat} {b : Bk} (h : k < bs.length) (hm : m < k) : (bsp bs k b)[m]? = bs[m]? := by
  unfold bsp
  rw [List.getElem?_append_left (by simp; omega), List.getElem?_take, if_pos hm]
theorem bsp_k {bs : List Bk} {k : Nat} {b : Bk} (h : k < bs.length) : (bsp bs k b)[k]? = some (b.1, b.2.1 / 2, b.2.2.1, b.2.2.2.filter (fun c => decide (c.1 < b.1 + b.2.1 / 2))) := by
  unfold bsp
  rw [List.getElem?_append_right (by simp; omega)]
  simp [Nat.min_eq_left (Nat.le_of_lt h)]
theorem bsp_k1 {bs : List Bk} {k : Nat} {b : Bk} (h : k < bs.length) : (bsp bs k b)[k + 1]? = some (b.1 + b.2.1 / 2, b.2.1 / 2, b.2.2.1, b.2.2.2.filter (fun c => !decide (c.1 < b.1 + b.2.1 / 2))) := by
  unfold bsp
  rw [List.getElem?_append_right (by simp; omega)]
  simp [Nat.min_eq_left (Nat.le_of_lt h)]
theorem bsp_hi {bs : List Bk} {k m : Nat} {b : Bk} (h : k < bs.length) (hm : k + 1 < m) : (bsp bs k b)[m]? = bs[m - 1]? := by
  unfold bsp
  rw [List.getElem?_append_right (by simp; omega)]
  simp only [List.length_take, Nat.min_eq_left (Nat.le_of_lt h)]
  rw [show m - k = (m - k - 2) + 1 + 1 by omega, List.getElem?_cons_succ, List.getElem?_cons_succ, List.getElem?_drop]
  congr 1
  omega
theorem e_split {G : mm_M} {J : Nat → Nat → Int32} {q o k N : Nat} {w : Nat → Nat} {bs : List Bk} {x : Int32} {b : Bk} (h : sT G q w) (ht : tv J q w o bs) (h9 : bs.length < 9) (hN : 400 ≤ N) (hx : x.toInt = (k : Int)) (hb : bs[k]? = some b) (hl : b.2.2.2.length ≤ 3) (hz : b.1 + b.2.1 < 1000000) : ∃ g J', pX5_split_0 N q (mm_w G J) x = some (mm_w (mm_rw G (q + 1) g) J', ()) ∧ sT (mm_rw G (q + 1) g) q (wsp w k bs.length) ∧ tv J' q (wsp w k bs.length) o (bsp bs k b) ∧ frT J J' q := by
  have hk : k < bs.length := (List.getElem?_eq_some_iff.mp hb).1
  have hrk := h.row (k := k) (by omega)
  have hrc := h.row (k := bs.length) (by omega)
  have hne : w k ≠ w bs.length := fun e => by have := h.2.2.2.2.1 k bs.length (by omega) (by omega) e; omega
  have hj1 : (js J q 2 (J q 2 + 1)) = js J q 2 (J q 2 + 1) := rfl
  have hbk := ht.2.2 k b hb
  have hbk1 : bk (js J q 2 (J q 2 + 1)) (q + 2 + 3 * w k) b.1 b.2.1 b.2.2.1 b.2.2.2 := bk_congr hbk (fun j => js_ne _ (Or.inl (by omega))) (fun j => js_ne _ (Or.inl (by omega))) (fun j => js_ne _ (Or.inl (by omega)))
  have hsg : sT (mm_rw G (q + 1) (fun m => if m = k + 1 then some (q + 2 + 3 * w bs.length) else sgf G q bs.length (k + 1) m)) q (wsp w k bs.length) := by
    refine ⟨h.1, by rw [mm_rw_ne _ _ _ (by omega)]; exact h.2.1, h.2.2.1, fun m hm => ?_, fun i j hi hj hij => ?_, fun m hm => sB_rw (h.2.2.2.2.2 m hm) (by omega)⟩
    · rw [mm_rw_at]
      unfold wsp sgf
      by_cases h1 : m = k + 1
      · rw [if_pos h1, if_pos h1]; exact ⟨rfl, hrc.2.2⟩
      · rw [if_neg h1, if_neg h1]
        by_cases h2 : k + 1 < m ∧ m ≤ bs.length
        · rw [if_pos h2, if_pos h2]; exact h.2.2.2.1 (m - 1) (by omega)
        · rw [if_neg h2, if_neg h2]; exact h.2.2.2.1 m hm
    · have inj := h.2.2.2.2.1
      unfold wsp at hij
      by_cases i1 : i = k + 1
      · rw [if_pos i1] at hij
        by_cases j1 : j = k + 1
        · omega
        · rw [if_neg j1] at hij
          by_cases j2 : k + 1 < j ∧ j ≤ bs.length
          · rw [if_pos j2] at hij; have := inj _ _ (by omega) (by omega) hij; omega
          · rw [if_neg j2] at hij; have := inj _ _ (by omega) (by omega) hij; omega
      · rw [if_neg i1] at hij
        by_cases i2 : k + 1 < i ∧ i ≤ bs.length
        · rw [if_pos i2] at hij
          by_cases j1 : j = k + 1
          · rw [if_pos j1] at hij; have := inj _ _ (by omega) (by omega) hij; omega
          · rw [if_neg j1] at hij
            by_cases j2 : k + 1 < j ∧ j ≤ bs.length
            · rw [if_pos j2] at hij; have := inj _ _ (by omega) (by omega) hij; omega
            · rw [if_neg j2] at hij; have := inj _ _ (by omega) (by omega) hij; omega
        · rw [if_neg i2] at hij
          by_cases j1 : j = k + 1
          · rw [if_pos j1] at hij; have := inj _ _ (by omega) (by omega) hij; omega
          · rw [if_neg j1] at hij
            by_cases j2 : k + 1 < j ∧ j ≤ bs.length
            · rw [if_pos j2] at hij; have := inj _ _ (by omega) (by omega) hij; omega
            · rw [if_neg j2] at hij; exact inj _ _ hi hj hij
  obtain ⟨J2, e1, e2, e3, e4⟩ := e_half (N := N) (hsg.2.2.2.2.2 (w k) hrk.2.2) (hsg.2.2.2.2.2 (w bs.length) hrc.2.2) (by omega) hbk1 hl hN hz
  refine ⟨_, J2, ?_, hsg, ⟨?_, ?_, ?_⟩, ?_⟩
  · unfold pX5_split_0
    have hend := e_split_l (N := N) (v := some (q + 2 + 3 * w bs.length)) (J := J) h h9 hx (bs.length - (k + 1)) N (J q 2) (by rw [ht.2.1, show k + 1 + (bs.length - (k + 1)) = bs.length by omega]) (by omega) (by omega)
      (kx := fun (G : mm_M) (x1 : Int32) (x2 : Option Nat) =>
        q_gR G q 6 1 fun r43_11 =>
        q_nn r43_11 fun b50_12 =>
        q_sR G b50_12 104 1 (x1 + (1 : Int32)) x2 fun G =>
        q_gI G q 6 2 fun v53_13 =>
        q_pI G q 6 2 (v53_13 + (1 : Int32)) fun G =>
        q_gR G q 6 1 fun r62_14 =>
        q_nn r62_14 fun b66_15 =>
        q_aR G b66_15 104 x1 fun r66_16 =>
        q_nn r66_16 fun b68_17 =>
        q_is G b68_17 1 <|
        q_cl (pX0_moveUpperHalf_0 N b68_17 G x2) fun G _ =>
        some (G, ()))
    have e0 : mm_rw G (q + 1) (sgf G q bs.length (k + 1 + (bs.length - (k + 1)))) = G := by
      have : sgf G q bs.length (k + 1 + (bs.length - (k + 1))) = mm_R G (q + 1) := by
        funext m
        unfold sgf
        rw [if_neg (by omega)]
      rw [this, mm_rw_self]
    rw [e0] at hend
    rw [w_gR h.1, w_gI h.1, h.2.1, w_nn, w_aR h.2.2.1.1 ht.2.1 (by rw [h.2.2.1.2]; omega), hrc.1, w_gI h.1, hend]
    have hK : ∀ g, mm_K (mm_rw G (q + 1) g) q = 6 := fun _ => h.1
    have hK1 : ∀ g, mm_K (mm_rw G (q + 1) g) (q + 1) = 104 := fun _ => h.2.2.1.1
    have hln : ∀ g, mm_ln (mm_rw G (q + 1) g) (q + 1) = 9 := fun _ => h.2.2.1.2
    rw [w_gR (hK _), mm_rw_ne _ _ _ (by omega), h.2.1, w_nn, w_sR h.2.2.1.1 (zi_inc hx (by omega)) (by rw [h.2.2.1.2]; omega) (fun b hb => by cases hb; exact hrc.2.1.1), w_gI (hK _), w_pI (hK _), w_gR (hK _), mm_rw_ne _ _ _ (by omega), h.2.1, w_nn, w_aR (hK1 _) hx (by rw [hln]; omega), mm_rw_at, if_neg (by omega)]
    have eg : sgf G q bs.length (k + 1) k = some (q + 2 + 3 * w k) := by unfold sgf; rw [if_neg (by omega)]; exact hrk.1
    rw [eg, w_nn, w_is (show mm_K (mm_rw G (q + 1) _) (q + 2 + 3 * w k) = 1 from hrk.2.1.1), e1, w_cl]
  · rw [e4 _ _ (by omega) (by omega) (by omega) (by omega) (by omega) (by omega), js_ne _ (Or.inr (by omega))]; exact ht.1
  · rw [e4 _ _ (by omega) (by omega) (by omega) (by omega) (by omega) (by omega), js_same, zi_inc ht.2.1 (by omega), bsp_len hk]
  · intro m c hc
    have hm : m < bs.length + 1 := by have := (List.getElem?_eq_some_iff.mp hc).1; rw [bsp_len hk] at this; exact this
    have other : ∀ i, i < bs.length → i ≠ k → ∀ c, bs[i]? = some c → bk J2 (q + 2 + 3 * w i) c.1 c.2.1 c.2.2.1 c.2.2.2 := by
      intro i hi hik c hc
      have hri := h.row (k := i) (by omega)
      have n1 : w i ≠ w k := fun e => hik (h.2.2.2.2.1 i k (by omega) (by omega) e)
      have n2 : w i ≠ w bs.length := fun e => by have := h.2.2.2.2.1 i bs.length (by omega) (by omega) e; omega
      have z : ∀ d, d ≤ 2 → ∀ j, J2 (q + 2 + 3 * w i + d) j = J (q + 2 + 3 * w i + d) j := fun d hd j => by
        rw [e4 _ _ (by omega) (by omega) (by omega) (by omega) (by omega) (by omega), js_ne _ (Or.inl (by omega))]
      exact bk_congr (ht.2.2 i c hc) (z 0 (by omega)) (z 1 (by omega)) (z 2 (by omega))
    unfold wsp
    by_cases m1 : m = k + 1
    · rw [if_pos m1]
      subst m1
      rw [bsp_k1 hk] at hc
      cases hc
      exact e3
    · rw [if_neg m1]
      by_cases m2 : k + 1 < m ∧ m ≤ bs.length
      · rw [if_pos m2]
        rw [bsp_hi hk m2.1] at hc
        exact other (m - 1) (by omega) (by omega) c hc
      · rw [if_neg m2]
        by_cases m3 : m = k
        · subst m3
          rw [bsp_k hk] at hc
          cases hc
          exact e2
        · rw [bsp_lo hk (by omega)] at hc
          exact other m (by omega) m3 c hc
  · intro b j hbj
    rw [e4 _ _ (by omega) (by omega) (by omega) (by omega) (by omega) (by omega), js_ne _ (Or.inl (by omega))]
