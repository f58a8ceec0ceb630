/-! references of one array are written -/
def mm_rw (G : mm_M) (a : Nat) (g : Nat → Option Nat) : mm_M := (G.1, G.2.1, G.2.2.1, G.2.2.2.1, G.2.2.2.2.1, (fun b k => if b = a then g k else mm_R G b k))
theorem mm_rw_self (G : mm_M) (a : Nat) : mm_rw G a (mm_R G a) = G := by
  have : (fun b k => if b = a then mm_R G a k else mm_R G b k) = mm_R G := by
    funext b k
    by_cases h : b = a
    · rw [if_pos h, h]
    · rw [if_neg h]
  unfold mm_rw
  rw [this]
  rfl
theorem mm_rw_at (G : mm_M) (a k : Nat) (g : Nat → Option Nat) : mm_R (mm_rw G a g) a k = g k := by simp [mm_R, mm_rw]
theorem mm_rw_ne (G : mm_M) {a b : Nat} (k : Nat) (g : Nat → Option Nat) (h : b ≠ a) : mm_R (mm_rw G a g) b k = mm_R G b k := by simp [mm_R, mm_rw, h]
theorem mm_rw_sR (G : mm_M) (a i : Nat) (g : Nat → Option Nat) (v : Option Nat) : mm_sR (mm_rw G a g) a i v = mm_rw G a (fun k => if k = i then v else g k) := by
  have : (fun b j => if b = a ∧ j = i then v else mm_R (mm_rw G a g) b j) = (fun b k => if b = a then (if k = i then v else g k) else mm_R G b k) := by
    funext b k
    by_cases h : b = a
    · subst h
      rw [if_pos rfl, mm_rw_at]
      by_cases hk : k = i
      · rw [if_pos ⟨rfl, hk⟩, if_pos hk]
      · rw [if_neg (by omega), if_neg hk]
    · rw [if_neg (by omega), if_neg h, mm_rw_ne _ _ _ h]
  unfold mm_sR
  rw [this]
  rfl
theorem mm_rw_rw (G : mm_M) (a : Nat) (g g' : Nat → Option Nat) : mm_rw (mm_rw G a g) a g' = mm_rw G a g' := by
  have : (fun b k => if b = a then g' k else mm_R (mm_rw G a g) b k) = (fun b k => if b = a then g' k else mm_R G b k) := by
    funext b k
    by_cases h : b = a
    · rw [if_pos h, if_pos h]
    · rw [if_neg h, if_neg h, mm_rw_ne _ _ _ h]
  unfold mm_rw at this ⊢
  rw [this]
theorem w_sR {α : Type} {G : mm_M} {J : Nat → Nat → Int32} {a kd ke i : Nat} {x : Int32} {v : Option Nat} {g : Nat → Option Nat} {f : mm_M → Option α} (h : mm_K G a = kd) (hx : x.toInt = (i : Int)) (hi : i < mm_ln G a) (hv : ∀ b, v = some b → mm_K G b = ke) : q_sR (mm_w (mm_rw G a g) J) a kd ke x v f = f (mm_w (mm_rw G a (fun k => if k = i then v else g k)) J) := by
  unfold q_sR
  rw [if_pos ⟨⟨h, by omega, by rw [mm_ln_w, hx]; exact_mod_cast hi⟩, hv⟩, hx]
  show f (mm_w (mm_sR (mm_rw G a g) a (i : Int).toNat v) J) = _
  rw [Int.toNat_natCast, mm_rw_sR]
/-! a table: the object at q, its rows at q + 1, its nine buckets from q + 2 on; w tells which bucket stands in which row -/
def sT (G : mm_M) (q : Nat) (w : Nat → Nat) : Prop := mm_K G q = 6 ∧ mm_R G q 1 = some (q + 1) ∧ (mm_K G (q + 1) = 104 ∧ mm_ln G (q + 1) = 9) ∧ (∀ k, k < 9 → mm_R G (q + 1) k = some (q + 2 + 3 * w k) ∧ w k < 9) ∧ (∀ j k, j < 9 → k < 9 → w j = w k → j = k) ∧ ∀ m, m < 9 → sB G (q + 2 + 3 * m)
abbrev Bk : Type := Nat × Nat × Nat × List (Nat × Nat)
def tv (J : Nat → Nat → Int32) (q : Nat) (w : Nat → Nat) (o : Nat) (bs : List Bk) : Prop := (J q 0).toInt = (o : Int) ∧ (J q 2).toInt = (bs.length : Int) ∧ ∀ k b, bs[k]? = some b → bk J (q + 2 + 3 * w k) b.1 b.2.1 b.2.2.1 b.2.2.2
/-- nothing but the table's ints has changed -/
def frT (J J' : Nat → Nat → Int32) (q : Nat) : Prop := ∀ b j, b < q ∨ q + 29 ≤ b → J' b j = J b j
theorem sT.row {G : mm_M} {q : Nat} {w : Nat → Nat} (h : sT G q w) {k : Nat} (hk : k < 9) : mm_R G (q + 1) k = some (q + 2 + 3 * w k) ∧ sB G (q + 2 + 3 * w k) ∧ w k < 9 := ⟨(h.2.2.2.1 k hk).1, h.2.2.2.2.2 _ (h.2.2.2.1 k hk).2, (h.2.2.2.1 k hk).2⟩
/-- one row's bucket changes -/
theorem tv_set {J J' : Nat → Nat → Int32} {q o k : Nat} {w : Nat → Nat} {bs : List Bk} {b : Bk} {G : mm_M} (h : sT G q w) (ht : tv J q w o bs) (h9 : bs.length ≤ 9) (hk : k < bs.length) (hb : bk J' (q + 2 + 3 * w k) b.1 b.2.1 b.2.2.1 b.2.2.2) (hf : fr3 J J' (q + 2 + 3 * w k)) : tv J' q w o (bs.set k b) ∧ frT J J' q := by
  have hw := (h.row (k := k) (by omega)).2.2
  refine ⟨⟨?_, ?_, ?_⟩, ?_⟩
  · rw [hf _ _ (by omega) (by omega) (by omega)]; exact ht.1
  · rw [hf _ _ (by omega) (by omega) (by omega), List.length_set]; exact ht.2.1
  · intro i c hc
    by_cases hi : k = i
    · subst hi
      rw [List.getElem?_set_self hk] at hc
      cases hc
      exact hb
    · rw [List.getElem?_set_ne hi] at hc
      have hil : i < bs.length := (List.getElem?_eq_some_iff.mp hc).1
      have hwi := (h.row (k := i) (by omega)).2.2
      have hne : w k ≠ w i := fun e => hi (h.2.2.2.2.1 k i (by omega) (by omega) e)
      exact bk_congr (ht.2.2 i c hc) (fun j => hf _ j (by omega) (by omega) (by omega)) (fun j => hf _ j (by omega) (by omega) (by omega)) (fun j => hf _ j (by omega) (by omega) (by omega))
  · intro b j hbj
    exact hf b j (by omega) (by omega) (by omega)
/-! the row of a number -/
def rgf (f : Nat → Nat) (u : Nat) : Nat → Nat → Nat
  | i, 0 => i
  | i, r + 1 => if f (i + 1) ≤ u then rgf f u (i + 1) r else i
def b1 (bs : List Bk) (k : Nat) : Nat := (bs.getD k (0, 0, 0, [])).1
def rng (bs : List Bk) (u : Nat) : Nat := rgf (b1 bs) u 0 (bs.length - 1)
theorem rgf_le (f : Nat → Nat) (u : Nat) : ∀ r i, i ≤ rgf f u i r ∧ rgf f u i r ≤ i + r
  | 0, i => ⟨Nat.le_refl _, by unfold rgf; omega⟩
  | r + 1, i => by
    unfold rgf
    split
    · have := rgf_le f u r (i + 1); omega
    · omega
theorem rng_lt {bs : List Bk} (u : Nat) (h : 0 < bs.length) : rng bs u < bs.length := by
  have := rgf_le (b1 bs) u (bs.length - 1) 0
  unfold rng
  omega
theorem b1_at {bs : List Bk} {k : Nat} {b : Bk} (h : bs[k]? = some b) : b1 bs k = b.1 := by
  unfold b1
  rw [List.getD_eq_getElem?_getD, h]
  rfl
theorem e_range_l {G : mm_M} {J : Nat → Nat → Int32} {q o u N : Nat} {w : Nat → Nat} {bs : List Bk} {x : Int32} {kx : mm_M → Int32 → Option (mm_M × Int32)} (h : sT G q w) (ht : tv J q w o bs) (h9 : bs.length ≤ 9) (hx : x.toInt = (u : Int)) : ∀ (r n i : Nat) (y : Int32), y.toInt = (i : Int) → i + r + 1 = bs.length → r < n → pX5_rangeOf_2 N q kx n (mm_w G J) x y = kx (mm_w G J) (Int32.ofNat (rgf (b1 bs) u i r)) := by
  intro r
  induction r with
  | zero =>
    intro n i y hy hi hn
    obtain ⟨n, rfl⟩ : ∃ m, n = m + 1 := ⟨n - 1, by omega⟩
    show pX5_rangeOf_2_b N q _ kx _ x y = _
    unfold pX5_rangeOf_2_b rgf
    rw [w_gI h.1, if_pos (by rw [zi_le, ht.2.1, zi_inc hy (by omega)]; omega), zi_eqN hy (by omega)]
  | succ r ih =>
    intro n i y hy hi hn
    obtain ⟨n, rfl⟩ : ∃ m, n = m + 1 := ⟨n - 1, by omega⟩
    have hy1 := zi_inc hy (by omega)
    have hlt : i + 1 < bs.length := by omega
    have hrow := h.row (k := i + 1) (by omega)
    have hbk := ht.2.2 (i + 1) _ (List.getElem?_eq_getElem hlt)
    show pX5_rangeOf_2_b N q _ kx _ x y = _
    unfold pX5_rangeOf_2_b rgf
    rw [w_gI h.1, if_neg (by rw [zi_le, ht.2.1, hy1]; omega), w_gR h.1, h.2.1, w_nn, w_aR h.2.2.1.1 hy1 (by rw [h.2.2.1.2]; omega), hrow.1, w_nn, w_gI hrow.2.1.1]
    rw [b1_at (List.getElem?_eq_getElem hlt)]
    by_cases hu : bs[i + 1].1 ≤ u
    · rw [if_neg (by rw [zi_lt, hx, hbk.1]; omega), if_pos hu]
      exact ih n (i + 1) (y + 1) hy1 (by omega) (by omega)
    · rw [if_pos (by rw [zi_lt, hx, hbk.1]; omega), if_neg hu, zi_eqN hy (by omega)]
theorem e_range {G : mm_M} {J : Nat → Nat → Int32} {q o u N : Nat} {w : Nat → Nat} {bs : List Bk} {x : Int32} (h : sT G q w) (ht : tv J q w o bs) (h9 : bs.length ≤ 9) (h0 : 0 < bs.length) (hN : 400 ≤ N) (hx : x.toInt = (u : Int)) : pX5_rangeOf_0 N q (mm_w G J) x = some (mm_w G J, Int32.ofNat (rng bs u)) := by
  unfold pX5_rangeOf_0
  rw [e_range_l h ht h9 hx (bs.length - 1) N 0 0 zi_0 (by omega) (by omega)]
  rfl
theorem e_touch {G : mm_M} {J : Nat → Nat → Int32} {q o u t N : Nat} {w : Nat → Nat} {bs : List Bk} {x y : Int32} {b : Bk} (h : sT G q w) (ht : tv J q w o bs) (h9 : bs.length ≤ 9) (hN : 400 ≤ N) (hx : x.toInt = (u : Int)) (hy : y.toInt = (t : Int)) (hb : bs[rng bs u]? = some b) : ∃ J', pX5_touch_0 N q (mm_w G J) x y = some (mm_w G J', ()) ∧ tv J' q w o (bs.set (rng bs u) (b.1, b.2.1, t, b.2.2.2)) ∧ frT J J' q := by
  have hlt : rng bs u < bs.length := (List.getElem?_eq_some_iff.mp hb).1
  have hrow := h.row (k := rng bs u) (by omega)
  obtain ⟨c0, c1, c2, c3, c4⟩ := ht.2.2 _ b hb
  refine ⟨js J (q + 2 + 3 * w (rng bs u)) 4 y, ?_, tv_set h ht h9 hlt ⟨?_, ?_, ?_, ?_, ?_⟩ ?_⟩
  · unfold pX5_touch_0
    rw [w_gR h.1, w_is h.1, e_range h ht h9 (by omega) hN hx, w_cl, h.2.1, w_nn, w_aR h.2.2.1.1 (zi_ofNat (by omega)) (by rw [h.2.2.1.2]; omega), hrow.1, w_nn, w_pI hrow.2.1.1]
  · rw [js_ne _ (Or.inr (by omega))]; exact c0
  · rw [js_ne _ (Or.inr (by omega))]; exact c1
  · rw [js_same]; exact hy
  · rw [js_ne _ (Or.inr (by omega))]; exact c3
  · intro j p hp; rw [js_ne _ (Or.inl (by omega)), js_ne _ (Or.inl (by omega))]; exact c4 j p hp
  · intro b j g0 g1 g2; rw [js_ne _ (Or.inl g0)]
/-- one miss more for a number -/
def addm (L : List (Nat × Nat)) (u : Nat) : List (Nat × Nat) := match pl L u with
  | some j => L.modify j (fun p => (p.1, p.2 + 1))
  | none => L
theorem pl_some {L : List (Nat × Nat)} {u j : Nat} (h : pl L u = some j) : ∃ p, L[j]? = some p ∧ p.1 = u ∧ j < L.length := by
  unfold pl at h
  obtain ⟨h1, h2⟩ := List.findIdx?_eq_some_iff_getElem.mp h
  exact ⟨L[j], List.getElem?_eq_getElem h1, by simpa using h2.1, h1⟩
theorem pl_lt {L : List (Nat × Nat)} {u j : Nat} (h : pl L u = some j) : j < L.length := (pl_some h).choose_spec.2.2
theorem e_miss {G : mm_M} {J : Nat → Nat → Int32} {q o u N : Nat} {w : Nat → Nat} {bs : List Bk} {x : Int32} {b : Bk} (h : sT G q w) (ht : tv J q w o bs) (h9 : bs.length ≤ 9) (hN : 400 ≤ N) (hx : x.toInt = (u : Int)) (hb : bs[rng bs u]? = some b) (hl : b.2.2.2.length ≤ 3) (hm : ∀ p ∈ b.2.2.2, p.2 < 100000) : ∃ J', pX5_addMiss_0 N q (mm_w G J) x = some (mm_w G J', ()) ∧ tv J' q w o (bs.set (rng bs u) (b.1, b.2.1, b.2.2.1, addm b.2.2.2 u)) ∧ frT J J' q := by
  have hlt : rng bs u < bs.length := (List.getElem?_eq_some_iff.mp hb).1
  have hrow := h.row (k := rng bs u) (by omega)
  have hbk := ht.2.2 _ b hb
  have hpre : pX5_addMiss_0 N q (mm_w G J) x = (if pli b.2.2.2 u = (-1 : Int32) then some (mm_w G J, ()) else q_gR (mm_w G J) (q + 2 + 3 * w (rng bs u)) 1 1 fun r23_9 => q_nn r23_9 fun b28_10 => q_aI (mm_w G J) b28_10 101 (pli b.2.2.2 u) fun v28_11 => q_sI (mm_w G J) b28_10 101 (pli b.2.2.2 u) (v28_11 + (1 : Int32)) fun G => some (G, ())) := by
    unfold pX5_addMiss_0
    rw [w_gR h.1, w_is h.1, e_range h ht h9 (by omega) hN hx, w_cl, h.2.1, w_nn, w_aR h.2.2.1.1 (zi_ofNat (by omega)) (by rw [h.2.2.1.2]; omega), hrow.1, w_nn, w_is hrow.2.1.1, e_place hrow.2.1 hbk hl hN hx, w_cl]
  rw [hpre]
  unfold pli
  cases hp : pl b.2.2.2 u with
  | none =>
    refine ⟨J, ?_, ?_⟩
    · dsimp only; rw [if_pos rfl]
    · refine tv_set h ht h9 hlt ?_ (fun b j _ _ _ => rfl)
      unfold addm
      rw [hp]
      exact hbk
  | some j =>
    obtain ⟨p, hp1, hp2, hp3⟩ := pl_some hp
    obtain ⟨c0, c1, c2, c3, c4⟩ := hbk
    have hj := zi_ofNat (n := j) (by omega)
    refine ⟨js J (q + 2 + 3 * w (rng bs u) + 2) j (J (q + 2 + 3 * w (rng bs u) + 2) j + 1), ?_, tv_set h ht h9 hlt ⟨?_, ?_, ?_, ?_, ?_⟩ ?_⟩
    · dsimp only
      rw [if_neg (by rw [zi_eq, hj, zi_m1]; omega), w_gR hrow.2.1.1, hrow.2.1.2.2.1, w_nn, w_aI hrow.2.1.2.2.2.2.1 hj (by rw [hrow.2.1.2.2.2.2.2]; omega), w_sI hrow.2.1.2.2.2.2.1 hj (by rw [hrow.2.1.2.2.2.2.2]; omega)]
    · rw [js_ne _ (Or.inl (by omega))]; exact c0
    · rw [js_ne _ (Or.inl (by omega))]; exact c1
    · rw [js_ne _ (Or.inl (by omega))]; exact c2
    · rw [js_ne _ (Or.inl (by omega)), c3]; unfold addm; rw [hp]; simp
    · intro i c hc
      rw [js_ne _ (Or.inl (by omega))]
      unfold addm at hc
      rw [hp] at hc
      dsimp only at hc
      rw [List.getElem?_modify] at hc
      by_cases hij : j = i
      · subst hij
        rw [hp1] at hc
        simp at hc
        subst hc
        have h8 := c4 j p hp1
        refine ⟨h8.1, ?_⟩
        rw [js_same]
        have h7 := hm p (List.mem_of_getElem? hp1)
        rw [zi_add h8.2 zi_1 (by omega) (by omega)]
        simp
      · simp [hij] at hc
        rw [js_ne _ (Or.inr (by omega))]
        exact c4 i c hc
    · intro b i g0 g1 g2; rw [js_ne _ (Or.inl g2)]
