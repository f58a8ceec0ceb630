/-! the closest contact beyond a distance -/
def oI (b : Option Nat) : Int32 := match b with
  | none => -1
  | some n => Int32.ofNat n
theorem oI_none : (oI none).toInt = -1 := zi_m1
theorem oI_some {n : Nat} (h : n < 1000000) : (oI (some n)).toInt = (n : Int) := zi_ofNat h
def stp (t : Nat) (d e : Int) (b : Option Nat) (n : Nat) : Option Nat :=
  if (n : Int) = e then b else if ((n ^^^ t : Nat) : Int) ≤ d then b else match b with
    | none => some n
    | some m => if m ^^^ t ≤ n ^^^ t then some m else some n
theorem stp_lt {t n : Nat} {d e : Int} {b : Option Nat} (hn : n < 256) (hb : ∀ m, b = some m → m < 256) : ∀ m, stp t d e b n = some m → m < 256 := by
  intro m hm
  unfold stp at hm
  split at hm
  · exact hb m hm
  · split at hm
    · exact hb m hm
    · split at hm
      · cases hm; exact hn
      · split at hm
        · cases hm; exact hb _ rfl
        · cases hm; exact hn
theorem fold_lt {t : Nat} {d e : Int} : ∀ (l : List Nat) (b : Option Nat), (∀ n ∈ l, n < 256) → (∀ m, b = some m → m < 256) → ∀ m, l.foldl (stp t d e) b = some m → m < 256
  | [], b, _, hb, m, hm => hb m hm
  | n :: l, b, hl, hb, m, hm => fold_lt l (stp t d e b n) (fun k hk => hl k (List.mem_cons_of_mem _ hk)) (stp_lt (hl n List.mem_cons_self) hb) m hm
theorem xor_lt {a b : Nat} (ha : a < 256) (hb : b < 256) : a ^^^ b < 256 := Nat.xor_lt_two_pow (n := 8) ha hb
theorem e_close_i {G : mm_M} {J : Nat → Nat → Int32} {q p N t f z s : Nat} {d e : Int} {L : List (Nat × Nat)} {x1 x2 x3 x5 : Int32} {kx : mm_M → Int32 → Int32 → Int32 → Int32 → Int32 → Option (mm_M × Int32)} (h : sB G p) (hb : bk J p f z s L) (hl : L.length ≤ 3) (hn : ∀ c ∈ L, c.1 < 256) (ht : t < 256) (h1 : x1.toInt = (t : Int)) (h2 : x2.toInt = d) (h3 : x3.toInt = e) : ∀ (r n i : Nat) (y : Int32) (b : Option Nat), y.toInt = (i : Int) → i + r = L.length → r < n → (∀ m, b = some m → m < 256) → pX5_closestBeyond_27 N q kx n (mm_w G J) x1 x2 x3 (oI b) x5 (some p) y = kx (mm_w G J) x1 x2 x3 (oI (((L.drop i).map Prod.fst).foldl (stp t d e) b)) x5 := by
  obtain ⟨s0, s1, s2, ⟨s3, s4⟩, s5, s6⟩ := h
  intro r
  induction r with
  | zero =>
    intro n i y b hy hi hnn hbb
    obtain ⟨n, rfl⟩ : ∃ m, n = m + 1 := ⟨n - 1, by omega⟩
    show pX5_closestBeyond_27_b N q _ kx _ x1 x2 x3 _ x5 _ y = _
    unfold pX5_closestBeyond_27_b
    rw [w_nn, w_gI s0, if_pos (by rw [zi_le, hb.2.2.2.1, hy]; omega), List.drop_eq_nil_of_le (by omega)]
    rfl
  | succ r ih =>
    intro n i y b hy hi hnn hbb
    obtain ⟨n, rfl⟩ : ∃ m, n = m + 1 := ⟨n - 1, by omega⟩
    have hlt : i < L.length := by omega
    have hv := (hb.2.2.2.2 i L[i] (List.getElem?_eq_getElem hlt)).1
    have hv2 : L[i].1 < 256 := hn _ (List.getElem_mem hlt)
    have hx := zi_xor hv h1 (by omega) (by omega)
    have hxl := xor_lt hv2 ht
    have hy1 := zi_inc hy (by omega)
    show pX5_closestBeyond_27_b N q _ kx _ x1 x2 x3 _ x5 _ y = _
    unfold pX5_closestBeyond_27_b
    rw [w_nn, w_gI s0, if_neg (by rw [zi_le, hb.2.2.2.1, hy]; omega), w_gR s0, s1, w_nn, w_aI s3 hy (by omega), List.drop_eq_getElem_cons hlt, List.map_cons, List.foldl_cons]
    have hb2 := stp_lt (t := t) (d := d) (e := e) hv2 hbb
    have go := fun b' (hb' : ∀ m, b' = some m → m < 256) => ih n (i + 1) (y + 1) b' hy1 (by omega) (by omega) hb'
    unfold stp at hb2 ⊢
    by_cases c1 : (L[i].1 : Int) = e
    · rw [if_pos (by rw [zi_eq, hv, h3]; exact c1), if_pos c1]
      exact go b hbb
    · rw [if_neg (by rw [zi_eq, hv, h3]; exact c1), if_neg c1]
      rw [if_neg c1] at hb2
      by_cases c2 : ((L[i].1 ^^^ t : Nat) : Int) ≤ d
      · rw [if_pos (by rw [zi_le, hx, h2]; exact c2), if_pos c2]
        exact go b hbb
      · rw [if_neg (by rw [zi_le, hx, h2]; exact c2), if_neg c2]
        rw [if_neg c2] at hb2
        have hself : J (p + 1) i = oI (some L[i].1) := by rw [zi_eq, hv, oI_some (by omega)]
        cases b with
        | none =>
          rw [if_pos (by rw [zi_eq, oI_none, zi_m1]), hself]
          exact go (some L[i].1) hb2
        | some m =>
          have hm := hbb m rfl
          have hm2 := oI_some (n := m) (by omega)
          have hxm := zi_xor hm2 h1 (by omega) (by omega)
          rw [if_neg (by rw [zi_eq, hm2, zi_m1]; omega)]
          dsimp only at hb2 ⊢
          by_cases c3 : m ^^^ t ≤ L[i].1 ^^^ t
          · rw [if_pos (by rw [zi_le, hxm, hx]; omega), if_pos c3]
            exact go (some m) hbb
          · rw [if_neg (by rw [zi_le, hxm, hx]; omega), if_neg c3, hself]
            rw [if_neg c3] at hb2
            exact go (some L[i].1) hb2
/-- all contacts' numbers, row by row -/
def cns (bs : List Bk) : List Nat := bs.flatMap (fun b => b.2.2.2.map Prod.fst)
def cbb (bs : List Bk) (t : Nat) (d e : Int) : Option Nat := (cns bs).foldl (stp t d e) none
theorem e_close_o {G : mm_M} {J : Nat → Nat → Int32} {q o N t : Nat} {w : Nat → Nat} {d e : Int} {bs : List Bk} {x1 x2 x3 : Int32} {kx : mm_M → Int32 → Option (mm_M × Int32)} (h : sT G q w) (htv : tv J q w o bs) (hok : okB bs) (h9 : bs.length ≤ 9) (hn : ∀ n ∈ cns bs, n < 256) (ht : t < 256) (hN : 400 ≤ N) (h1 : x1.toInt = (t : Int)) (h2 : x2.toInt = d) (h3 : x3.toInt = e) : ∀ (r n i : Nat) (y : Int32) (b : Option Nat), y.toInt = (i : Int) → i + r = bs.length → r < n → (∀ m, b = some m → m < 256) → pX5_closestBeyond_6 N q kx n (mm_w G J) x1 x2 x3 (oI b) y = kx (mm_w G J) (oI ((cns (bs.drop i)).foldl (stp t d e) b)) := by
  intro r
  induction r with
  | zero =>
    intro n i y b hy hi hnn hbb
    obtain ⟨n, rfl⟩ : ∃ m, n = m + 1 := ⟨n - 1, by omega⟩
    show pX5_closestBeyond_6_b N q _ kx _ x1 x2 x3 _ y = _
    unfold pX5_closestBeyond_6_b
    rw [w_gI h.1, if_pos (by rw [zi_le, htv.2.1, hy]; omega), List.drop_eq_nil_of_le (by omega)]
    rfl
  | succ r ih =>
    intro n i y b hy hi hnn hbb
    obtain ⟨n, rfl⟩ : ∃ m, n = m + 1 := ⟨n - 1, by omega⟩
    have hlt : i < bs.length := by omega
    have hb := List.getElem?_eq_getElem hlt
    have hrow := h.row (k := i) (by omega)
    have hbk := htv.2.2 _ _ hb
    have hok1 := hok.at hb
    have hnb : ∀ c ∈ bs[i].2.2.2, c.1 < 256 := fun c hc => hn _ (List.mem_flatMap.mpr ⟨bs[i], List.getElem_mem hlt, List.mem_map.mpr ⟨c, hc, rfl⟩⟩)
    show pX5_closestBeyond_6_b N q _ kx _ x1 x2 x3 _ y = _
    unfold pX5_closestBeyond_6_b
    rw [w_gI h.1, if_neg (by rw [zi_le, htv.2.1, hy]; omega), w_gR h.1, h.2.1, w_nn, w_aR h.2.2.1.1 hy (by rw [h.2.2.1.2]; omega), hrow.1]
    rw [e_close_i hrow.2.1 hbk hok1.1 hnb ht h1 h2 h3 bs[i].2.2.2.length N 0 0 b zi_0 (by omega) (by omega) hbb]
    rw [List.drop_zero, ih n (i + 1) (y + 1) _ (zi_inc hy (by omega)) (by omega) (by omega) (fold_lt _ b (fun n hn' => by
      obtain ⟨c, hc, rfl⟩ := List.mem_map.mp hn'
      exact hnb c hc) hbb), List.drop_eq_getElem_cons hlt]
    unfold cns
    rw [List.flatMap_cons, List.foldl_append]
theorem e_close {G : mm_M} {J : Nat → Nat → Int32} {q o N t : Nat} {w : Nat → Nat} {d e : Int} {bs : List Bk} {x1 x2 x3 : Int32} (h : sT G q w) (htv : tv J q w o bs) (hok : okB bs) (h9 : bs.length ≤ 9) (hn : ∀ n ∈ cns bs, n < 256) (ht : t < 256) (hN : 400 ≤ N) (h1 : x1.toInt = (t : Int)) (h2 : x2.toInt = d) (h3 : x3.toInt = e) : pX5_closestBeyond_0 N q (mm_w G J) x1 x2 x3 = some (mm_w G J, oI (cbb bs t d e)) := by
  unfold pX5_closestBeyond_0
  have h9 := e_close_o (N := N) (kx := fun (G : mm_M) (x4 : Int32) => some (G, x4)) h htv hok h9 hn ht hN h1 h2 h3 bs.length N 0 0 none zi_0 (by omega) (by omega) (fun m hm => by cases hm)
  exact h9
/-! a bucket's target, when it is stale -/
def stl (bs : List Bk) (now : Nat) : Option Nat := match bs.find? (fun b => decide (0 < b.2.1) && decide (b.2.2.1 + 16 ≤ now)) with
  | some b => some (b.1 + now % b.2.1)
  | none => none
theorem zi_rem {x y : Int32} {m n : Nat} (hx : x.toInt = (m : Int)) (hy : y.toInt = (n : Int)) (hn : 0 < n) : (x - x / y * y).toInt = ((m % n : Nat) : Int) := by
  have hr := zi_rng x
  have hr2 := zi_rng y
  have h1 : (x / y).toInt = ((m / n : Nat) : Int) := by
    rw [Int32.toInt_div, hx, hy]
    have e : (m : Int).tdiv n = ((m / n : Nat) : Int) := by
      rw [Int.tdiv_eq_ediv_of_nonneg (by omega)]
      rfl
    have hle : m / n ≤ m := Nat.div_le_self m n
    rw [e]
    generalize m / n = k at hle ⊢
    exact zi_bm (by omega) (by omega)
  have h4 : m / n * n ≤ m := Nat.div_mul_le_self m n
  have h2 : (x / y * y).toInt = ((m / n * n : Nat) : Int) := by
    rw [zi_mul h1 hy (by have : (0 : Int) ≤ ((m / n : Nat) : Int) * (n : Int) := by exact_mod_cast Nat.zero_le _
                         omega) (by have : ((m / n : Nat) : Int) * (n : Int) = ((m / n * n : Nat) : Int) := by exact_mod_cast rfl
                                    omega)]
    exact_mod_cast rfl
  have h3 : m = m / n * n + m % n := by rw [Nat.mul_comm]; exact (Nat.div_add_mod m n).symm
  rw [zi_sub hx h2 (by omega) (by omega)]
  omega
theorem e_stale_l {G : mm_M} {J : Nat → Nat → Int32} {q o N now : Nat} {w : Nat → Nat} {bs : List Bk} {x : Int32} {kx : mm_M → Option (mm_M × Int32)} (h : sT G q w) (htv : tv J q w o bs) (hok : okB bs) (h9 : bs.length ≤ 9) (hx : x.toInt = (now : Int)) (hnow : now < 100000) (ht : ∀ b ∈ bs, b.2.2.1 < 100000) : ∀ (r n i : Nat) (y : Int32), y.toInt = (i : Int) → i + r = bs.length → r < n → pX5_staleTarget_2 N q kx n (mm_w G J) x y = match stl (bs.drop i) now with | some v => some (mm_w G J, Int32.ofNat v) | none => kx (mm_w G J) := by
  intro r
  induction r with
  | zero =>
    intro n i y hy hi hnn
    obtain ⟨n, rfl⟩ : ∃ m, n = m + 1 := ⟨n - 1, by omega⟩
    show pX5_staleTarget_2_b N q _ kx _ x y = _
    unfold pX5_staleTarget_2_b
    rw [w_gI h.1, if_pos (by rw [zi_le, htv.2.1, hy]; omega), List.drop_eq_nil_of_le (by omega)]
    rfl
  | succ r ih =>
    intro n i y hy hi hnn
    obtain ⟨n, rfl⟩ : ∃ m, n = m + 1 := ⟨n - 1, by omega⟩
    have hlt : i < bs.length := by omega
    have hb := List.getElem?_eq_getElem hlt
    have hrow := h.row (k := i) (by omega)
    have hbk := htv.2.2 _ _ hb
    have hok1 := hok.at hb
    have htb := ht _ (List.getElem_mem hlt)
    have hy1 := zi_inc hy (by omega)
    have hs : (x - J (q + 2 + 3 * w i) 4).toInt = (now : Int) - bs[i].2.2.1 := zi_sub hx hbk.2.2.1 (by omega) (by omega)
    show pX5_staleTarget_2_b N q _ kx _ x y = _
    unfold pX5_staleTarget_2_b stl
    rw [w_gI h.1, if_neg (by rw [zi_le, htv.2.1, hy]; omega), w_gR h.1, h.2.1, w_nn, w_aR h.2.2.1.1 hy (by rw [h.2.2.1.2]; omega), hrow.1, w_nn, w_gI hrow.2.1.1, List.drop_eq_getElem_cons hlt, List.find?_cons]
    by_cases c1 : 0 < bs[i].2.1
    · rw [if_neg (by rw [zi_le, hbk.2.1, zi_0]; omega), w_gI hrow.2.1.1]
      by_cases c2 : bs[i].2.2.1 + 16 ≤ now
      · rw [if_neg (by rw [zi_lt, hs, zi_16]; omega), w_gI hrow.2.1.1, w_gI hrow.2.1.1, w_nz (by rw [zi_eq, hbk.2.1, zi_0]; omega)]
        simp only [c1, c2, decide_true, Bool.and_self]
        have hm := Nat.mod_lt now c1
        have e : J (q + 2 + 3 * w i) 2 + (x - x / J (q + 2 + 3 * w i) 3 * J (q + 2 + 3 * w i) 3) = Int32.ofNat (bs[i].1 + now % bs[i].2.1) := by
          rw [zi_eq, zi_add hbk.1 (zi_rem hx hbk.2.1 c1) (by omega) (by omega), zi_ofNat (by omega)]
          omega
        rw [e]
      · rw [if_pos (by rw [zi_lt, hs, zi_16]; omega)]
        simp only [c1, c2, decide_true, decide_false, Bool.and_false]
        exact ih n (i + 1) (y + 1) hy1 (by omega) (by omega)
    · rw [if_pos (by rw [zi_le, hbk.2.1, zi_0]; omega)]
      simp only [c1, decide_false, Bool.false_and]
      exact ih n (i + 1) (y + 1) hy1 (by omega) (by omega)
theorem e_stale {G : mm_M} {J : Nat → Nat → Int32} {q o N now : Nat} {w : Nat → Nat} {bs : List Bk} {x : Int32} (h : sT G q w) (htv : tv J q w o bs) (hok : okB bs) (h9 : bs.length ≤ 9) (hN : 400 ≤ N) (hx : x.toInt = (now : Int)) (hnow : now < 100000) (ht : ∀ b ∈ bs, b.2.2.1 < 100000) : pX5_staleTarget_0 N q (mm_w G J) x = some (mm_w G J, oI (stl bs now)) := by
  unfold pX5_staleTarget_0
  rw [e_stale_l h htv hok h9 hx hnow ht bs.length N 0 0 zi_0 (by omega) (by omega), List.drop_zero]
  cases stl bs now with
  | none => rfl
  | some v => rfl
/-- a table begins anew -/
theorem e_reset {G : mm_M} {J : Nat → Nat → Int32} {q o N t : Nat} {w : Nat → Nat} {x : Int32} (h : sT G q w) (ho : (J q 0).toInt = (o : Int)) (hx : x.toInt = (t : Int)) : ∃ J', pX5_reset_0 N q (mm_w G J) x = some (mm_w G J', ()) ∧ tv J' q w o [(0, 256, t, [])] ∧ frT J J' q := by
  have hrow := h.row (k := 0) (by omega)
  obtain ⟨J1, e1, e2, e3⟩ := e_open (N := N) (J := J) hrow.2.1 (x := 0) (y := 256) (w := x) (f := 0) (z := 256) zi_0 zi_256 hx
  refine ⟨js J1 q 2 1, ?_, ⟨?_, ?_, ?_⟩, ?_⟩
  · unfold pX5_reset_0
    rw [w_gR h.1, h.2.1, w_nn, w_aR (i := 0) h.2.2.1.1 zi_0 (by rw [h.2.2.1.2]; omega), hrow.1, w_nn, w_is hrow.2.1.1, e1, w_cl, w_pI h.1]
  · rw [js_ne _ (Or.inr (by omega)), e3 _ _ (by omega) (by omega) (by omega)]; exact ho
  · rw [js_same]; rfl
  · intro k b hb
    have hk : k = 0 := by have := (List.getElem?_eq_some_iff.mp hb).1; simp at this; exact this
    subst hk
    simp at hb
    subst hb
    exact bk_congr e2 (fun j => js_ne _ (Or.inl (by omega))) (fun j => js_ne _ (Or.inl (by omega))) (fun j => js_ne _ (Or.inl (by omega)))
  · intro b j hbj
    rw [js_ne _ (Or.inl (by omega)), e3 _ _ (by omega) (by omega) (by omega)]
