/-! a number is seen -/
def okB (bs : List Bk) : Prop := ∀ b ∈ bs, b.2.2.2.length ≤ 3 ∧ b.1 + b.2.1 < 1000000
theorem okB.at {bs : List Bk} (h : okB bs) {k : Nat} {b : Bk} (hb : bs[k]? = some b) : b.2.2.2.length ≤ 3 ∧ b.1 + b.2.1 < 1000000 := h b (List.mem_of_getElem? hb)
theorem okB_bsp {bs : List Bk} {k : Nat} {b : Bk} (h : okB bs) (hb : bs[k]? = some b) : okB (bsp bs k b) := by
  have h0 := h.at hb
  intro c hc
  unfold bsp at hc
  rcases List.mem_append.mp hc with hc | hc
  · exact h c (List.mem_of_mem_take hc)
  · rcases List.mem_cons.mp hc with rfl | hc
    · refine ⟨Nat.le_trans (List.length_filter_le _ _) h0.1, ?_⟩
      dsimp only; omega
    · rcases List.mem_cons.mp hc with rfl | hc
      · refine ⟨Nat.le_trans (List.length_filter_le _ _) h0.1, ?_⟩
        dsimp only; omega
      · exact h c (List.mem_of_mem_drop hc)
def spl : Nat → List Bk → Nat → Nat → List Bk
  | 0, bs, _, _ => bs
  | r + 1, bs, u, o => match bs[rng bs u]? with
    | some b => if 3 ≤ b.2.2.2.length ∧ b.1 ≤ o ∧ o < b.1 + b.2.1 then spl r (bsp bs (rng bs u) b) u o else bs
    | none => bs
theorem e_see_l {q o u N : Nat} {x1 x2 : Int32} {kx : mm_M → Int32 → Int32 → Int32 → Option (mm_M × Unit)} (hN : 400 ≤ N) (hx1 : x1.toInt = (u : Int)) : ∀ (r n : Nat) (bs : List Bk) (G : mm_M) (J : Nat → Nat → Int32) (w : Nat → Nat) (y : Int32), sT G q w → tv J q w o bs → okB bs → 0 < bs.length → y.toInt = (bs.length : Int) → bs.length + r = 9 → r < n → ∃ g J' w', pX5_see_72 N q kx n (mm_w G J) x1 x2 (Int32.ofNat (rng bs u)) y = kx (mm_w (mm_rw G (q + 1) g) J') x1 x2 (Int32.ofNat (rng (spl r bs u o) u)) ∧ sT (mm_rw G (q + 1) g) q w' ∧ tv J' q w' o (spl r bs u o) ∧ frT J J' q ∧ okB (spl r bs u o) ∧ 0 < (spl r bs u o).length ∧ (spl r bs u o).length ≤ 9 := by
  intro r
  induction r with
  | zero =>
    intro n bs G J w y h ht hok h0 hy hr hn
    obtain ⟨n, rfl⟩ : ∃ m, n = m + 1 := ⟨n - 1, by omega⟩
    refine ⟨mm_R G (q + 1), J, w, ?_, by rw [mm_rw_self]; exact h, ht, fun _ _ _ => rfl, hok, h0, by unfold spl; omega⟩
    rw [mm_rw_self]
    show pX5_see_72_b N q _ kx _ x1 x2 _ y = _
    unfold pX5_see_72_b spl
    rw [if_pos (by rw [zi_le, zi_9, hy]; omega)]
  | succ r ih =>
    intro n bs G J w y h ht hok h0 hy hr hn
    obtain ⟨n, rfl⟩ : ∃ m, n = m + 1 := ⟨n - 1, by omega⟩
    have hlt := rng_lt u h0
    have hb := List.getElem?_eq_getElem hlt
    have hrow := h.row (k := rng bs u) (by omega)
    have hbk := ht.2.2 _ _ hb
    have hok1 := hok.at hb
    have hi := zi_ofNat (n := rng bs u) (by omega)
    have hpre : pX5_see_72 N q kx (n + 1) (mm_w G J) x1 x2 (Int32.ofNat (rng bs u)) y = (if (if 3 ≤ bs[rng bs u].2.2.2.length ∧ bs[rng bs u].1 ≤ o ∧ o < bs[rng bs u].1 + bs[rng bs u].2.1 then (1 : Int32) else 0) = 0 then kx (mm_w G J) x1 x2 (Int32.ofNat (rng bs u)) else q_cl (pX5_split_0 N q (mm_w G J) (Int32.ofNat (rng bs u))) fun G _ => q_is G q 6 <| q_cl (pX5_rangeOf_0 N q G x1) fun G v102_20 => pX5_see_72 N q kx n G x1 x2 v102_20 (y + (1 : Int32))) := by
      show pX5_see_72_b N q _ kx _ x1 x2 _ y = _
      unfold pX5_see_72_b
      rw [if_neg (by rw [zi_le, zi_9, hy]; omega), w_gR h.1, h.2.1, w_nn, w_aR h.2.2.1.1 hi (by rw [h.2.2.1.2]; omega), w_gI h.1, hrow.1, w_nn, w_is hrow.2.1.1, e_must hrow.2.1 hbk ht.1 hok1.2, w_cl, w_is h.1]
    rw [hpre]
    unfold spl
    rw [hb]
    dsimp only
    by_cases hc : 3 ≤ bs[rng bs u].2.2.2.length ∧ bs[rng bs u].1 ≤ o ∧ o < bs[rng bs u].1 + bs[rng bs u].2.1
    · simp only [if_pos hc]
      rw [if_neg (by decide)]
      obtain ⟨g, J1, e1, e2, e3, e4⟩ := e_split (N := N) h ht (by omega) hN hi hb hok1.1 hok1.2
      have hlen := bsp_len (b := bs[rng bs u]) hlt
      rw [e1, w_cl, w_is e2.1, e_range e2 e3 (by omega) (by omega) hN hx1, w_cl]
      obtain ⟨g2, J2, w2, f1, f2, f3, f4, f5, f6, f7⟩ := ih n (bsp bs (rng bs u) bs[rng bs u]) _ J1 _ (y + 1) e2 e3 (okB_bsp hok hb) (by omega) (by rw [zi_inc hy (by omega), hlen]) (by omega) (by omega)
      rw [mm_rw_rw] at f1 f2
      exact ⟨g2, J2, w2, f1, f2, f3, fun b j hbj => (f4 b j hbj).trans (e4 b j hbj), f5, f6, f7⟩
    · simp only [if_neg hc]
      refine ⟨mm_R G (q + 1), J, w, ?_, by rw [mm_rw_self]; exact h, ht, fun _ _ _ => rfl, hok, h0, by omega⟩
      rw [mm_rw_self]
      simp
def bg (bs : List Bk) (k : Nat) : Bk := bs.getD k (0, 0, 0, [])
theorem bg_at {bs : List Bk} {k : Nat} (h : k < bs.length) : bs[k]? = some (bg bs k) := by
  unfold bg
  rw [List.getD_eq_getElem?_getD, List.getElem?_eq_getElem h]
  rfl
/-- what a table's rows are behind a sight of u at the time t -/
def seeB (bs : List Bk) (o u t : Nat) : List Bk :=
  if u = o then bs else
  match pl (bg bs (rng bs u)).2.2.2 u with
  | some j => bs.set (rng bs u) ((bg bs (rng bs u)).1, (bg bs (rng bs u)).2.1, t, (bg bs (rng bs u)).2.2.2.eraseIdx j ++ [(u, 0)])
  | none =>
    let cs := spl (9 - bs.length) bs u o
    let c := bg cs (rng cs u)
    if (mkr c.2.2.2).length < 3 then cs.set (rng cs u) (c.1, c.2.1, t, mkr c.2.2.2 ++ [(u, 0)]) else cs.set (rng cs u) (c.1, c.2.1, c.2.2.1, mkr c.2.2.2)
theorem bk_touch {J : Nat → Nat → Int32} {q f z t s : Nat} {L : List (Nat × Nat)} {y : Int32} (h : bk J q f z t L) (hy : y.toInt = (s : Int)) : bk (js J q 4 y) q f z s L ∧ fr3 J (js J q 4 y) q := by
  obtain ⟨a, b, c, d, e⟩ := h
  refine ⟨⟨?_, ?_, ?_, ?_, ?_⟩, ?_⟩
  · rw [js_ne _ (Or.inr (by omega))]; exact a
  · rw [js_ne _ (Or.inr (by omega))]; exact b
  · rw [js_same]; exact hy
  · rw [js_ne _ (Or.inr (by omega))]; exact d
  · intro j p hp; rw [js_ne _ (Or.inl (by omega)), js_ne _ (Or.inl (by omega))]; exact e j p hp
  · intro b j g0 g1 g2; rw [js_ne _ (Or.inl g0)]
theorem fr3.trans {J J' J'' : Nat → Nat → Int32} {q : Nat} (h1 : fr3 J J' q) (h2 : fr3 J' J'' q) : fr3 J J'' q := fun b j a b' c => (h2 b j a b' c).trans (h1 b j a b' c)
theorem e_see {G : mm_M} {J : Nat → Nat → Int32} {q o u t N : Nat} {w : Nat → Nat} {bs : List Bk} {x y : Int32} (h : sT G q w) (ht : tv J q w o bs) (hok : okB bs) (h0 : 0 < bs.length) (h9 : bs.length ≤ 9) (hN : 400 ≤ N) (hx : x.toInt = (u : Int)) (hy : y.toInt = (t : Int)) : ∃ g J' w', pX5_see_0 N q (mm_w G J) x y = some (mm_w (mm_rw G (q + 1) g) J', ()) ∧ sT (mm_rw G (q + 1) g) q w' ∧ tv J' q w' o (seeB bs o u t) ∧ frT J J' q := by
  have hlt := rng_lt u h0
  have hb := bg_at hlt
  have hrow := h.row (k := rng bs u) (by omega)
  have hbk := ht.2.2 _ _ hb
  have hok1 := hok.at hb
  have hi := zi_ofNat (n := rng bs u) (by omega)
  unfold pX5_see_0 seeB
  by_cases huo : u = o
  · refine ⟨mm_R G (q + 1), J, w, ?_, by rw [mm_rw_self]; exact h, by rw [if_pos huo]; exact ht, fun _ _ _ => rfl⟩
    rw [mm_rw_self, w_gI h.1, if_pos (by rw [zi_eq, hx, ht.1, huo])]
  · rw [w_gI h.1, if_neg (by rw [zi_eq, hx, ht.1]; omega), w_is h.1, e_range h ht h9 h0 hN hx, w_cl, w_gR h.1, h.2.1, w_nn, w_aR h.2.2.1.1 hi (by rw [h.2.2.1.2]; omega), hrow.1, w_nn, w_is hrow.2.1.1, e_place hrow.2.1 hbk hok1.1 hN hx, w_cl, if_neg huo]
    unfold pli
    cases hp : pl (bg bs (rng bs u)).2.2.2 u with
    | some j =>
      have hjl := pl_lt hp
      have hj := zi_ofNat (n := j) (by omega)
      dsimp only
      rw [if_neg (by rw [zi_eq, hj, zi_m1]; omega)]
      obtain ⟨J1, e1, e2, e3⟩ := e_remove (N := N) hrow.2.1 hbk hok1.1 hjl hN hj
      obtain ⟨J2, f1, f2, f3, -⟩ := e_append (N := N) hrow.2.1 e2 (by rw [List.length_eraseIdx, if_pos hjl]; omega) hx zi_0
      obtain ⟨k1, k2⟩ := bk_touch f2 hy
      have hset := tv_set h ht h9 hlt (b := ((bg bs (rng bs u)).1, (bg bs (rng bs u)).2.1, t, (bg bs (rng bs u)).2.2.2.eraseIdx j ++ [(u, 0)])) k1 ((e3.trans f3).trans k2)
      refine ⟨mm_R G (q + 1), _, w, ?_, by rw [mm_rw_self]; exact h, hset.1, hset.2⟩
      rw [mm_rw_self, w_gR h.1, h.2.1, w_nn, w_aR h.2.2.1.1 hi (by rw [h.2.2.1.2]; omega), hrow.1, w_nn, w_is hrow.2.1.1, e1, w_cl, w_gR h.1, h.2.1, w_nn, w_aR h.2.2.1.1 hi (by rw [h.2.2.1.2]; omega), hrow.1, w_nn, w_is hrow.2.1.1, f1, w_cl, w_gR h.1, h.2.1, w_nn, w_aR h.2.2.1.1 hi (by rw [h.2.2.1.2]; omega), hrow.1, w_nn, w_pI hrow.2.1.1]
    | none =>
      dsimp only
      rw [if_pos rfl, w_gI h.1]
      obtain ⟨g, J1, w1, e1, e2, e3, e4, e5, e6, e7⟩ := e_see_l (N := N) (x2 := y) (o := o) (kx := fun (G : mm_M) (x1 : Int32) (x2 : Int32) (x3 : Int32) => pX5_see_112 N q G x1 x2 x3) hN hx (9 - bs.length) N bs G J w (J q 2) h ht hok h0 ht.2.1 (by omega) (by omega)
      rw [e1]
      have hlt2 := rng_lt u e6
      have hb2 := bg_at hlt2
      have hrow2 := e2.row (k := rng (spl (9 - bs.length) bs u o) u) (by omega)
      have hbk2 := e3.2.2 _ _ hb2
      have hok2 := e5.at hb2
      have hi2 := zi_ofNat (n := rng (spl (9 - bs.length) bs u o) u) (by omega)
      obtain ⟨J2, f1, f2, f3⟩ := e_room (N := N) hrow2.2.1 hbk2 hok2.1 hN
      unfold pX5_see_112
      rw [w_gR e2.1, e2.2.1, w_nn, w_aR e2.2.2.1.1 hi2 (by rw [e2.2.2.1.2]; omega), hrow2.1, w_nn, w_is hrow2.2.1.1, f1, w_cl]
      by_cases hr : (mkr (bg (spl (9 - bs.length) bs u o) (rng (spl (9 - bs.length) bs u o) u)).2.2.2).length < 3
      · simp only [if_pos hr]
        rw [if_neg (by decide)]
        obtain ⟨J3, g1, g2, g3, -⟩ := e_append (N := N) hrow2.2.1 f2 hr hx zi_0
        obtain ⟨k1, k2⟩ := bk_touch g2 hy
        have hset := tv_set e2 e3 e7 hlt2 (b := ((bg (spl (9 - bs.length) bs u o) (rng (spl (9 - bs.length) bs u o) u)).1, (bg (spl (9 - bs.length) bs u o) (rng (spl (9 - bs.length) bs u o) u)).2.1, t, mkr (bg (spl (9 - bs.length) bs u o) (rng (spl (9 - bs.length) bs u o) u)).2.2.2 ++ [(u, 0)])) k1 ((f3.trans g3).trans k2)
        refine ⟨g, _, w1, ?_, e2, hset.1, fun b j hbj => (hset.2 b j hbj).trans (e4 b j hbj)⟩
        rw [w_gR e2.1, e2.2.1, w_nn, w_aR e2.2.2.1.1 hi2 (by rw [e2.2.2.1.2]; omega), hrow2.1, w_nn, w_is hrow2.2.1.1, g1, w_cl, w_gR e2.1, e2.2.1, w_nn, w_aR e2.2.2.1.1 hi2 (by rw [e2.2.2.1.2]; omega), hrow2.1, w_nn, w_pI hrow2.2.1.1]
      · simp only [if_neg hr]
        have hset := tv_set e2 e3 e7 hlt2 (b := ((bg (spl (9 - bs.length) bs u o) (rng (spl (9 - bs.length) bs u o) u)).1, (bg (spl (9 - bs.length) bs u o) (rng (spl (9 - bs.length) bs u o) u)).2.1, (bg (spl (9 - bs.length) bs u o) (rng (spl (9 - bs.length) bs u o) u)).2.2.1, mkr (bg (spl (9 - bs.length) bs u o) (rng (spl (9 - bs.length) bs u o) u)).2.2.2)) f2 f3
        refine ⟨g, J2, w1, ?_, e2, hset.1, fun b j hbj => (hset.2 b j hbj).trans (e4 b j hbj)⟩
        simp
