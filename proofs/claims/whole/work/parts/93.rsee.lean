/-! the reference sees -/
def frs (J J' : Nat → Nat → Int32) (m i : Nat) : Prop := ∀ z j, (z ≠ m ∨ j ≠ 2) → ((z ≠ m + 3 ∧ z ≠ m + 4 ∧ z ≠ m + 5) ∨ j < 12 * i ∨ 12 * i + 12 ≤ j) → (z ≠ m + 6 ∨ j ≠ i) → (z ≠ m + 7 ∨ j < 9 * i ∨ 9 * i + 9 ≤ j) → J' z j = J z j
theorem frs.refl {J : Nat → Nat → Int32} {m i : Nat} : frs J J m i := fun _ _ _ _ _ _ => rfl
theorem frs.trans {J J' J'' : Nat → Nat → Int32} {m i : Nat} (h : frs J J' m i) (k : frs J' J'' m i) : frs J J'' m i := fun z j a b c d => (k z j a b c d).trans (h z j a b c d)
theorem frs.X {J J' : Nat → Nat → Int32} {m i : Nat} (h : frs J J' m i) : frX J J' m i := ⟨fun z j hz => h z j (by omega) (by omega) (by omega) (by omega), ⟨h _ _ (by omega) (by omega) (by omega) (by omega), fun j => h _ _ (by omega) (by omega) (by omega) (by omega)⟩, fun i' hi => ⟨fun z hz => h _ _ (by omega) (by omega) (by omega) (by omega), fun z hz j _ => h _ _ (by omega) (by omega) (by omega) (by omega), fun j _ => h _ _ (by omega) (by omega) (by omega) (by omega), fun z hz j _ => h _ _ (by omega) (by omega) (by omega) (by omega)⟩⟩
theorem er_ne {L : List (Nat × Nat)} {j : Nat} {w : Nat × Nat} (hn : (L.map Prod.fst).Nodup) (hj : L[j]? = some w) : ∀ c ∈ L.eraseIdx j, c.1 ≠ w.1 := by
  intro c hcm e
  obtain ⟨q, hq⟩ := List.getElem?_of_mem hcm
  rw [List.getElem?_eraseIdx] at hq
  have hw1 : (L.map Prod.fst)[j]? = some w.1 := by rw [List.getElem?_map, hj]; rfl
  split at hq
  · have hc1 : (L.map Prod.fst)[q]? = some w.1 := by rw [List.getElem?_map, hq, ← e]; rfl
    have := nodup_idx hn hc1 hw1
    omega
  · have hc1 : (L.map Prod.fst)[q + 1]? = some w.1 := by rw [List.getElem?_map, hq, ← e]; rfl
    have := nodup_idx hn hc1 hw1
    omega
theorem er_in {L : List (Nat × Nat)} {j : Nat} {w : Nat × Nat} (hj : L[j]? = some w) : ∀ c ∈ L, c.1 = w.1 ∨ c ∈ L.eraseIdx j := by
  intro c hcm
  obtain ⟨q, hq⟩ := List.getElem?_of_mem hcm
  by_cases hqj : q = j
  · subst hqj
    rw [hj] at hq
    cases hq
    exact Or.inl rfl
  · refine Or.inr ?_
    by_cases hlt : q < j
    · exact List.mem_of_getElem? (i := q) (by rw [List.getElem?_eraseIdx, if_pos hlt]; exact hq)
    · exact List.mem_of_getElem? (i := q - 1) (by rw [List.getElem?_eraseIdx, if_neg (by omega), show q - 1 + 1 = q by omega]; exact hq)
theorem pl_none' {L : List (Nat × Nat)} {u : Nat} (h : pl L u = none) : ∀ c ∈ L, c.1 ≠ u := fun c hc e => by
  unfold pl at h
  rw [List.findIdx?_eq_none_iff] at h
  have := h c hc
  simp [e] at this
theorem bo_8 {nr u : Nat} (hn : nr < 256) (hu : u < 256) (h : bo nr 8 u = 8) : u = nr := by
  unfold bo at h
  have h2 : 8 ≤ sam nr u := by split at h <;> omega
  have := (sam_ge hn hu (Nat.le_refl 8)).mp h2
  simpa using this.symm
section RSEE
variable {G : mm_M} {m N i nr st now u : Nat} {ids : List Nat} {x1 x2 : Int32}
theorem r_put {J : Nat → Nat → Int32} {s k x : Nat} {bs : List Bk} {b : Bk} {L : List (Nat × Nat)} (h : sM G m) (hi : rid J m ids) (hi12 : i < ids.length) (hN : 400 ≤ N) (h1 : x1.toInt = (i : Int)) (h2 : x2.toInt = ((ix ids u : Nat) : Int)) (hu : u ∈ ids) (hunr : u ≠ nr) (hc : (J m 0).toInt = (now : Int)) (hst : (J m 2).toInt = (st : Int)) (hs2 : st < 100000) (ht : rtb J m i ids nr s bs st) (hx : (ordr nr s)[k]? = some x) (hb : bs[k]? = some b) (hbo : bo nr s u = x) (hsub : L.Sublist b.2.2.2) (hin : ∀ c ∈ b.2.2.2, c.1 = u ∨ c ∈ L) (hne : ∀ c ∈ L, c.1 ≠ u) (hl : L.length < 3) : ∃ J', pX7_putLast_0 N m (mm_w G J) x1 x2 = some (mm_w G J', ()) ∧ rtb J' m i ids nr s (bs.set k (b.1, b.2.1, now, L ++ [(u, 0)])) (st + 1) ∧ (J' m 2).toInt = ((st + 1 : Nat) : Int) ∧ frs J J' m i := by
  have h12 := hi.2.1
  obtain ⟨a1, a2, a3⟩ := ix_mem hi.2.2.1 hu
  have hix := zi_12i h1 h2 (by omega) (by omega)
  have hxs := ordr_mem.mp (List.mem_of_getElem? hx)
  have hs8 := ht.1.1
  generalize hJ4 : js (js (js (js J (m + 3) (12 * i + ix ids u) 1) (m + 5) (12 * i + ix ids u) 0) m 2 (J m 2 + 1)) (m + 4) (12 * i + ix ids u) (J m 2 + 1) = J4
  have f4 : ∀ z j, (z ≠ m ∨ j ≠ 2) → ((z ≠ m + 3 ∧ z ≠ m + 4 ∧ z ≠ m + 5) ∨ j ≠ 12 * i + ix ids u) → J4 z j = J z j := fun z j z1 z2 => by rw [← hJ4, js_ne _ (by omega), js_ne _ z1, js_ne _ (by omega), js_ne _ (by omega)]
  have hid := (hi.2.2.2 _ _ a3).1
  have hb4 := r_bo (N := N) (J := J4) (i := i) (nr := nr) (s := s) (c := u) (x := x1) (y := J4 (m + 1) (ix ids u)) h (by omega) h1 (by rw [f4 _ _ (by omega) (by omega)]; exact ht.2.1.1.1) (by rw [f4 _ _ (by omega) (by omega)]; exact ht.2.1.2.1.1) hs8 (by rw [f4 _ _ (by omega) (by omega)]; exact hid) hN
  rw [hbo] at hb4
  have hxI := zi_ofNat (n := x) (by omega)
  have hprog : pX7_putLast_0 N m (mm_w G J) x1 x2 = some (mm_w G (js J4 (m + 7) (9 * i + x) (J m 0)), ()) := by
    unfold pX7_putLast_0
    rw [gr_member h, w_nn, si_member h hix (by omega) (Or.inr rfl), gr_misses h, w_nn, si_misses h hix (by omega), w_gI h.1, js_ne (a := m + 5) (b := m) _ (Or.inl (by omega)), js_ne (a := m + 3) (b := m) _ (Or.inl (by omega)), w_pI h.1, gr_stamp h, w_gI h.1, js_same, w_nn, si_stamp h hix (by omega), hJ4, gr_id h, w_nn, ai_id h h2 (by omega), w_is h.1, hb4, w_cl, gr_touched h, w_gI h.1, f4 m 0 (by omega) (by omega), w_nn, si_touched h (zi_9i h1 hxI (by omega) (by omega)) (by omega)]
  refine ⟨_, hprog, ?_, ?_, fun z j z1 z2 z3 z4 => by rw [js_ne _ (by omega), f4 z j z1 (by omega)]⟩
  · refine rtb_put (v := J m 2 + 1) (w := J m 0) hi.2.2.1 h12 ht hx hb hu hbo hunr hsub hin hne hl ?_ ?_ ?_ ?_ ?_ (zi_inc hst (by omega)) ?_ hc
    · rw [js_ne _ (Or.inl (by omega)), f4 _ _ (by omega) (by omega)]
    · rw [js_ne _ (Or.inl (by omega)), f4 _ _ (by omega) (by omega)]
    · intro j hj
      rw [js_ne _ (Or.inl (by omega))]
      by_cases hjx : j = ix ids u
      · rw [if_pos hjx, hjx, ← hJ4, js_ne _ (Or.inl (by omega)), js_ne _ (Or.inl (by omega)), js_ne _ (Or.inl (by omega)), js_same]
      · rw [if_neg hjx, f4 _ _ (by omega) (by omega)]
    · intro j hj
      rw [js_ne _ (Or.inl (by omega))]
      by_cases hjx : j = ix ids u
      · rw [if_pos hjx, hjx, ← hJ4, js_ne _ (Or.inl (by omega)), js_ne _ (Or.inl (by omega)), js_same]
      · rw [if_neg hjx, f4 _ _ (by omega) (by omega)]
    · intro j hj
      rw [js_ne _ (Or.inl (by omega))]
      by_cases hjx : j = ix ids u
      · rw [if_pos hjx, hjx, ← hJ4, js_same]
      · rw [if_neg hjx, f4 _ _ (by omega) (by omega)]
    · intro y hy
      by_cases hyx : y = x
      · rw [if_pos hyx, hyx, js_same]
      · rw [if_neg hyx, js_ne _ (Or.inr (by omega)), f4 _ _ (by omega) (by omega)]
  · rw [js_ne _ (Or.inl (by omega)), ← hJ4, js_ne _ (Or.inl (by omega)), js_same]
    exact zi_inc hst (by omega)
theorem r_see_l {kx : mm_M → Int32 → Int32 → Int32 → Option (mm_M × Unit)} (h : sM G m) (hi12 : i < ids.length) (hN : 400 ≤ N) (h1 : x1.toInt = (i : Int)) (h2 : x2.toInt = ((ix ids u : Nat) : Int)) (hu : u ∈ ids) (hunr : u ≠ nr) (h256 : ∀ u ∈ ids, u < 256) : ∀ (r n t s : Nat) (y : Int32) (J : Nat → Nat → Int32) (bs : List Bk), y.toInt = (t : Int) → t + r ≤ 8 → s + r = 8 → r < n → rid J m ids → rtb J m i ids nr s bs st → ∃ J' s', pX7_see_36 N m kx n (mm_w G J) x1 x2 (Int32.ofNat (bo nr s u)) y = kx (mm_w G J') x1 x2 (Int32.ofNat (bo nr s' u)) ∧ rtb J' m i ids nr s' (spl r bs u nr) st ∧ (∀ v, v ∈ cns (spl r bs u nr) ↔ v ∈ cns bs) ∧ frs J J' m i ∧ J' m 2 = J m 2 := by
  intro r
  induction r with
  | zero =>
    intro n t s y J bs hy ht hs hn hi hr
    obtain ⟨n, rfl⟩ : ∃ m, n = m + 1 := ⟨n - 1, by omega⟩
    have h12 := hi.2.1
    have h8 : s = 8 := by omega
    subst h8
    have hle := bo_le nr 8 u
    have hbn : bo nr 8 u ≠ 8 := fun e => hunr (bo_8 hr.2.1.1.2 (h256 u hu) e)
    refine ⟨J, 8, ?_, hr, fun v => Iff.rfl, frs.refl, rfl⟩
    show pX7_see_36_b N m _ kx _ x1 x2 _ y = _
    unfold pX7_see_36_b
    rw [if_neg (by rw [zi_le, zi_9, hy]; omega), gr_splits h, w_nn, ai_splits h h1 (by omega), if_neg (by rw [zi_eq, zi_ofNat (by omega), hr.2.1.2.1.1]; omega)]
  | succ r ih =>
    intro n t s y J bs hy ht hs hn hi hr
    obtain ⟨n, rfl⟩ : ∃ m, n = m + 1 := ⟨n - 1, by omega⟩
    have h12 := hi.2.1
    obtain ⟨a1, a2, a3⟩ := ix_mem hi.2.2.1 hu
    have hle := bo_le nr s u
    have hk := rng_lt (bs := bs) u (tbk_len hr.1).1
    have hb := bg_at hk
    have hx := rng_bo hr.1.2.1 hr.1.1 hr.2.1.1.2 (h256 u hu)
    have hxI := zi_ofNat (n := bo nr s u) (by omega)
    have hheld := rtb_held hi.2.2.1 h256 hr hx hb
    have hl3 := (hr.1.2.2 _ _ _ hx hb).2.1
    have hown := tbk_own hr.1 hr.2.1.1.2 hx hb
    have hspl : spl (r + 1) bs u nr = if 3 ≤ (bg bs (rng bs u)).2.2.2.length ∧ bo nr s u = s then spl r (bsp bs (rng bs u) (bg bs (rng bs u))) u nr else bs := by
      show (match bs[rng bs u]? with | some b => if 3 ≤ b.2.2.2.length ∧ b.1 ≤ nr ∧ nr < b.1 + b.2.1 then spl r (bsp bs (rng bs u) b) u nr else bs | none => bs) = _
      rw [hb]
      dsimp only
      by_cases hq : 3 ≤ (bg bs (rng bs u)).2.2.2.length ∧ bo nr s u = s
      · rw [if_pos hq, if_pos ⟨hq.1, hown.mpr hq.2⟩]
      · rw [if_neg hq, if_neg (fun e => hq ⟨e.1, hown.mp e.2⟩)]
    rw [hspl]
    show ∃ J' s', pX7_see_36_b N m _ kx _ x1 x2 _ y = _ ∧ _
    unfold pX7_see_36_b
    rw [if_neg (by rw [zi_le, zi_9, hy]; omega), gr_splits h, w_nn, ai_splits h h1 (by omega)]
    by_cases hxs : bo nr s u = s
    · rw [if_pos (by rw [zi_eq, hxI, hr.2.1.2.1.1, hxs]), w_is h.1, r_held h hi hr.2.1 (by omega) hN h1 hxI (by omega), hheld, w_cl]
      by_cases h3 : 3 ≤ (bg bs (rng bs u)).2.2.2.length
      · have hx9 := zi_9i h1 hxI (by omega) (by omega)
        have hx10 : ((((9 : Int32) * x1) + Int32.ofNat (bo nr s u)) + 1).toInt = ((9 * i + (s + 1) : Nat) : Int) := by rw [zi_inc hx9 (by omega), hxs]; rfl
        rw [if_neg (by rw [zi_lt, zi_3, zi_ofNat (by omega)]; omega), if_pos ⟨h3, hxs⟩, gr_touched h, gr_touched h, w_nn, ai_touched h hx9 (by omega), w_nn, si_touched h hx10 (by omega), gr_splits h, gr_splits h, w_nn, ai_splits h h1 (by omega), js_ne (a := m + 7) (b := m + 6) _ (Or.inl (by omega)), w_nn, si_splits h h1 (by omega)]
        rw [hxs] at hx
        have hsp := rtb_split (v := J (m + 7) (9 * i + bo nr s u)) (w := J (m + 6) i + 1) h256 hr (by omega) hx hb (by rw [hxs]; exact (hr.2.2 _ _ _ hx hb).1) (zi_inc hr.2.1.2.1.1 (by omega))
        generalize hJ1 : js (js J (m + 7) (9 * i + (s + 1)) (J (m + 7) (9 * i + bo nr s u))) (m + 6) i (J (m + 6) i + 1) = J1 at hsp
        have f1 : ∀ z j, (z ≠ m + 6 ∨ j ≠ i) → (z ≠ m + 7 ∨ j < 9 * i ∨ 9 * i + 9 ≤ j) → J1 z j = J z j := fun z j z1 z2 => by rw [← hJ1, js_ne _ z1, js_ne _ (by omega)]
        have hi1 := rid_congr (J' := J1) hi (f1 _ _ (by omega) (by omega)) (fun _ => f1 _ _ (by omega) (by omega))
        have hid := (hi1.2.2.2 _ _ a3).1
        rw [gr_id h, w_nn, ai_id h h2 (by omega), w_is h.1, r_bo h (by omega) h1 hsp.2.1.1.1 hsp.2.1.2.1.1 hsp.1.1 hid hN, w_cl]
        obtain ⟨J', s', g1, g2, g3, g4, g5⟩ := ih n (t + 1) (s + 1) (y + 1) J1 _ (zi_inc hy (by omega)) (by omega) (by omega) (by omega) hi1 hsp
        exact ⟨J', s', g1, g2, fun v => (g3 v).trans (cns_bsp hb), fun z j z1 z2 z3 z4 => by rw [g4 z j z1 z2 z3 z4, f1 z j z3 z4], by rw [g5, f1 _ _ (by omega) (by omega)]⟩
      · rw [if_pos (by rw [zi_lt, zi_3, zi_ofNat (by omega)]; omega), if_neg (fun e => h3 e.1)]
        exact ⟨J, s, rfl, hr, fun v => Iff.rfl, frs.refl, rfl⟩
    · rw [if_neg (by rw [zi_eq, hxI, hr.2.1.2.1.1]; omega), if_neg (fun e => hxs e.2)]
      exact ⟨J, s, rfl, hr, fun v => Iff.rfl, frs.refl, rfl⟩
theorem r_see_o {J : Nat → Nat → Int32} {s k x : Nat} {bs : List Bk} {b : Bk} {x3 : Int32} {kx : mm_M → Option (mm_M × Unit)} (h : sM G m) (hi : rid J m ids) (hi12 : i < ids.length) (hN : 400 ≤ N) (h1 : x1.toInt = (i : Int)) (h3 : x3.toInt = (x : Int)) (h256 : ∀ u ∈ ids, u < 256) (ht : rtb J m i ids nr s bs st) (hx : (ordr nr s)[k]? = some x) (hb : bs[k]? = some b) (hl : b.2.2.2.length = 3) : ∀ (r n q : Nat) (z : Int32), z.toInt = (q : Int) → q + r = 3 → r < n → pX7_see_139 N m kx n (mm_w G J) x1 x2 x3 z = match (b.2.2.2.drop q).findIdx? (fun p => decide (2 ≤ p.2)) with | some j => (q_is (mm_w G (js J (m + 3) (12 * i + ix ids (b.2.2.2.getD (j + q) (0, 0)).1) 0)) m 8 <| q_cl (pX7_putLast_0 N m (mm_w G (js J (m + 3) (12 * i + ix ids (b.2.2.2.getD (j + q) (0, 0)).1) 0)) x1 x2) fun G _ => some (G, ())) | none => kx (mm_w G J) := by
  have h12 := hi.2.1
  have hxs := ordr_mem.mp (List.mem_of_getElem? hx)
  have hs8 := ht.1.1
  intro r
  induction r with
  | zero =>
    intro n q z hz hq hn
    obtain ⟨n, rfl⟩ : ∃ m, n = m + 1 := ⟨n - 1, by omega⟩
    show pX7_see_139_b N m _ kx _ x1 x2 x3 z = _
    unfold pX7_see_139_b
    rw [if_pos (by rw [zi_le, zi_3, hz]; omega), List.drop_eq_nil_of_le (by omega)]
    rfl
  | succ r ih =>
    intro n q z hz hq hn
    obtain ⟨n, rfl⟩ : ∃ m, n = m + 1 := ⟨n - 1, by omega⟩
    have hlt : q < b.2.2.2.length := by omega
    have hqs := List.getElem?_eq_getElem hlt
    have hm : b.2.2.2[q] ∈ b.2.2.2 := List.getElem_mem hlt
    have hin := (ht.1.2.2 _ _ _ hx hb).2.2 _ hm
    obtain ⟨a1, a2, a3⟩ := ix_mem hi.2.2.1 hin.2.1
    have hmis := ((ht.2.2 _ _ _ hx hb).2.1 _ hm).1
    have hIx := oI_some (n := ix ids b.2.2.2[q].1) (by omega)
    have go := ih n (q + 1) (z + 1) (zi_inc hz (by omega)) (by omega) (by omega)
    show pX7_see_139_b N m _ kx _ x1 x2 x3 z = _
    unfold pX7_see_139_b
    rw [if_neg (by rw [zi_le, zi_3, hz]; omega), w_is h.1, r_ord h hi ht.2.1 (by omega) hN h1 h3 (by omega) hz, rtb_ord hi.2.2.1 h256 ht hx hb, hqs, Option.map_some, w_cl, if_neg (by rw [zi_lt, hIx, zi_0]; omega), gr_misses h, w_nn, ai_misses h (zi_12i h1 hIx (by omega) (by omega)) (by omega), List.drop_eq_getElem_cons hlt, List.findIdx?_cons]
    by_cases h2 : 2 ≤ b.2.2.2[q].2
    · rw [if_neg (by rw [zi_lt, hmis, zi_2]; omega), if_pos (decide_eq_true h2), gr_member h, w_nn, si_member h (zi_12i h1 hIx (by omega) (by omega)) (by omega) (Or.inl rfl)]
      dsimp only
      rw [Nat.zero_add, List.getD_eq_getElem?_getD, hqs, Option.getD_some]
    · rw [if_pos (by rw [zi_lt, hmis, zi_2]; omega), if_neg (fun e => h2 (of_decide_eq_true e)), go]
      cases (b.2.2.2.drop (q + 1)).findIdx? (fun p => decide (2 ≤ p.2)) with
      | none => rfl
      | some j =>
        simp only [Option.map_some]
        rw [show j + (q + 1) = j + 1 + q by omega]
theorem r_see {J : Nat → Nat → Int32} {s : Nat} {bs : List Bk} (h : sM G m) (hi : rid J m ids) (hi12 : i < ids.length) (hN : 400 ≤ N) (h1 : x1.toInt = (i : Int)) (h2 : x2.toInt = ((ix ids u : Nat) : Int)) (hu : u ∈ ids) (hunr : u ≠ nr) (hc : (J m 0).toInt = (now : Int)) (hst : (J m 2).toInt = (st : Int)) (hs2 : st < 100000) (ht : rtb J m i ids nr s bs st) : ∃ J' s' st', pX7_see_0 N m (mm_w G J) x1 x2 = some (mm_w G J', ()) ∧ rtb J' m i ids nr s' (seeB bs nr u now) st' ∧ (J' m 2).toInt = (st' : Int) ∧ (st ≤ st' ∧ st' ≤ st + 1) ∧ frs J J' m i := by
  have h12 := hi.2.1
  have h256 : ∀ u ∈ ids, u < 256 := fun v hv => by
    obtain ⟨j, hj⟩ := List.getElem?_of_mem hv
    exact (hi.2.2.2 j v hj).2
  obtain ⟨a1, a2, a3⟩ := ix_mem hi.2.2.1 hu
  have hk := rng_lt (bs := bs) u (tbk_len ht.1).1
  have hb := bg_at hk
  have hx := rng_bo ht.1.2.1 ht.1.1 ht.2.1.1.2 (h256 u hu)
  have hmem := ht.2.1.2.2 (ix ids u) (by omega)
  have hmi := mB_iff (ids := ids) (bs := bs) _ a1
  rw [a2, tbk_at ht.1 ht.2.1.1.2 (h256 u hu)] at hmi
  unfold pX7_see_0 seeB
  rw [if_neg hunr, gr_member h, w_nn, ai_member h (zi_12i h1 h2 (by omega) (by omega)) (by omega)]
  cases hp : pl (bg bs (rng bs u)).2.2.2 u with
  | some j =>
    obtain ⟨p, p1, p2, p3⟩ := pl_some hp
    have hM := hmi.mpr ⟨p, List.mem_of_getElem? p1, p2⟩
    rw [hM] at hmem
    obtain ⟨t1, t2, t3⟩ := ht.1.2.2 _ _ _ hx hb
    obtain ⟨J', g1, g2, g3, g4⟩ := r_put (N := N) (L := (bg bs (rng bs u)).2.2.2.eraseIdx j) h hi hi12 hN h1 h2 hu hunr hc hst hs2 ht hx hb rfl (List.eraseIdx_sublist _ _) (fun c hc => by have := er_in p1 c hc; rw [p2] at this; exact this) (fun c hc => by have := er_ne t1 p1 c hc; rw [p2] at this; exact this) (by rw [List.length_eraseIdx_of_lt p3]; omega)
    rw [if_neg (by rw [zi_eq, hmem, zi_0]; decide), w_is h.1, g1, w_cl]
    exact ⟨J', s, st + 1, rfl, g2, g3, ⟨by omega, by omega⟩, g4⟩
  | none =>
    have hM : mB ids bs (ix ids u) = false := by
      cases e : mB ids bs (ix ids u) with
      | false => rfl
      | true =>
        obtain ⟨c, c1, c2⟩ := hmi.mp e
        exact absurd c2 (pl_none' hp c c1)
    rw [hM] at hmem
    have hid := (hi.2.2.2 _ _ a3).1
    rw [if_pos (by rw [zi_eq, hmem, zi_0]; decide), gr_id h, w_nn, ai_id h h2 (by omega), w_is h.1, r_bo h (by omega) h1 ht.2.1.1.1 ht.2.1.2.1.1 ht.1.1 hid hN, w_cl]
    have hs8 := ht.1.1
    have hlen := shp_len ht.1.2.1
    obtain ⟨J1, s1, g1, g2, g3, g4, g5⟩ := r_see_l (N := N) (kx := fun (G : mm_M) (x1 : Int32) (x2 : Int32) (x3 : Int32) => q_is G m 8 <| q_cl (pX7_held_0 N m G x1 x3) fun G v122_30 => if (3 : Int32) ≤ v122_30 then pX7_see_139 N m (fun (G : mm_M) => some (G, ())) N G x1 x2 x3 (0 : Int32) else q_is G m 8 <| q_cl (pX7_putLast_0 N m G x1 x2) fun G _ => some (G, ())) h hi12 hN h1 h2 hu hunr h256 (8 - s) N 0 s 0 J bs zi_0 (by omega) (by omega) (by omega) hi ht
    rw [g1, show 9 - bs.length = 8 - s by omega]
    dsimp only
    generalize spl (8 - s) bs u nr = cs at g2 g3
    have hi1 := rid_congr (J' := J1) hi (g4 _ _ (by omega) (by omega) (by omega) (by omega)) (fun _ => g4 _ _ (by omega) (by omega) (by omega) (by omega))
    have hk1 := rng_lt (bs := cs) u (tbk_len g2.1).1
    have hb1 := bg_at hk1
    have hx1 := rng_bo g2.1.2.1 g2.1.1 g2.2.1.1.2 (h256 u hu)
    obtain ⟨t1, t2, t3⟩ := g2.1.2.2 _ _ _ hx1 hb1
    have hle1 := bo_le nr s1 u
    have hs18 := g2.1.1
    have hxI := zi_ofNat (n := bo nr s1 u) (by omega)
    have hno : ∀ c ∈ (bg cs (rng cs u)).2.2.2, c.1 ≠ u := fun c hc e => by
      have : u ∈ cns cs := cns_iff.mpr ⟨_, _, hb1, c, hc, e⟩
      obtain ⟨d, d1, d2⟩ := (tbk_at ht.1 ht.2.1.1.2 (h256 u hu)).mp ((g3 u).mp this)
      exact pl_none' hp d d1 d2
    have hc1 : (J1 m 0).toInt = (now : Int) := by rw [g4 _ _ (by omega) (by omega) (by omega) (by omega)]; exact hc
    have hst1 : (J1 m 2).toInt = (st : Int) := by rw [g5]; exact hst
    rw [w_is h.1, r_held h hi1 g2.2.1 (by omega) hN h1 hxI (by omega), rtb_held hi.2.2.1 h256 g2 hx1 hb1, w_cl]
    unfold mkr
    by_cases h3 : (bg cs (rng cs u)).2.2.2.length < 3
    · rw [if_pos h3, if_pos h3, if_neg (by rw [zi_le, zi_3, zi_ofNat (by omega)]; omega), w_is h.1]
      obtain ⟨J2, q1, q2, q3, q4⟩ := r_put (N := N) (L := (bg cs (rng cs u)).2.2.2) h hi1 hi12 hN h1 h2 hu hunr hc1 hst1 hs2 g2 hx1 hb1 rfl (List.Sublist.refl _) (fun c hc => Or.inr hc) hno h3
      rw [q1, w_cl]
      exact ⟨J2, s1, st + 1, rfl, q2, q3, ⟨by omega, by omega⟩, g4.trans q4⟩
    · rw [if_neg h3, if_pos (by rw [zi_le, zi_3, zi_ofNat (by omega)]; omega), r_see_o (b := bg cs (rng cs u)) h hi1 hi12 hN h1 hxI h256 g2 hx1 hb1 (by omega) 3 N 0 0 zi_0 (by omega) (by omega), List.drop_zero]
      cases hf : (bg cs (rng cs u)).2.2.2.findIdx? (fun p => decide (2 ≤ p.2)) with
      | none =>
        dsimp only
        rw [if_neg h3]
        have hset : cs.set (rng cs u) ((bg cs (rng cs u)).1, (bg cs (rng cs u)).2.1, (bg cs (rng cs u)).2.2.1, (bg cs (rng cs u)).2.2.2) = cs := by
          apply List.ext_getElem?
          intro q
          rw [List.getElem?_set]
          by_cases hq : rng cs u = q
          · subst hq
            rw [if_pos rfl, if_pos hk1, hb1]
          · rw [if_neg hq]
        rw [hset]
        exact ⟨J1, s1, st, rfl, g2, hst1, ⟨by omega, by omega⟩, g4⟩
      | some j =>
        obtain ⟨hj1, -, -⟩ := List.findIdx?_eq_some_iff_getElem.mp hf
        have hjs := List.getElem?_eq_getElem hj1
        dsimp only
        have hg : (bg cs (rng cs u)).2.2.2.getD (j + 0) (0, 0) = (bg cs (rng cs u)).2.2.2[j] := by rw [List.getD_eq_getElem?_getD, show j + 0 = j from rfl, hjs, Option.getD_some]
        rw [if_pos (by rw [List.length_eraseIdx_of_lt hj1]; omega), hg, w_is h.1]
        have hdr := rtb_drop hi.2.2.1 g2 hx1 hb1 hjs
        generalize (bg cs (rng cs u)).2.2.2[j] = w at hjs hdr
        obtain ⟨w1, w2, w3⟩ := t3 w (List.mem_of_getElem? hjs)
        have hwx := (ix_mem hi.2.2.1 w2).1
        have fd : ∀ z q, (z ≠ m + 3 ∨ q < 12 * i ∨ 12 * i + 12 ≤ q) → js J1 (m + 3) (12 * i + ix ids w.1) 0 z q = J1 z q := fun z q hz => js_ne _ (by omega)
        have hb2 : (cs.set (rng cs u) ((bg cs (rng cs u)).1, (bg cs (rng cs u)).2.1, (bg cs (rng cs u)).2.2.1, (bg cs (rng cs u)).2.2.2.eraseIdx j))[rng cs u]? = some ((bg cs (rng cs u)).1, (bg cs (rng cs u)).2.1, (bg cs (rng cs u)).2.2.1, (bg cs (rng cs u)).2.2.2.eraseIdx j) := by
          rw [List.getElem?_set, if_pos rfl, if_pos hk1]
        obtain ⟨J2, q1, q2, q3, q4⟩ := r_put (N := N) (L := (bg cs (rng cs u)).2.2.2.eraseIdx j) h (rid_congr hi1 (fd _ _ (by omega)) (fun _ => fd _ _ (by omega))) hi12 hN h1 h2 hu hunr (by rw [fd _ _ (by omega)]; exact hc1) (by rw [fd _ _ (by omega)]; exact hst1) hs2 hdr hx1 hb2 rfl (List.Sublist.refl _) (fun c hc => Or.inr hc) (fun c hc => hno c ((List.eraseIdx_sublist _ _).subset hc)) (by rw [List.length_eraseIdx_of_lt hj1]; omega)
        rw [q1, w_cl]
        rw [List.set_set] at q2
        exact ⟨J2, s1, st + 1, rfl, q2, q3, ⟨by omega, by omega⟩, fun z q z1 z2 z3 z4 => by rw [q4 z q z1 z2 z3 z4, fd z q (by omega), g4 z q z1 z2 z3 z4]⟩
end RSEE
