/-! the reference's view of a table -/
def mB (ids : List Nat) (bs : List Bk) (j : Nat) : Bool := decide (j < ids.length ∧ idg ids j ∈ cns bs)
def rtb (J : Nat → Nat → Int32) (m i : Nat) (ids : List Nat) (nr s : Nat) (bs : List Bk) (st : Nat) : Prop := tbk ids nr s bs ∧ rt J m i nr s (mB ids bs) ∧ ∀ (k x : Nat) (b : Bk), (ordr nr s)[k]? = some x → bs[k]? = some b → (J (m + 7) (9 * i + x)).toInt = (b.2.2.1 : Int) ∧ (∀ c ∈ b.2.2.2, (J (m + 5) (12 * i + ix ids c.1)).toInt = (c.2 : Int) ∧ (J (m + 4) (12 * i + ix ids c.1)).toInt ≤ (st : Int)) ∧ b.2.2.2.Pairwise (fun c d => (J (m + 4) (12 * i + ix ids c.1)).toInt < (J (m + 4) (12 * i + ix ids d.1)).toInt)
section RTB
variable {J J' : Nat → Nat → Int32} {m i nr s k x st : Nat} {ids : List Nat} {bs : List Bk} {b : Bk}
theorem rtb_mem (hn : ids.Nodup) (h256 : ∀ u ∈ ids, u < 256) (h : rtb J m i ids nr s bs st) (hx : (ordr nr s)[k]? = some x) (hb : bs[k]? = some b) (j : Nat) : j ∈ b.2.2.2.map (fun c => ix ids c.1) ↔ (j < ids.length ∧ hq ids nr s x (mB ids bs) j = true) := by
  obtain ⟨ht, hr, hc⟩ := h
  obtain ⟨t1, t2, t3⟩ := ht.2.2 k x b hx hb
  unfold hq mB
  constructor
  · intro hj
    obtain ⟨c, c1, rfl⟩ := List.mem_map.mp hj
    obtain ⟨d1, d2, d3⟩ := t3 c c1
    obtain ⟨a1, a2, -⟩ := ix_mem hn d2
    refine ⟨a1, ?_⟩
    rw [a2, Bool.and_eq_true]
    exact ⟨decide_eq_true ⟨a1, cns_iff.mpr ⟨k, b, hb, c, c1, rfl⟩⟩, decide_eq_true d1⟩
  · intro ⟨hj, hq⟩
    rw [Bool.and_eq_true] at hq
    have h1 := of_decide_eq_true hq.1
    have h2 := of_decide_eq_true hq.2
    have h3 := h256 _ (tbk_ids ht _ h1.2).1
    obtain ⟨c, c1, c2⟩ := (tbk_at ht hr.1.2 h3).mp h1.2
    have hrb := rng_bo ht.2.1 ht.1 hr.1.2 h3
    rw [h2] at hrb
    have e := ordr_inj hrb hx
    rw [e] at c1
    have hb2 := bg_at (bs := bs) (k := k) (List.getElem?_eq_some_iff.mp hb).1
    rw [hb] at hb2
    cases hb2
    exact List.mem_map.mpr ⟨c, c1, by rw [c2, ix_idg hn hj]⟩
theorem rtb_held (hn : ids.Nodup) (h256 : ∀ u ∈ ids, u < 256) (h : rtb J m i ids nr s bs st) (hx : (ordr nr s)[k]? = some x) (hb : bs[k]? = some b) : cn (hq ids nr s x (mB ids bs)) 0 ids.length = b.2.2.2.length := by
  rw [cn_len (B := b.2.2.2.map (fun c => ix ids c.1)) (rtb_mem hn h256 h hx hb), List.length_map]
  obtain ⟨t1, t2, t3⟩ := h.1.2.2 k x b hx hb
  unfold List.Nodup at t1 ⊢
  rw [List.pairwise_map] at t1 ⊢
  refine List.Pairwise.imp_of_mem (fun {c d} hc hd hne e => hne ?_) t1
  exact ix_inj hn (t3 c hc).2.1 (t3 d hd).2.1 e
theorem rtb_ord (hn : ids.Nodup) (h256 : ∀ u ∈ ids, u < 256) (h : rtb J m i ids nr s bs st) (hx : (ordr nr s)[k]? = some x) (hb : bs[k]? = some b) (r : Nat) : nth (hq ids nr s x (mB ids bs)) (slt J m i) ids.length r = (b.2.2.2[r]?).map (fun c => ix ids c.1) := by
  rw [← List.getElem?_map]
  apply nth_eq (rtb_mem hn h256 h hx hb)
  · intro a _ c _ e
    unfold slt at e ⊢
    have := of_decide_eq_true e
    exact decide_eq_false (by omega)
  · rw [List.pairwise_map]
    exact ((h.2.2 k x b hx hb).2.2).imp (fun h => decide_eq_true h)
theorem rt_eq {M M' : Nat → Bool} (h : rt J m i nr s M) (he : ∀ j, j < 12 → M' j = M j) : rt J m i nr s M' := ⟨h.1, h.2.1, fun j hj => by rw [he j hj]; exact h.2.2 j hj⟩
theorem rtb_split {v w : Int32} (h256 : ∀ u ∈ ids, u < 256) (h : rtb J m i ids nr s bs st) (hs : s ≤ 7) (hk : (ordr nr s)[k]? = some s) (hb : bs[k]? = some b) (hv : v.toInt = (b.2.2.1 : Int)) (hw : w.toInt = ((s + 1 : Nat) : Int)) : rtb (js (js J (m + 7) (9 * i + (s + 1)) v) (m + 6) i w) m i ids nr (s + 1) (bsp bs k b) st := by
  obtain ⟨ht, hr, hc⟩ := h
  have fr : ∀ z j, z ≠ m + 7 → z ≠ m + 6 → js (js J (m + 7) (9 * i + (s + 1)) v) (m + 6) i w z j = J z j := fun z j z1 z2 => by rw [js_ne _ (Or.inl z2), js_ne _ (Or.inl z1)]
  refine ⟨tbk_bsp ht hr.1.2 h256 hs hb hk, ⟨⟨by rw [fr _ _ (by omega) (by omega)]; exact hr.1.1, hr.1.2⟩, ⟨by rw [js_same]; exact hw, by omega⟩, fun j hj => ?_⟩, fun k' x' b' hx' hb' => ?_⟩
  · rw [fr _ _ (by omega) (by omega), hr.2.2 j hj]
    have : mB ids (bsp bs k b) j = mB ids bs j := by
      unfold mB
      simp only [cns_bsp hb]
    rw [this]
  · rw [js_ne _ (Or.inl (by omega))]
    rcases (bsp_at ht hr.1.2 h256 hs hb hk).2 k' x' b' hx' hb' with ⟨k0, g1, g2, g3⟩ | ⟨g1, g2, g3, g4⟩
    · obtain ⟨a1, a2, a3⟩ := hc k0 x' b' g1 g2
      refine ⟨by rw [js_ne _ (Or.inr (by omega))]; exact a1, fun c hc => ?_, ?_⟩
      · rw [fr _ _ (by omega) (by omega), fr _ _ (by omega) (by omega)]
        exact a2 c hc
      · refine a3.imp (fun {c d} h => ?_)
        rw [fr _ _ (by omega) (by omega), fr _ _ (by omega) (by omega)]
        exact h
    · obtain ⟨a1, a2, a3⟩ := hc k s b hk hb
      refine ⟨?_, fun c hc => ?_, ?_⟩
      · rw [g2]
        rcases g1 with rfl | rfl
        · rw [js_ne _ (Or.inr (by omega))]; exact a1
        · rw [js_same]; exact hv
      · rw [fr _ _ (by omega) (by omega), fr _ _ (by omega) (by omega)]
        exact a2 c (g3.subset hc)
      · refine (List.Pairwise.sublist g3 a3).imp (fun {c d} h => ?_)
        rw [fr _ _ (by omega) (by omega), fr _ _ (by omega) (by omega)]
        exact h
theorem rtb_drop {j : Nat} {w : Nat × Nat} (hn : ids.Nodup) (h : rtb J m i ids nr s bs st) (hx : (ordr nr s)[k]? = some x) (hb : bs[k]? = some b) (hj : b.2.2.2[j]? = some w) : rtb (js J (m + 3) (12 * i + ix ids w.1) 0) m i ids nr s (bs.set k (b.1, b.2.1, b.2.2.1, b.2.2.2.eraseIdx j)) st := by
  obtain ⟨ht, hr, hc⟩ := h
  have hkl := (List.getElem?_eq_some_iff.mp hb).1
  obtain ⟨t1, t2, t3⟩ := ht.2.2 k x b hx hb
  have hsub : (b.2.2.2.eraseIdx j).Sublist b.2.2.2 := List.eraseIdx_sublist _ _
  have hwm := List.mem_of_getElem? hj
  have hne : ∀ c ∈ b.2.2.2.eraseIdx j, c.1 ≠ w.1 := by
    intro c hcm e
    obtain ⟨q, hq⟩ := List.getElem?_of_mem hcm
    rw [List.getElem?_eraseIdx] at hq
    have hw1 : (b.2.2.2.map Prod.fst)[j]? = some w.1 := by rw [List.getElem?_map, hj]; rfl
    split at hq
    · have hc1 : (b.2.2.2.map Prod.fst)[q]? = some w.1 := by rw [List.getElem?_map, hq, ← e]; rfl
      have := nodup_idx t1 hc1 hw1
      omega
    · have hc1 : (b.2.2.2.map Prod.fst)[q + 1]? = some w.1 := by rw [List.getElem?_map, hq, ← e]; rfl
      have := nodup_idx t1 hc1 hw1
      omega
  have hin : ∀ c ∈ b.2.2.2, c.1 = w.1 ∨ c ∈ b.2.2.2.eraseIdx j := by
    intro c hcm
    obtain ⟨q, hq⟩ := List.getElem?_of_mem hcm
    by_cases hqj : q = j
    · subst hqj
      rw [hj] at hq
      cases hq
      exact Or.inl rfl
    · refine Or.inr ?_
      by_cases hlt : q < j
      · exact List.mem_of_getElem? (i := q) (by rw [List.getElem?_eraseIdx, if_pos hlt]; exact hq)
      · exact List.mem_of_getElem? (i := q - 1) (by rw [List.getElem?_eraseIdx, if_neg (by omega), show q - 1 + 1 = q by omega]; exact hq)
  have fr : ∀ z j', z ≠ m + 3 → js J (m + 3) (12 * i + ix ids w.1) 0 z j' = J z j' := fun z j' z1 => js_ne _ (Or.inl z1)
  obtain ⟨w1, w2, w3⟩ := t3 w hwm
  obtain ⟨x1, x2, x3⟩ := ix_mem hn w2
  refine ⟨tbk_set ht hx hb ⟨List.Nodup.sublist (List.Sublist.map _ hsub) t1, Nat.le_trans hsub.length_le t2, fun c hcm => t3 c (hsub.subset hcm)⟩, ⟨⟨by rw [fr _ _ (by omega)]; exact hr.1.1, hr.1.2⟩, ⟨by rw [fr _ _ (by omega)]; exact hr.2.1.1, hr.2.1.2⟩, fun j' hj' => ?_⟩, fun k' x' b' hx' hb' => ?_⟩
  · have hmB : mB ids (bs.set k (b.1, b.2.1, b.2.2.1, b.2.2.2.eraseIdx j)) j' = if j' = ix ids w.1 then false else mB ids bs j' := by
      by_cases hjx : j' = ix ids w.1
      · rw [if_pos hjx]
        unfold mB
        apply decide_eq_false
        intro ⟨_, h2⟩
        rw [hjx, x2, cns_set hb] at h2
        rcases h2 with ⟨c, c1, c2⟩ | ⟨k2, a, k1, a1, c, c1, c2⟩
        · exact hne c c1 c2
        · obtain ⟨y, y1, -⟩ := tbk_x ht a1
          have := ((ht.2.2 k2 y a y1 a1).2.2 c c1).1
          rw [c2, w1] at this
          subst this
          exact k1 (ordr_inj y1 hx)
      · rw [if_neg hjx]
        unfold mB
        by_cases hjl : j' < ids.length
        · have : idg ids j' ∈ cns (bs.set k (b.1, b.2.1, b.2.2.1, b.2.2.2.eraseIdx j)) ↔ idg ids j' ∈ cns bs := by
            rw [cns_set hb, cns_iff]
            constructor
            · rintro (⟨c, c1, c2⟩ | ⟨k2, a, k1, a1, a2⟩)
              · exact ⟨k, b, hb, c, hsub.subset c1, c2⟩
              · exact ⟨k2, a, a1, a2⟩
            · intro ⟨k2, a, a1, c, c1, c2⟩
              by_cases hk2 : k2 = k
              · subst hk2
                rw [hb] at a1
                cases a1
                rcases hin c c1 with e | hcm
                · exact absurd (by rw [← e, c2, ix_idg hn hjl]) hjx
                · exact Or.inl ⟨c, hcm, c2⟩
              · exact Or.inr ⟨k2, a, hk2, a1, c, c1, c2⟩
          simp only [this]
        · rw [decide_eq_false (fun e => hjl e.1), decide_eq_false (fun e => hjl e.1)]
    rw [hmB]
    by_cases hjx : j' = ix ids w.1
    · rw [if_pos hjx, hjx, js_same]; rfl
    · rw [if_neg hjx, js_ne _ (Or.inr (by omega))]
      exact hr.2.2 j' hj'
  · rw [fr _ _ (by omega)]
    rw [List.getElem?_set] at hb'
    by_cases hkk : k = k'
    · subst hkk
      rw [if_pos rfl, if_pos hkl] at hb'
      cases hb'
      rw [hx] at hx'
      cases hx'
      obtain ⟨a1, a2, a3⟩ := hc k x b hx hb
      refine ⟨a1, fun c hcm => ?_, ?_⟩
      · rw [fr _ _ (by omega), fr _ _ (by omega)]
        exact a2 c (hsub.subset hcm)
      · refine (List.Pairwise.sublist hsub a3).imp (fun {c d} h => ?_)
        rw [fr _ _ (by omega), fr _ _ (by omega)]
        exact h
    · rw [if_neg hkk] at hb'
      obtain ⟨a1, a2, a3⟩ := hc k' x' b' hx' hb'
      refine ⟨a1, fun c hcm => ?_, ?_⟩
      · rw [fr _ _ (by omega), fr _ _ (by omega)]
        exact a2 c hcm
      · refine a3.imp (fun {c d} h => ?_)
        rw [fr _ _ (by omega), fr _ _ (by omega)]
        exact h
theorem rtb_put {u t : Nat} {L : List (Nat × Nat)} {v w : Int32} (hn : ids.Nodup) (h12 : ids.length ≤ 12) (h : rtb J m i ids nr s bs st) (hx : (ordr nr s)[k]? = some x) (hb : bs[k]? = some b) (hu : u ∈ ids) (hbo : bo nr s u = x) (hunr : u ≠ nr) (hsub : L.Sublist b.2.2.2) (hin : ∀ c ∈ b.2.2.2, c.1 = u ∨ c ∈ L) (hne : ∀ c ∈ L, c.1 ≠ u) (hl : L.length < 3) (h1 : J' (m + 1) i = J (m + 1) i) (h6 : J' (m + 6) i = J (m + 6) i) (h3 : ∀ j, j < 12 → J' (m + 3) (12 * i + j) = if j = ix ids u then 1 else J (m + 3) (12 * i + j)) (h5 : ∀ j, j < 12 → J' (m + 5) (12 * i + j) = if j = ix ids u then 0 else J (m + 5) (12 * i + j)) (h4 : ∀ j, j < 12 → J' (m + 4) (12 * i + j) = if j = ix ids u then v else J (m + 4) (12 * i + j)) (hv : v.toInt = ((st + 1 : Nat) : Int)) (h7 : ∀ y, y < 9 → J' (m + 7) (9 * i + y) = if y = x then w else J (m + 7) (9 * i + y)) (hw : w.toInt = (t : Int)) : rtb J' m i ids nr s (bs.set k (b.1, b.2.1, t, L ++ [(u, 0)])) (st + 1) := by
  obtain ⟨ht, hr, hc⟩ := h
  have hkl := (List.getElem?_eq_some_iff.mp hb).1
  obtain ⟨t1, t2, t3⟩ := ht.2.2 k x b hx hb
  obtain ⟨x1, x2, x3⟩ := ix_mem hn hu
  have hix : ∀ c ∈ L, ix ids c.1 < 12 ∧ ix ids c.1 ≠ ix ids u := fun c hcm => by
    have g := (t3 c (hsub.subset hcm)).2.1
    have := (ix_mem hn g).1
    exact ⟨by omega, fun e => hne c hcm (ix_inj hn g hu e)⟩
  have hs8 := ht.1
  refine ⟨tbk_set ht hx hb ⟨?_, ?_, fun c hcm => ?_⟩, ⟨⟨by rw [h1]; exact hr.1.1, hr.1.2⟩, ⟨by rw [h6]; exact hr.2.1.1, hr.2.1.2⟩, fun j' hj' => ?_⟩, fun k' x' b' hx' hb' => ?_⟩
  · rw [List.map_append]
    refine List.nodup_append.mpr ⟨List.Nodup.sublist (List.Sublist.map _ hsub) t1, by simp, fun a ha c hcm => ?_⟩
    obtain ⟨d, d1, d2⟩ := List.mem_map.mp ha
    simp at hcm
    rw [hcm, ← d2]
    exact hne d d1
  · rw [List.length_append]; simp only [List.length_cons, List.length_nil]; omega
  · rcases List.mem_append.mp hcm with hcm | hcm
    · exact t3 c (hsub.subset hcm)
    · simp at hcm
      rw [hcm]
      exact ⟨hbo, hu, hunr⟩
  · have hmB : mB ids (bs.set k (b.1, b.2.1, t, L ++ [(u, 0)])) j' = if j' = ix ids u then true else mB ids bs j' := by
      by_cases hjx : j' = ix ids u
      · rw [if_pos hjx]
        unfold mB
        apply decide_eq_true
        rw [hjx, x2]
        exact ⟨x1, (cns_set hb).mpr (Or.inl ⟨(u, 0), List.mem_append_right _ List.mem_cons_self, rfl⟩)⟩
      · rw [if_neg hjx]
        unfold mB
        by_cases hjl : j' < ids.length
        · have hneu : idg ids j' ≠ u := fun e => hjx (by rw [← e, ix_idg hn hjl])
          have : idg ids j' ∈ cns (bs.set k (b.1, b.2.1, t, L ++ [(u, 0)])) ↔ idg ids j' ∈ cns bs := by
            rw [cns_set hb, cns_iff]
            constructor
            · rintro (⟨c, c1, c2⟩ | ⟨k2, a, k1, a1, a2⟩)
              · rcases List.mem_append.mp c1 with c1 | c1
                · exact ⟨k, b, hb, c, hsub.subset c1, c2⟩
                · simp at c1
                  rw [c1] at c2
                  exact absurd c2.symm hneu
              · exact ⟨k2, a, a1, a2⟩
            · intro ⟨k2, a, a1, c, c1, c2⟩
              by_cases hk2 : k2 = k
              · subst hk2
                rw [hb] at a1
                cases a1
                rcases hin c c1 with e | hcm
                · exact absurd (c2.symm.trans e) hneu
                · exact Or.inl ⟨c, List.mem_append_left _ hcm, c2⟩
              · exact Or.inr ⟨k2, a, hk2, a1, c, c1, c2⟩
          simp only [this]
        · rw [decide_eq_false (fun e => hjl e.1), decide_eq_false (fun e => hjl e.1)]
    rw [hmB, h3 j' hj']
    by_cases hjx : j' = ix ids u
    · rw [if_pos hjx, if_pos hjx]; rfl
    · rw [if_neg hjx, if_neg hjx]
      exact hr.2.2 j' hj'
  · have hx8 := ordr_mem.mp (List.mem_of_getElem? hx')
    rw [h7 x' (by omega)]
    rw [List.getElem?_set] at hb'
    by_cases hkk : k = k'
    · subst hkk
      rw [if_pos rfl, if_pos hkl] at hb'
      cases hb'
      rw [hx] at hx'
      cases hx'
      obtain ⟨a1, a2, a3⟩ := hc k x b hx hb
      rw [if_pos rfl]
      refine ⟨hw, fun c hcm => ?_, ?_⟩
      · rcases List.mem_append.mp hcm with hcm | hcm
        · obtain ⟨q1, q2⟩ := hix c hcm
          rw [h5 _ q1, if_neg q2, h4 _ q1, if_neg q2]
          have := a2 c (hsub.subset hcm)
          exact ⟨this.1, by omega⟩
        · simp at hcm
          rw [hcm]
          dsimp only
          rw [h5 _ (by omega), if_pos rfl, h4 _ (by omega), if_pos rfl]
          exact ⟨rfl, by rw [hv]; exact Int.le_refl _⟩
      · refine List.pairwise_append.mpr ⟨?_, by simp, fun c hcm d hdm => ?_⟩
        · refine List.Pairwise.imp_of_mem (fun {c d} hcm hdm h => ?_) (List.Pairwise.sublist hsub a3)
          obtain ⟨q1, q2⟩ := hix c hcm
          obtain ⟨q3, q4⟩ := hix d hdm
          rw [h4 _ q1, if_neg q2, h4 _ q3, if_neg q4]
          exact h
        · simp at hdm
          rw [hdm]
          dsimp only
          obtain ⟨q1, q2⟩ := hix c hcm
          rw [h4 _ q1, if_neg q2, h4 _ (by omega), if_pos rfl, hv]
          have := (a2 c (hsub.subset hcm)).2
          omega
    · rw [if_neg hkk] at hb'
      obtain ⟨a1, a2, a3⟩ := hc k' x' b' hx' hb'
      have hxx : x' ≠ x := fun e => by
        subst e
        exact hkk (ordr_inj hx hx')
      have hiy : ∀ c ∈ b'.2.2.2, ix ids c.1 < 12 ∧ ix ids c.1 ≠ ix ids u := fun c hcm => by
        obtain ⟨g1, g2, g3⟩ := (ht.2.2 k' x' b' hx' hb').2.2 c hcm
        have := (ix_mem hn g2).1
        refine ⟨by omega, fun e => ?_⟩
        rw [ix_inj hn g2 hu e, hbo] at g1
        exact hxx g1.symm
      rw [if_neg hxx]
      refine ⟨a1, fun c hcm => ?_, ?_⟩
      · obtain ⟨q1, q2⟩ := hiy c hcm
        rw [h5 _ q1, if_neg q2, h4 _ q1, if_neg q2]
        have := a2 c hcm
        exact ⟨this.1, by omega⟩
      · refine List.Pairwise.imp_of_mem (fun {c d} hcm hdm h => ?_) a3
        obtain ⟨q1, q2⟩ := hiy c hcm
        obtain ⟨q3, q4⟩ := hiy d hdm
        rw [h4 _ q1, if_neg q2, h4 _ q3, if_neg q4]
        exact h
theorem rtb_congr (hn : ids.Nodup) (h12 : ids.length ≤ 12) (h : rtb J m i ids nr s bs st) (h1 : J' (m + 1) i = J (m + 1) i) (h6 : J' (m + 6) i = J (m + 6) i) (hj : ∀ j, j < 12 → J' (m + 3) (12 * i + j) = J (m + 3) (12 * i + j) ∧ J' (m + 4) (12 * i + j) = J (m + 4) (12 * i + j) ∧ J' (m + 5) (12 * i + j) = J (m + 5) (12 * i + j)) (h7 : ∀ y, y < 9 → J' (m + 7) (9 * i + y) = J (m + 7) (9 * i + y)) {st' : Nat} (hst : st ≤ st') : rtb J' m i ids nr s bs st' := by
  obtain ⟨ht, hr, hc⟩ := h
  have hs8 := ht.1
  refine ⟨ht, ⟨⟨by rw [h1]; exact hr.1.1, hr.1.2⟩, ⟨by rw [h6]; exact hr.2.1.1, hr.2.1.2⟩, fun j' hj' => by rw [(hj j' hj').1]; exact hr.2.2 j' hj'⟩, fun k' x' b' hx' hb' => ?_⟩
  have hx8 := ordr_mem.mp (List.mem_of_getElem? hx')
  obtain ⟨a1, a2, a3⟩ := hc k' x' b' hx' hb'
  have hiy : ∀ c ∈ b'.2.2.2, ix ids c.1 < 12 := fun c hcm => by
    have := (ix_mem hn ((ht.2.2 k' x' b' hx' hb').2.2 c hcm).2.1).1
    omega
  refine ⟨by rw [h7 x' (by omega)]; exact a1, fun c hcm => ?_, ?_⟩
  · rw [(hj _ (hiy c hcm)).2.2, (hj _ (hiy c hcm)).2.1]
    have := a2 c hcm
    exact ⟨this.1, by omega⟩
  · refine List.Pairwise.imp_of_mem (fun {c d} hcm hdm h => ?_) a3
    rw [(hj _ (hiy c hcm)).2.1, (hj _ (hiy d hdm)).2.1]
    exact h
end RTB
