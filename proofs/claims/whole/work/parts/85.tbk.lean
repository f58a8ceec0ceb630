/-! what a table keeps to -/
def tbk (ids : List Nat) (nr s : Nat) (bs : List Bk) : Prop := s ≤ 8 ∧ shp nr s bs ∧ ∀ (k x : Nat) (b : Bk), (ordr nr s)[k]? = some x → bs[k]? = some b → (b.2.2.2.map Prod.fst).Nodup ∧ b.2.2.2.length ≤ 3 ∧ ∀ c ∈ b.2.2.2, bo nr s c.1 = x ∧ c.1 ∈ ids ∧ c.1 ≠ nr
theorem tbk_x {ids : List Nat} {nr s k : Nat} {bs : List Bk} {b : Bk} (h : tbk ids nr s bs) (hb : bs[k]? = some b) : ∃ x, (ordr nr s)[k]? = some x ∧ x ≤ s ∧ b.1 = fst' nr s x ∧ b.2.1 = siz s x := by
  have hk := (List.getElem?_eq_some_iff.mp hb).1
  rw [shp_len h.2.1] at hk
  have hx := List.getElem?_eq_getElem (l := ordr nr s) (i := k) (by rw [ordr_len]; exact hk)
  refine ⟨_, hx, ordr_mem.mp (List.mem_of_getElem? hx), ?_⟩
  have e := shp_at h.2.1 hb
  rw [FZ_at hx] at e
  have e := Option.some.inj e
  exact ⟨(congrArg Prod.fst e).symm, (congrArg Prod.snd e).symm⟩
theorem tbk_b {ids : List Nat} {nr s k x : Nat} {bs : List Bk} (h : tbk ids nr s bs) (hx : (ordr nr s)[k]? = some x) : k < bs.length ∧ bs[k]? = some (bg bs k) := by
  have hk := (List.getElem?_eq_some_iff.mp hx).1
  rw [ordr_len, ← shp_len h.2.1] at hk
  exact ⟨hk, bg_at hk⟩
theorem tbk_own {ids : List Nat} {nr s k x : Nat} {bs : List Bk} {b : Bk} (h : tbk ids nr s bs) (hn : nr < 256) (hx : (ordr nr s)[k]? = some x) (hb : bs[k]? = some b) : (b.1 ≤ nr ∧ nr < b.1 + b.2.1) ↔ x = s := by
  obtain ⟨y, y1, y2, y3, y4⟩ := tbk_x h hb
  rw [hx] at y1
  cases y1
  rw [y3, y4, ← bo_iff hn hn h.1 y2, bo_self h.1]
  exact ⟨fun e => e.symm, fun e => e.symm⟩
theorem bo_succ {nr s c : Nat} (h : bo nr s c < s) : bo nr (s + 1) c = bo nr s c := by
  unfold bo at h ⊢
  split at h
  · omega
  · rename_i h1
    rw [if_neg (by omega), if_neg h1]
theorem cns_iff {bs : List Bk} {u : Nat} : u ∈ cns bs ↔ ∃ (k : Nat) (b : Bk), bs[k]? = some b ∧ ∃ c ∈ b.2.2.2, c.1 = u := by
  unfold cns
  rw [List.mem_flatMap]
  constructor
  · intro ⟨b, hb, hu⟩
    obtain ⟨k, hk⟩ := List.getElem?_of_mem hb
    obtain ⟨c, c1, c2⟩ := List.mem_map.mp hu
    exact ⟨k, b, hk, c, c1, c2⟩
  · intro ⟨k, b, hk, c, c1, c2⟩
    exact ⟨b, List.mem_of_getElem? hk, List.mem_map.mpr ⟨c, c1, c2⟩⟩
theorem bsp_at {ids : List Nat} {nr s k : Nat} {bs : List Bk} {b : Bk} (h : tbk ids nr s bs) (hn : nr < 256) (h256 : ∀ u ∈ ids, u < 256) (hs : s ≤ 7) (hb : bs[k]? = some b) (hk : (ordr nr s)[k]? = some s) : shp nr (s + 1) (bsp bs k b) ∧ ∀ (k' x' : Nat) (b' : Bk), (ordr nr (s + 1))[k']? = some x' → (bsp bs k b)[k']? = some b' → (∃ k0 : Nat, (ordr nr s)[k0]? = some x' ∧ bs[k0]? = some b' ∧ x' < s) ∨ ((x' = s ∨ x' = s + 1) ∧ b'.2.2.1 = b.2.2.1 ∧ b'.2.2.2.Sublist b.2.2.2 ∧ ∀ c ∈ b'.2.2.2, bo nr (s + 1) c.1 = x') := by
  have hkA : k = (oA nr s).length := ordr_inj hk ordr_own
  obtain ⟨h8, hsh, hc⟩ := h
  have hkl := (List.getElem?_eq_some_iff.mp hb).1
  obtain ⟨A, B, f, e1, e2, e3⟩ := FZ_split (nr := nr) hs
  have hbf : (FZ nr s)[k]? = some (b.1, b.2.1) := shp_at hsh hb
  have hbf2 : b.1 = f ∧ b.2.1 = 2 * 2 ^ (7 - s) := by
    rw [e1, List.getElem?_append_right (by omega), show k - A.length = 0 by omega] at hbf
    have := Option.some.inj hbf
    exact ⟨(congrArg Prod.fst this).symm, (congrArg Prod.snd this).symm⟩
  have hh : b.2.1 / 2 = 2 ^ (7 - s) := by omega
  have hsp : shp nr (s + 1) (bsp bs k b) := by
    have hA : (bs.take k).map (fun b => (b.1, b.2.1)) = A := by
      rw [List.map_take, show bs.map (fun b => (b.1, b.2.1)) = FZ nr s from hsh, e1, List.take_append_of_le_length (by omega), List.take_of_length_le (by omega)]
    have hB : (bs.drop (k + 1)).map (fun b => (b.1, b.2.1)) = B := by
      rw [List.map_drop, show bs.map (fun b => (b.1, b.2.1)) = FZ nr s from hsh, e1, show k + 1 = A.length + 1 by omega, List.drop_append, List.drop_eq_nil_of_le (by omega)]
      simp
    unfold shp bsp
    rw [List.map_append, List.map_cons, List.map_cons, hA, hB, e2, hh, hbf2.1]
  refine ⟨hsp, fun k' x' b' hx' hb' => ?_⟩
  by_cases hlo : k' < k
  · rw [bsp_lo hkl hlo] at hb'
    have hx : (ordr nr s)[k']? = some x' := by
      rw [ordr_s, List.append_assoc, List.getElem?_append_left (by omega)] at hx'
      unfold ordr
      rw [List.getElem?_append_left (by omega)]
      exact hx'
    refine Or.inl ⟨k', hx, hb', ?_⟩
    have := ordr_mem.mp (List.mem_of_getElem? hx)
    have hne : x' ≠ s := fun e => by
      subst e
      have := ordr_inj hx hk
      omega
    omega
  · by_cases hhi : k + 1 < k'
    · rw [bsp_hi hkl hhi] at hb'
      have hx : (ordr nr s)[k' - 1]? = some x' := by
        rw [ordr_s, List.getElem?_append_right (by
          rw [List.length_append]
          split <;> simp <;> omega)] at hx'
        have hl2 : (oA nr s ++ (if (nr >>> (7 - s)) % 2 = 1 then [s, s + 1] else [s + 1, s])).length = k + 2 := by
          rw [List.length_append]
          split <;> simp <;> omega
        rw [hl2] at hx'
        unfold ordr
        rw [List.getElem?_append_right (by omega), show k' - 1 - (oA nr s).length = (k' - (k + 2)) + 1 by omega, List.getElem?_cons_succ]
        exact hx'
      refine Or.inl ⟨k' - 1, hx, hb', ?_⟩
      have := ordr_mem.mp (List.mem_of_getElem? hx)
      have hne : x' ≠ s := fun e => by
        subst e
        have := ordr_inj hx hk
        omega
      omega
    · have hxs : x' = s ∨ x' = s + 1 := by
        rw [ordr_s, List.append_assoc, List.getElem?_append_right (by omega)] at hx'
        rcases (by omega : k' - (oA nr s).length = 0 ∨ k' - (oA nr s).length = 1) with e | e
        · rw [e] at hx'
          split at hx'
          · cases hx'; exact Or.inl rfl
          · cases hx'; exact Or.inr rfl
        · rw [e] at hx'
          split at hx'
          · cases hx'; exact Or.inr rfl
          · cases hx'; exact Or.inl rfl
      have hF := shp_at hsp hb'
      rw [FZ_at hx'] at hF
      have hF := Option.some.inj hF
      have f1 : fst' nr (s + 1) x' = b'.1 := congrArg Prod.fst hF
      have f2 : siz (s + 1) x' = b'.2.1 := congrArg Prod.snd hF
      have hcb := hc k s b hk hb
      have hin : ∀ c ∈ b.2.2.2, b.1 ≤ c.1 ∧ c.1 < b.1 + b.2.1 := by
        intro c hcm
        obtain ⟨g1, g2, g3⟩ := hcb.2.2 c hcm
        have g4 := (bo_iff hn (h256 _ g2) h8 (Nat.le_refl s)).mp g1
        have hF0 := shp_at hsh hb
        rw [FZ_at hk] at hF0
        have hF0 := Option.some.inj hF0
        rw [← show fst' nr s s = b.1 from congrArg Prod.fst hF0, ← show siz s s = b.2.1 from congrArg Prod.snd hF0]
        exact g4
      refine Or.inr ⟨hxs, ?_⟩
      rcases (by omega : k' = k ∨ k' = k + 1) with rfl | rfl
      · rw [bsp_k hkl] at hb'
        cases hb'
        refine ⟨rfl, List.filter_sublist, fun c hcm => ?_⟩
        obtain ⟨m1, m2⟩ := List.mem_filter.mp hcm
        have m2 := of_decide_eq_true m2
        have := hin c m1
        obtain ⟨g1, g2, g3⟩ := hcb.2.2 c m1
        dsimp only at f1 f2
        exact (bo_iff hn (h256 _ g2) (by omega) (by omega)).mpr ⟨by omega, by omega⟩
      · rw [bsp_k1 hkl] at hb'
        cases hb'
        refine ⟨rfl, List.filter_sublist, fun c hcm => ?_⟩
        obtain ⟨m1, m2⟩ := List.mem_filter.mp hcm
        have m2 : ¬ c.1 < b.1 + b.2.1 / 2 := by simpa using m2
        have := hin c m1
        obtain ⟨g1, g2, g3⟩ := hcb.2.2 c m1
        dsimp only at f1 f2
        exact (bo_iff hn (h256 _ g2) (by omega) (by omega)).mpr ⟨by omega, by omega⟩
theorem tbk_bsp {ids : List Nat} {nr s k : Nat} {bs : List Bk} {b : Bk} (h : tbk ids nr s bs) (hn : nr < 256) (h256 : ∀ u ∈ ids, u < 256) (hs : s ≤ 7) (hb : bs[k]? = some b) (hk : (ordr nr s)[k]? = some s) : tbk ids nr (s + 1) (bsp bs k b) := by
  obtain ⟨h1, h2⟩ := bsp_at h hn h256 hs hb hk
  refine ⟨by omega, h1, fun k' x' b' hx' hb' => ?_⟩
  rcases h2 k' x' b' hx' hb' with ⟨k0, g1, g2, g3⟩ | ⟨g1, g2, g3, g4⟩
  · obtain ⟨a1, a2, a3⟩ := h.2.2 k0 x' b' g1 g2
    refine ⟨a1, a2, fun c hc => ?_⟩
    obtain ⟨c1, c2, c3⟩ := a3 c hc
    exact ⟨by rw [bo_succ (by omega)]; exact c1, c2, c3⟩
  · obtain ⟨a1, a2, a3⟩ := h.2.2 k s b hk hb
    refine ⟨List.Nodup.sublist (List.Sublist.map _ g3) a1, Nat.le_trans g3.length_le a2, fun c hc => ?_⟩
    obtain ⟨c1, c2, c3⟩ := a3 c (g3.subset hc)
    exact ⟨g4 c hc, c2, c3⟩
theorem cns_bsp {bs : List Bk} {k u : Nat} {b : Bk} (hb : bs[k]? = some b) : u ∈ cns (bsp bs k b) ↔ u ∈ cns bs := by
  have hkl := (List.getElem?_eq_some_iff.mp hb).1
  rw [cns_iff, cns_iff]
  constructor
  · intro ⟨j, b', hj, c, c1, c2⟩
    by_cases hlo : j < k
    · rw [bsp_lo hkl hlo] at hj
      exact ⟨j, b', hj, c, c1, c2⟩
    · by_cases hhi : k + 1 < j
      · rw [bsp_hi hkl hhi] at hj
        exact ⟨j - 1, b', hj, c, c1, c2⟩
      · rcases (by omega : j = k ∨ j = k + 1) with rfl | rfl
        · rw [bsp_k hkl] at hj
          cases hj
          exact ⟨j, b, hb, c, (List.mem_filter.mp c1).1, c2⟩
        · rw [bsp_k1 hkl] at hj
          cases hj
          exact ⟨k, b, hb, c, (List.mem_filter.mp c1).1, c2⟩
  · intro ⟨j, b', hj, c, c1, c2⟩
    by_cases hlo : j < k
    · exact ⟨j, b', by rw [bsp_lo hkl hlo]; exact hj, c, c1, c2⟩
    · by_cases hhi : k < j
      · exact ⟨j + 1, b', by rw [bsp_hi hkl (by omega), Nat.add_sub_cancel]; exact hj, c, c1, c2⟩
      · have : j = k := by omega
        subst this
        rw [hb] at hj
        cases hj
        by_cases hm : c.1 < b.1 + b.2.1 / 2
        · exact ⟨j, _, bsp_k hkl, c, List.mem_filter.mpr ⟨c1, decide_eq_true hm⟩, c2⟩
        · exact ⟨j + 1, _, bsp_k1 hkl, c, List.mem_filter.mpr ⟨c1, by simpa using hm⟩, c2⟩
/-- where a number stands, if it stands in the table -/
theorem tbk_at {ids : List Nat} {nr s u : Nat} {bs : List Bk} (h : tbk ids nr s bs) (hn : nr < 256) (hu : u < 256) : u ∈ cns bs ↔ ∃ c ∈ (bg bs (rng bs u)).2.2.2, c.1 = u := by
  have hl := shp_len h.2.1
  have hk := rng_lt (bs := bs) u (by omega)
  rw [cns_iff]
  constructor
  · intro ⟨k, b, hb, c, c1, c2⟩
    obtain ⟨x, x1, -⟩ := tbk_x h hb
    have := (h.2.2 k x b x1 hb).2.2 c c1
    have hr := rng_bo h.2.1 h.1 hn hu
    rw [← c2, this.1] at hr
    have e := ordr_inj hr x1
    rw [c2] at e
    rw [e]
    have hb2 := bg_at (bs := bs) (k := k) (List.getElem?_eq_some_iff.mp hb).1
    rw [hb] at hb2
    cases hb2
    exact ⟨c, c1, c2⟩
  · intro ⟨c, c1, c2⟩
    exact ⟨_, _, bg_at hk, c, c1, c2⟩
theorem fm_nodup : ∀ (bs : List Bk), (∀ b ∈ bs, (b.2.2.2.map Prod.fst).Nodup) → (∀ (i j : Nat) (a b : Bk), bs[i]? = some a → bs[j]? = some b → i < j → ∀ c ∈ a.2.2.2, ∀ d ∈ b.2.2.2, c.1 ≠ d.1) → (cns bs).Nodup
  | [], _, _ => by simp [cns]
  | b :: bs, h1, h2 => by
    have e : cns (b :: bs) = b.2.2.2.map Prod.fst ++ cns bs := by simp [cns]
    rw [e]
    refine List.nodup_append.mpr ⟨h1 b List.mem_cons_self, fm_nodup bs (fun c hc => h1 c (List.mem_cons_of_mem _ hc)) (fun i j x y hi hj hij => h2 (i + 1) (j + 1) x y hi hj (by omega)), fun u hu v hv => ?_⟩
    obtain ⟨c, c1, c2⟩ := List.mem_map.mp hu
    obtain ⟨k, b', k1, d, d1, d2⟩ := cns_iff.mp hv
    have := h2 0 (k + 1) b b' rfl k1 (by omega) c c1 d d1
    rw [c2, d2] at this
    exact this
theorem tbk_nodup {ids : List Nat} {nr s : Nat} {bs : List Bk} (h : tbk ids nr s bs) : (cns bs).Nodup := by
  apply fm_nodup
  · intro b hb
    obtain ⟨k, hk⟩ := List.getElem?_of_mem hb
    obtain ⟨x, x1, -⟩ := tbk_x h hk
    exact (h.2.2 k x b x1 hk).1
  · intro i j a b hi hj hij c hc d hd e
    obtain ⟨x, x1, -⟩ := tbk_x h hi
    obtain ⟨y, y1, -⟩ := tbk_x h hj
    have g1 := ((h.2.2 i x a x1 hi).2.2 c hc).1
    have g2 := ((h.2.2 j y b y1 hj).2.2 d hd).1
    rw [e, g2] at g1
    subst g1
    have := ordr_inj x1 y1
    omega
theorem tbk_ids {ids : List Nat} {nr s : Nat} {bs : List Bk} (h : tbk ids nr s bs) : ∀ u ∈ cns bs, u ∈ ids ∧ u ≠ nr := by
  intro u hu
  obtain ⟨k, b, hb, c, c1, c2⟩ := cns_iff.mp hu
  obtain ⟨x, x1, -⟩ := tbk_x h hb
  have := (h.2.2 k x b x1 hb).2.2 c c1
  rw [c2] at this
  exact this.2
/-- one bucket has other contacts, another time -/
theorem tbk_set {ids : List Nat} {nr s k x t : Nat} {bs : List Bk} {b : Bk} {L : List (Nat × Nat)} (h : tbk ids nr s bs) (hx : (ordr nr s)[k]? = some x) (hb : bs[k]? = some b) (hL : (L.map Prod.fst).Nodup ∧ L.length ≤ 3 ∧ ∀ c ∈ L, bo nr s c.1 = x ∧ c.1 ∈ ids ∧ c.1 ≠ nr) : tbk ids nr s (bs.set k (b.1, b.2.1, t, L)) := by
  have hkl := (List.getElem?_eq_some_iff.mp hb).1
  refine ⟨h.1, ?_, fun j y b' hy hb' => ?_⟩
  · unfold shp
    rw [← h.2.1]
    apply List.ext_getElem?
    intro j
    rw [List.getElem?_map, List.getElem?_map, List.getElem?_set]
    by_cases hj : k = j
    · subst hj
      rw [if_pos rfl, if_pos hkl, hb]
      rfl
    · rw [if_neg hj]
  · rw [List.getElem?_set] at hb'
    by_cases hj : k = j
    · subst hj
      rw [if_pos rfl, if_pos hkl] at hb'
      cases hb'
      rw [hx] at hy
      cases hy
      exact hL
    · rw [if_neg hj] at hb'
      exact h.2.2 j y b' hy hb'
theorem cns_set {bs : List Bk} {k u : Nat} {b b' : Bk} (hb : bs[k]? = some b) : u ∈ cns (bs.set k b') ↔ (∃ c ∈ b'.2.2.2, c.1 = u) ∨ ∃ (j : Nat) (a : Bk), j ≠ k ∧ bs[j]? = some a ∧ ∃ c ∈ a.2.2.2, c.1 = u := by
  have hkl := (List.getElem?_eq_some_iff.mp hb).1
  rw [cns_iff]
  constructor
  · intro ⟨j, a, ha, hc⟩
    rw [List.getElem?_set] at ha
    by_cases hj : k = j
    · subst hj
      rw [if_pos rfl, if_pos hkl] at ha
      cases ha
      exact Or.inl hc
    · rw [if_neg hj] at ha
      exact Or.inr ⟨j, a, fun e => hj e.symm, ha, hc⟩
  · rintro (hc | ⟨j, a, hj, ha, hc⟩)
    · exact ⟨k, b', by rw [List.getElem?_set, if_pos rfl, if_pos hkl], hc⟩
    · exact ⟨j, a, by rw [List.getElem?_set, if_neg (fun e => hj e.symm)]; exact ha, hc⟩
