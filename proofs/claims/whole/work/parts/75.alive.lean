/-! the reference's candidates are those of the first program -/
def ix (ids : List Nat) (u : Nat) : Nat := (kn ids (u : Int)).getD 0
theorem ix_at {ids : List Nat} (hn : ids.Nodup) {j u : Nat} (h : ids[j]? = some u) : ix ids u = j := by
  unfold ix
  rw [kn_at hn h]
  rfl
theorem ix_mem {ids : List Nat} (hn : ids.Nodup) {u : Nat} (h : u ∈ ids) : ix ids u < ids.length ∧ idg ids (ix ids u) = u ∧ ids[ix ids u]? = some u := by
  obtain ⟨j, hj⟩ := List.getElem?_of_mem h
  rw [ix_at hn hj]
  have hl := (List.getElem?_eq_some_iff.mp hj).1
  refine ⟨hl, ?_, hj⟩
  have := idg_at hl
  rw [hj] at this
  exact (Option.some.inj this).symm
theorem ix_idg {ids : List Nat} (hn : ids.Nodup) {j : Nat} (h : j < ids.length) : ix ids (idg ids j) = j := ix_at hn (idg_at h)
theorem idg_mem {ids : List Nat} {j : Nat} (h : j < ids.length) : idg ids j ∈ ids := List.mem_of_getElem? (idg_at h)
def cfd (C : List Cd) (u : Nat) : Option Cd := C.find? (fun c => decide (c.1 = u))
def cS (ids : List Nat) (C : List Cd) (j : Nat) : Nat := if j < ids.length then (match cfd C (idg ids j) with
  | some c => c.2.1 + 1
  | none => 0) else 0
def srtC (t : Nat) (C : List Cd) : Prop := C.Pairwise (fun c d => c.1 ^^^ t < d.1 ^^^ t)
theorem cfd_mem {t : Nat} {C : List Cd} (hs : srtC t C) {c : Cd} (h : c ∈ C) : cfd C c.1 = some c := by
  unfold cfd
  induction C with
  | nil => cases h
  | cons d C ih =>
    obtain ⟨p1, p2⟩ := List.pairwise_cons.mp hs
    rw [List.find?_cons]
    rcases List.mem_cons.mp h with rfl | hm
    · simp
    · have := p1 c hm
      have hne : d.1 ≠ c.1 := fun e => by rw [e] at this; omega
      simp only [hne, decide_false]
      exact ih p2 hm
theorem cfd_some {C : List Cd} {u : Nat} {c : Cd} (h : cfd C u = some c) : c ∈ C ∧ c.1 = u := ⟨List.mem_of_find?_eq_some h, by simpa using List.find?_some h⟩
theorem cfd_none {C : List Cd} {u : Nat} (h : cfd C u = none) : ∀ c ∈ C, c.1 ≠ u := fun c hc e => by
  unfold cfd at h
  rw [List.find?_eq_none] at h
  exact h c hc (decide_eq_true e)
theorem cS_ix {ids : List Nat} {C : List Cd} {t : Nat} (hn : ids.Nodup) (hs : srtC t C) {c : Cd} (h : c ∈ C) (hc : c.1 ∈ ids) : cS ids C (ix ids c.1) = c.2.1 + 1 := by
  obtain ⟨a1, a2, -⟩ := ix_mem hn hc
  unfold cS
  rw [if_pos a1, a2, cfd_mem hs h]
theorem rank_eq {ids : List Nat} {C : List Cd} {t : Nat} (hn : ids.Nodup) (hs : srtC t C) (hC : ∀ c ∈ C, c.1 ∈ ids) (r : Nat) : nth (sq (cS ids C)) (dlt ids t) ids.length r = (C[r]?).map (fun c => ix ids c.1) := by
  rw [← List.getElem?_map]
  have hI : ∀ c ∈ C, idg ids (ix ids c.1) = c.1 := fun c hc => (ix_mem hn (hC c hc)).2.1
  apply nth_eq
  · intro j
    constructor
    · intro hj
      obtain ⟨c, hc, rfl⟩ := List.mem_map.mp hj
      refine ⟨(ix_mem hn (hC c hc)).1, ?_⟩
      unfold sq
      rw [cS_ix hn hs hc (hC c hc)]
      exact decide_eq_true (Nat.succ_pos _)
    · intro ⟨hj, hq⟩
      have hq := of_decide_eq_true hq
      unfold cS at hq
      rw [if_pos hj] at hq
      cases hf : cfd C (idg ids j) with
      | none => rw [hf] at hq; simp at hq
      | some c =>
        obtain ⟨c1, c2⟩ := cfd_some hf
        refine List.mem_map.mpr ⟨c, c1, ?_⟩
        rw [c2, ix_idg hn hj]
  · intro a _ b _ h
    unfold dlt at h ⊢
    have := of_decide_eq_true h
    exact decide_eq_false (by omega)
  · rw [List.pairwise_map]
    refine List.Pairwise.imp_of_mem (fun {c d} h1 h2 h => ?_) hs
    unfold dlt
    rw [hI c h1, hI d h2]
    exact decide_eq_true h
/-- the states, as the list of candidates says -/
def rsC (J : Nat → Nat → Int32) (m i : Nat) (ids : List Nat) (C : List Cd) : Prop := ∀ j, j < 12 → (J (m + 16) (12 * i + j)).toInt = ((cS ids C j : Nat) : Int)
def nf (c : Cd) : Bool := decide (c.2.1 ≠ 3)
section ALIVE
variable {G : mm_M} {J : Nat → Nat → Int32} {m N i t : Nat} {C : List Cd} {ids : List Nat} {x1 x2 : Int32}
theorem r_alive_l {rk : Nat} {kx : mm_M → Option (mm_M × Int32)} (h : sM G m) (hi : rid J m ids) (hS : rsC J m i ids C) (hs : srtC t C) (hC : ∀ c ∈ C, c.1 ∈ ids) (hi12 : i < 12) (hN : 400 ≤ N) (h1 : x1.toInt = (i : Int)) (hg : (J (m + 14) i).toInt = (t : Int)) (ht2 : t < 256) (h2 : x2.toInt = (rk : Int)) (hC12 : C.length ≤ 12) : ∀ (r n k c : Nat) (y z : Int32), z.toInt = (k : Int) → y.toInt = (c : Int) → c ≤ k → c ≤ rk → k + r = 12 → r < n → pX7_alive_5 N m kx n (mm_w G J) x1 x2 y z = match (((C.drop k).filter nf)[rk - c]?).map (fun c => ix ids c.1) with | some j => some (mm_w G J, Int32.ofNat j) | none => kx (mm_w G J) := by
  have h12 := hi.2.1
  intro r
  induction r with
  | zero =>
    intro n k c y z hz hy hc hcr hk hn
    obtain ⟨n, rfl⟩ : ∃ m, n = m + 1 := ⟨n - 1, by omega⟩
    show pX7_alive_5_b N m _ kx _ x1 x2 y z = _
    unfold pX7_alive_5_b
    rw [if_pos (by rw [zi_le, zi_12, hz]; omega), List.drop_eq_nil_of_le (by omega)]
    rfl
  | succ r ih =>
    intro n k c y z hz hy hc hcr hk hn
    obtain ⟨n, rfl⟩ : ∃ m, n = m + 1 := ⟨n - 1, by omega⟩
    show pX7_alive_5_b N m _ kx _ x1 x2 y z = _
    unfold pX7_alive_5_b
    rw [if_neg (by rw [zi_le, zi_12, hz]; omega), w_is h.1, r_rank (S := cS ids C) h hi hS hi12 hN h1 hg ht2 hz, rank_eq hi.2.2.1 hs hC, w_cl]
    by_cases hkl : k < C.length
    · rw [List.getElem?_eq_getElem hkl, List.drop_eq_getElem_cons hkl, Option.map_some]
      have hm : C[k] ∈ C := List.getElem_mem hkl
      obtain ⟨a1, a2, a3⟩ := ix_mem hi.2.2.1 (hC _ hm)
      have hIx := oI_some (n := ix ids C[k].1) (by omega)
      have hSx := hS (ix ids C[k].1) (by omega)
      rw [cS_ix hi.2.2.1 hs hm (hC _ hm)] at hSx
      rw [if_neg (by rw [zi_lt, hIx, zi_0]; omega), gr_state h, w_nn, ai_state h (zi_12i h1 hIx hi12 (by omega)) (by omega), List.filter_cons]
      by_cases h3 : C[k].2.1 = 3
      · rw [if_pos (by rw [zi_eq, hSx, zi_4]; omega), if_neg (show ¬ nf C[k] = true from fun e => (of_decide_eq_true e) h3)]
        exact ih n (k + 1) c y (z + 1) (zi_inc hz (by omega)) hy (by omega) hcr (by omega) (by omega)
      · rw [if_neg (by rw [zi_eq, hSx, zi_4]; omega), if_pos (show nf C[k] = true from decide_eq_true h3)]
        by_cases hcr2 : c = rk
        · rw [if_pos (by rw [zi_eq, hy, h2, hcr2]), hcr2, Nat.sub_self, List.getElem?_cons_zero]
          rfl
        · rw [if_neg (by rw [zi_eq, hy, h2]; omega), show rk - c = (rk - (c + 1)) + 1 by omega, List.getElem?_cons_succ]
          exact ih n (k + 1) (c + 1) (y + 1) (z + 1) (zi_inc hz (by omega)) (zi_inc hy (by omega)) (by omega) (by omega) (by omega) (by omega)
    · rw [List.getElem?_eq_none (by omega), Option.map_none, if_pos (by rw [zi_lt, oI_none, zi_0]; decide), List.drop_eq_nil_of_le (by omega)]
      have := ih n (k + 1) c y (z + 1) (zi_inc hz (by omega)) hy (by omega) hcr (by omega) (by omega)
      rw [List.drop_eq_nil_of_le (by omega)] at this
      exact this
theorem r_alive {rk : Nat} (h : sM G m) (hi : rid J m ids) (hS : rsC J m i ids C) (hs : srtC t C) (hC : ∀ c ∈ C, c.1 ∈ ids) (hi12 : i < 12) (hN : 400 ≤ N) (h1 : x1.toInt = (i : Int)) (hg : (J (m + 14) i).toInt = (t : Int)) (ht2 : t < 256) (h2 : x2.toInt = (rk : Int)) (hC12 : C.length ≤ 12) : pX7_alive_0 N m (mm_w G J) x1 x2 = some (mm_w G J, oI (((C.filter nf)[rk]?).map (fun c => ix ids c.1))) := by
  unfold pX7_alive_0
  rw [r_alive_l h hi hS hs hC hi12 hN h1 hg ht2 h2 hC12 12 N 0 0 0 0 zi_0 zi_0 (by omega) (by omega) (by omega) (by omega), List.drop_zero, Nat.sub_zero]
  cases (C.filter nf)[rk]? with
  | none => rfl
  | some j => rfl
def isN (c : Cd) : Bool := decide (c.2.1 = 0)
theorem ntk_alive : ∀ (C : List Cd) (p i : Nat), (((C.filter nf).take (3 - p)).find? isN) = (ntk C p i).map (fun j => cgt C (j - i))
  | [], p, i => by simp [ntk]
  | c :: C, p, i => by
    unfold ntk
    by_cases hp : 3 ≤ p
    · rw [if_pos hp, show 3 - p = 0 by omega]
      simp
    · rw [if_neg hp]
      by_cases h0 : c.2.1 = 0
      · rw [if_pos h0, List.filter_cons, if_pos (show nf c = true from decide_eq_true (by omega)), show 3 - p = (3 - p - 1) + 1 by omega, List.take_succ_cons, List.find?_cons, show isN c = true from decide_eq_true h0, Option.map_some, Nat.sub_self]
        rfl
      · rw [if_neg h0]
        have hsh : ∀ q, (ntk C q (i + 1)).map (fun j => cgt C (j - (i + 1))) = (ntk C q (i + 1)).map (fun j => cgt (c :: C) (j - i)) := by
          intro q
          cases hk : ntk C q (i + 1) with
          | none => rfl
          | some j =>
            have := (ntk_lt C q (i + 1) j hk).1
            simp only [Option.map_some]
            congr 1
            unfold cgt
            rw [show j - i = (j - (i + 1)) + 1 by omega]
            rfl
        by_cases h3 : c.2.1 = 3
        · rw [if_pos h3, List.filter_cons, if_neg (show ¬ nf c = true from fun e => (of_decide_eq_true e) h3), ntk_alive C p (i + 1), hsh]
        · rw [if_neg h3, List.filter_cons, if_pos (show nf c = true from decide_eq_true h3), show 3 - p = (3 - (p + 1)) + 1 by omega, List.take_succ_cons, List.find?_cons, show isN c = false from decide_eq_false h0]
          dsimp only
          rw [ntk_alive C (p + 1) (i + 1), hsh]
theorem r_next_l {kx : mm_M → Option (mm_M × Int32)} (h : sM G m) (hi : rid J m ids) (hS : rsC J m i ids C) (hs : srtC t C) (hC : ∀ c ∈ C, c.1 ∈ ids) (hi12 : i < 12) (hN : 400 ≤ N) (h1 : x1.toInt = (i : Int)) (hg : (J (m + 14) i).toInt = (t : Int)) (ht2 : t < 256) (hC12 : C.length ≤ 12) : ∀ (r n k : Nat) (z : Int32), z.toInt = (k : Int) → k + r = 3 → r < n → pX7_nextToAsk_2 N m kx n (mm_w G J) x1 z = match ((((C.filter nf).drop k).take r).find? isN).map (fun c => ix ids c.1) with | some j => some (mm_w G J, Int32.ofNat j) | none => kx (mm_w G J) := by
  have h12 := hi.2.1
  intro r
  induction r with
  | zero =>
    intro n k z hz hk hn
    obtain ⟨n, rfl⟩ : ∃ m, n = m + 1 := ⟨n - 1, by omega⟩
    show pX7_nextToAsk_2_b N m _ kx _ x1 z = _
    unfold pX7_nextToAsk_2_b
    rw [if_pos (by rw [zi_le, zi_3, hz]; omega)]
    simp
  | succ r ih =>
    intro n k z hz hk hn
    obtain ⟨n, rfl⟩ : ∃ m, n = m + 1 := ⟨n - 1, by omega⟩
    have go := ih n (k + 1) (z + 1) (zi_inc hz (by omega)) (by omega) (by omega)
    show pX7_nextToAsk_2_b N m _ kx _ x1 z = _
    unfold pX7_nextToAsk_2_b
    rw [if_neg (by rw [zi_le, zi_3, hz]; omega), w_is h.1, r_alive h hi hS hs hC hi12 hN h1 hg ht2 hz hC12, w_cl]
    by_cases hkl : k < (C.filter nf).length
    · rw [List.getElem?_eq_getElem hkl, List.drop_eq_getElem_cons hkl, Option.map_some, List.take_succ_cons, List.find?_cons]
      have hm : (C.filter nf)[k] ∈ C := (List.mem_filter.mp (List.getElem_mem hkl)).1
      generalize (C.filter nf)[k] = c at hm ⊢
      obtain ⟨a1, a2, a3⟩ := ix_mem hi.2.2.1 (hC _ hm)
      have hIx := oI_some (n := ix ids c.1) (by omega)
      have hSx := hS (ix ids c.1) (by omega)
      rw [cS_ix hi.2.2.1 hs hm (hC _ hm)] at hSx
      rw [if_neg (by rw [zi_lt, hIx, zi_0]; omega), gr_state h, w_nn, ai_state h (zi_12i h1 hIx hi12 (by omega)) (by omega)]
      by_cases h0 : c.2.1 = 0
      · rw [if_pos (by rw [zi_eq, hSx, zi_1]; omega), show isN c = true from decide_eq_true h0]
        rfl
      · rw [if_neg (by rw [zi_eq, hSx, zi_1]; omega), show isN c = false from decide_eq_false h0]
        exact go
    · rw [List.getElem?_eq_none (by omega), Option.map_none, if_pos (by rw [zi_lt, oI_none, zi_0]; decide), List.drop_eq_nil_of_le (by omega)]
      rw [List.drop_eq_nil_of_le (by omega)] at go
      simpa using go
theorem r_next (h : sM G m) (hi : rid J m ids) (hS : rsC J m i ids C) (hs : srtC t C) (hC : ∀ c ∈ C, c.1 ∈ ids) (hi12 : i < 12) (hN : 400 ≤ N) (h1 : x1.toInt = (i : Int)) (hg : (J (m + 14) i).toInt = (t : Int)) (ht2 : t < 256) (hC12 : C.length ≤ 12) : pX7_nextToAsk_0 N m (mm_w G J) x1 = some (mm_w G J, oI ((ntk C 0 0).map (fun j => ix ids (cgt C j).1))) := by
  unfold pX7_nextToAsk_0
  rw [r_next_l h hi hS hs hC hi12 hN h1 hg ht2 hC12 3 N 0 0 zi_0 (by omega) (by omega), List.drop_zero, show (3 : Nat) = 3 - 0 from rfl, ntk_alive C 0 0]
  cases ntk C 0 0 with
  | none => rfl
  | some j => rfl
end ALIVE
