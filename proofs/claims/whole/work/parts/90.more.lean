/-! one more number -/
section EXT
variable {J : Nat → Nat → Int32} {m i u : Nat} {ids : List Nat}
theorem ext_nodup (hn : ids.Nodup) (hu : u ∉ ids) : (ids ++ [u]).Nodup := List.nodup_append.mpr ⟨hn, by simp, fun a ha b hb e => hu (by simp at hb; rw [← hb, ← e]; exact ha)⟩
theorem ix_ext (hn : ids.Nodup) (hu : u ∉ ids) {v : Nat} (hv : v ∈ ids) : ix (ids ++ [u]) v = ix ids v := by
  obtain ⟨a1, a2, a3⟩ := ix_mem hn hv
  exact ix_at (ext_nodup hn hu) (by rw [List.getElem?_append_left a1]; exact a3)
theorem ix_new (hn : ids.Nodup) (hu : u ∉ ids) : ix (ids ++ [u]) u = ids.length := ix_at (ext_nodup hn hu) (by rw [List.getElem?_append_right (Nat.le_refl _), Nat.sub_self]; rfl)
theorem idg_ext {j : Nat} (hj : j < ids.length) : idg (ids ++ [u]) j = idg ids j := by
  unfold idg
  rw [List.getD_eq_getElem?_getD, List.getD_eq_getElem?_getD, List.getElem?_append_left hj]
theorem idg_new : idg (ids ++ [u]) ids.length = u := by
  unfold idg
  rw [List.getD_eq_getElem?_getD, List.getElem?_append_right (Nat.le_refl _), Nat.sub_self]
  rfl
theorem cS_ext {C : List Cd} (hu : u ∉ ids) (hC : ∀ c ∈ C, c.1 ∈ ids) (j : Nat) : cS (ids ++ [u]) C j = cS ids C j := by
  unfold cS
  by_cases hj : j < ids.length
  · rw [if_pos hj, if_pos (by rw [List.length_append]; simp only [List.length_cons, List.length_nil]; omega), idg_ext hj]
  · rw [if_neg hj]
    by_cases hjn : j = ids.length
    · subst hjn
      rw [if_pos (by rw [List.length_append]; simp only [List.length_cons, List.length_nil]; omega), idg_new]
      cases hc : cfd C u with
      | none => rfl
      | some c =>
        obtain ⟨c1, c2⟩ := cfd_some hc
        exact absurd (by rw [← c2]; exact hC c c1) hu
    · rw [if_neg (by rw [List.length_append]; simp only [List.length_cons, List.length_nil]; omega)]
theorem mB_ext {bs : List Bk} (hu : u ∉ ids) (hC : ∀ v ∈ cns bs, v ∈ ids) (j : Nat) : mB (ids ++ [u]) bs j = mB ids bs j := by
  unfold mB
  by_cases hj : j < ids.length
  · have : j < (ids ++ [u]).length := by rw [List.length_append]; omega
    simp only [hj, this, idg_ext hj]
  · rw [decide_eq_false (p := j < ids.length ∧ idg ids j ∈ cns bs) (fun e => hj e.1)]
    apply decide_eq_false
    intro ⟨e1, e2⟩
    rw [List.length_append] at e1
    simp only [List.length_cons, List.length_nil] at e1
    have : j = ids.length := by omega
    subst this
    rw [idg_new] at e2
    exact hu (hC u e2)
theorem rtb_ext {nr s st : Nat} {bs : List Bk} (hn : ids.Nodup) (hu : u ∉ ids) (h : rtb J m i ids nr s bs st) : rtb J m i (ids ++ [u]) nr s bs st := by
  obtain ⟨ht, hr, hc⟩ := h
  refine ⟨tbk_mono ht (fun v hv => List.mem_append_left _ hv), rt_eq hr (fun j _ => mB_ext hu (fun v hv => (tbk_ids ht v hv).1) j), fun k x b hx hb => ?_⟩
  obtain ⟨a1, a2, a3⟩ := hc k x b hx hb
  have hI : ∀ c ∈ b.2.2.2, ix (ids ++ [u]) c.1 = ix ids c.1 := fun c hcm => ix_ext hn hu ((ht.2.2 k x b hx hb).2.2 c hcm).2.1
  refine ⟨a1, fun c hcm => by rw [hI c hcm]; exact a2 c hcm, ?_⟩
  refine List.Pairwise.imp_of_mem (fun {c d} hcm hdm h => ?_) a3
  rw [hI c hcm, hI d hdm]
  exact h
theorem rlu_ext {q : Lu} (hn : ids.Nodup) (hu : u ∉ ids) (hC : ∀ c ∈ q.2.2.2.2.1, c.1 ∈ ids) (h : rlu J m i ids q) : rlu J m i (ids ++ [u]) q := by
  refine ⟨h.1, fun h0 => ?_⟩
  obtain ⟨g1, g2, g3, g4, g5⟩ := h.2 h0
  exact ⟨g1, fun j hj => by rw [cS_ext hu hC]; exact g2 j hj, fun c hc e => by rw [ix_ext hn hu (hC c hc)]; exact g3 c hc e, fun c hc e => by rw [ix_ext hn hu (hC c hc)]; exact g4 c hc e, g5⟩
theorem rpe_ext {st now M : Nat} {p : Pe} (hn : ids.Nodup) (hu : u ∉ ids) (hp : pok ids now M p) (h : rpe J m ids st p) : rpe J m (ids ++ [u]) st p := by
  obtain ⟨h1, ⟨s, h2⟩, h3, h4⟩ := h
  unfold rpe
  rw [ix_ext hn hu hp.1.2]
  exact ⟨h1, ⟨s, rtb_ext hn hu h2⟩, rlu_ext hn hu hp.2.2.1.2.2.1.2.1 h3, h4⟩
theorem rpe_new {st now : Nat} {p : Pe} (hp : p.1 < 256) (h1 : (J (m + 1) (ix ids p.1)).toInt = (p.1 : Int)) (h2 : (J (m + 2) (ix ids p.1)).toInt = 1) (h6 : (J (m + 6) (ix ids p.1)).toInt = 0) (h8 : (J (m + 8) (ix ids p.1)).toInt = 0) (h12 : (J (m + 12) (ix ids p.1)).toInt = 0) (h7 : (J (m + 7) (9 * ix ids p.1)).toInt = (now : Int)) (h3 : ∀ j, j < 12 → (J (m + 3) (12 * ix ids p.1 + j)).toInt = 0) : rpe J m ids st (anw now p) := by
  refine ⟨h2, ⟨0, tbk_new hp, ⟨⟨h1, hp⟩, ⟨h6, by omega⟩, fun j hj => ?_⟩, fun k x b hx hb => ?_⟩, ⟨h12, fun h => absurd rfl h⟩, h8, fun j e hj => by cases hj⟩
  · have : mB ids [(0, 256, now, [])] j = false := by
      unfold mB
      apply decide_eq_false
      intro ⟨_, e⟩
      simp [cns] at e
    show _ = if mB ids [(0, 256, now, [])] j = true then (1 : Int) else 0
    rw [this]
    exact h3 j hj
  · have hk : k = 0 := by
      have := (List.getElem?_eq_some_iff.mp hb).1
      simpa [anw] using this
    subst hk
    cases hb
    cases hx
    exact ⟨h7, (fun c hc => by cases hc), List.Pairwise.nil⟩
end EXT
theorem eat_lo {P : List (Nat × Pe)} {u : Nat} (hs : P.Pairwise (fun p q => p.2.1 < q.2.1)) (hu : ∀ p ∈ P, p.2.1 ≠ u) : (∀ p ∈ P.take (eat P u), p.2.1 < u) ∧ ∀ p ∈ P.drop (eat P u), u < p.2.1 := by
  obtain ⟨h1, h2⟩ := ipf_spec (ngt P u) P.length
  have hle := ipf_le (ngt P u) P.length
  unfold eat
  generalize ipf (ngt P u) P.length = e at h1 h2 hle
  have kg : ∀ k p, P[k]? = some p → ngt P u k = decide (u < p.2.1) := fun k p hk => by
    unfold ngt
    rw [List.getD_eq_getElem?_getD, hk]
    rfl
  constructor
  · intro p hp
    obtain ⟨k, hk⟩ := List.getElem?_of_mem hp
    rw [List.getElem?_take] at hk
    by_cases hke : k < e
    · rw [if_pos hke] at hk
      have hq : e - 1 < P.length := by omega
      have hqs := List.getElem?_eq_getElem hq
      have hn := h2 (by omega)
      rw [kg _ _ hqs] at hn
      have hn := of_decide_eq_false hn
      have hne := hu _ (List.getElem_mem hq)
      by_cases hkq : k = e - 1
      · subst hkq
        rw [hqs] at hk
        cases hk
        omega
      · have hkl := (List.getElem?_eq_some_iff.mp hk)
        have := List.pairwise_iff_getElem.mp hs k (e - 1) hkl.1 hq (by omega)
        rw [hkl.2] at this
        omega
    · rw [if_neg hke] at hk; cases hk
  · intro p hp
    obtain ⟨k, hk⟩ := List.getElem?_of_mem hp
    rw [List.getElem?_drop] at hk
    have hkl := (List.getElem?_eq_some_iff.mp hk).1
    have := h1 (e + k) (by omega) hkl
    rw [kg _ _ hk] at this
    exact of_decide_eq_true this
theorem enr_srt {P : List (Nat × Pe)} {u b : Nat} (hs : P.Pairwise (fun p q => p.2.1 < q.2.1)) (hu : ∀ p ∈ P, p.2.1 ≠ u) : (enr P u b).Pairwise (fun p q => p.2.1 < q.2.1) := by
  obtain ⟨h1, h2⟩ := eat_lo hs hu
  unfold enr
  refine List.pairwise_append.mpr ⟨List.Pairwise.sublist (List.take_sublist _ _) hs, List.pairwise_cons.mpr ⟨fun p hp => h2 p hp, List.Pairwise.sublist (List.drop_sublist _ _) hs⟩, fun p hp q hq => ?_⟩
  rcases List.mem_cons.mp hq with rfl | hq
  · exact h1 p hp
  · exact Nat.lt_trans (h1 p hp) (h2 q hq)
theorem set_srt {P : List (Nat × Pe)} {k b : Nat} {p p' : Pe} (hs : P.Pairwise (fun p q => p.2.1 < q.2.1)) (hk : P[k]? = some (b, p)) (hp : p'.1 = p.1) : (P.set k (b, p')).Pairwise (fun p q => p.2.1 < q.2.1) := by
  have h1 : (P.map (fun p => p.2.1)).Pairwise (· < ·) := by rw [List.pairwise_map]; exact hs
  have h2 : ((P.set k (b, p')).map (fun p => p.2.1)).Pairwise (· < ·) := by rw [set_nums hk hp]; exact h1
  rw [List.pairwise_map] at h2
  exact h2
section IVS
variable {ids : List Nat} {P : List (Nat × Pe)} {now ser st n : Nat} {L : List Dg}
theorem IV_n (h : IV ids P now ser L st n) (hn : n + 1 ≤ 512) : IV ids P now ser L st (n + 1) := by
  obtain ⟨⟨a1, a2, a3, a4⟩, h2, h3, h4, h5, h6⟩ := h
  exact ⟨⟨by omega, by omega, by omega, hn⟩, h2, h3, h4, fun p hp => pok_mono (h5 p hp) (fun u hu => hu) (by omega), h6⟩
theorem IV_L {L' : List Dg} (h : IV ids P now ser L st n) (hL : ∀ D ∈ L', okD ids D) : IV ids P now ser L' st n := ⟨h.1, h.2.1, h.2.2.1, h.2.2.2.1, h.2.2.2.2.1, hL⟩
theorem IV_set {L' : List Dg} {ser' st' k b : Nat} {p p' : Pe} (h : IV ids P now ser L st n) (hn : n + 1 ≤ 512) (hk : P[k]? = some (b, p)) (hp : p'.1 = p.1) (hpo : pok ids now (12 * n) p') (hL : ∀ D ∈ L', okD ids D) (hs : ser' ≤ n + 1) (ht : st' ≤ n + 1) : IV ids (P.set k (b, p')) now ser' L' st' (n + 1) := by
  obtain ⟨⟨a1, a2, a3, a4⟩, h2, h3, h4, h5, h6⟩ := h
  refine ⟨⟨by omega, hs, ht, hn⟩, h2, fun u => by rw [set_nums hk hp]; exact h3 u, set_srt h4 hk hp, fun q hq => ?_, hL⟩
  rcases List.mem_or_eq_of_mem_set hq with hq | rfl
  · exact pok_mono (h5 q hq) (fun u hu => hu) (by omega)
  · exact pok_mono hpo (fun u hu => hu) (by omega)
theorem IV_enr {L' : List Dg} {ser' st' b u : Nat} {p' : Pe} (h : IV ids P now ser L st n) (hn : n + 1 ≤ 512) (hu : fp P (u : Int) = none) (hu2 : u < 256) (hlt : P.length < 12) (hp : p'.1 = u) (hpo : pok (ids ++ [u]) now (12 * n) p') (hL : ∀ D ∈ L', okD (ids ++ [u]) D) (hs : ser' ≤ n + 1) (ht : st' ≤ n + 1) : IV (ids ++ [u]) ((enr P u b).set (eat P u) (b, p')) now ser' L' st' (n + 1) := by
  obtain ⟨⟨a1, a2, a3, a4⟩, ⟨b1, b2, b3⟩, h3, h4, h5, h6⟩ := h
  have hne : ∀ p ∈ P, p.2.1 ≠ u := fun p hp e => by
    unfold fp at hu
    rw [List.find?_eq_none] at hu
    exact hu p hp (decide_eq_true (by rw [e]))
  have hui : u ∉ ids := fun hc => by
    obtain ⟨q, q1, q2⟩ := List.mem_map.mp ((h3 u).mp hc)
    exact hne q q1 q2
  have hat : (enr P u b)[eat P u]? = some (b, p00 u) := by rw [enr_at, if_neg (by omega), if_pos rfl]
  have hlen : ids.length ≤ P.length := by
    have := pig ids (P.map (fun p => p.2.1)) b1 (fun v hv => (h3 v).mp hv)
    rwa [List.length_map] at this
  have hnum : ∀ v, v ∈ (enr P u b).map (fun p => p.2.1) ↔ v ∈ P.map (fun p => p.2.1) ∨ v = u := by
    intro v
    constructor
    · intro hv
      obtain ⟨q, q1, q2⟩ := List.mem_map.mp hv
      rcases enr_mem q1 with q1 | rfl
      · exact Or.inl (List.mem_map.mpr ⟨q, q1, q2⟩)
      · exact Or.inr q2.symm
    · rintro (hv | rfl)
      · exact enr_nums hv
      · exact List.mem_map.mpr ⟨_, List.mem_of_getElem? hat, rfl⟩
  refine ⟨⟨by omega, hs, ht, hn⟩, ⟨ext_nodup b1 hui, by rw [List.length_append]; simp only [List.length_cons, List.length_nil]; omega, fun v hv => ?_⟩, fun v => ?_, set_srt (enr_srt h4 hne) hat hp, fun q hq => ?_, hL⟩
  · rcases List.mem_append.mp hv with hv | hv
    · exact b3 v hv
    · simp at hv; omega
  · rw [set_nums hat hp, hnum v, List.mem_append, h3 v]
    simp
  · rcases List.mem_or_eq_of_mem_set hq with hq | rfl
    · rcases enr_mem hq with hq | rfl
      · exact pok_mono (h5 q hq) (fun v hv => List.mem_append_left _ hv) (by omega)
      · obtain ⟨j, hj⟩ := List.getElem?_of_mem ‹(b, p00 u) ∈ (enr P u b).set (eat P u) (b, p')›
        rw [List.getElem?_set] at hj
        by_cases hje : eat P u = j
        · subst hje
          rw [if_pos rfl, if_pos (List.getElem?_eq_some_iff.mp hat).1] at hj
          rw [← Option.some.inj hj]
          exact pok_mono hpo (fun v hv => hv) (by omega)
        · rw [if_neg hje] at hj
          exact absurd (pw_num (enr_srt (b := b) h4 hne) hat hj rfl) hje
    · exact pok_mono hpo (fun v hv => hv) (by omega)
end IVS
