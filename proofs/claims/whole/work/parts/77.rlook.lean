/-! the reference's view of a lookup -/
def rlv (J : Nat → Nat → Int32) (m i : Nat) (ids : List Nat) (kd tg se : Nat) (C : List Cd) (H : List Nat) : Prop := ((J (m + 13) i).toInt = (kd : Int) ∧ (J (m + 14) i).toInt = (tg : Int) ∧ (J (m + 15) i).toInt = (se : Int)) ∧ rsC J m i ids C ∧ (∀ c ∈ C, c.2.1 = 1 → (J (m + 17) (12 * i + ix ids c.1)).toInt = c.2.2.1) ∧ (∀ c ∈ C, c.2.1 = 2 → (J (m + 18) (12 * i + ix ids c.1)).toInt = c.2.2.2) ∧ (J (m + 19) i).toInt = (H.length : Int) ∧ ∀ (k h : Nat), H[k]? = some h → (J (m + 20) (12 * i + k)).toInt = (h : Int)
/-- what a lookup's candidates keep to -/
def okC (ids : List Nat) (tg : Nat) (C : List Cd) : Prop := srtC tg C ∧ (∀ c ∈ C, c.1 ∈ ids) ∧ ∀ c ∈ C, c.2.1 ≤ 3
theorem srtC_map {t : Nat} {C : List Cd} : srtC t C ↔ (C.map Prod.fst).Pairwise (fun a b => a ^^^ t < b ^^^ t) := by
  unfold srtC
  rw [List.pairwise_map]
theorem srtC_nodup {t : Nat} {C : List Cd} (h : srtC t C) : (C.map Prod.fst).Nodup := by
  have := srtC_map.mp h
  exact List.Pairwise.imp (fun {a b} h e => by rw [e] at h; omega) this
theorem srtC_at {t : Nat} {C : List Cd} (h : srtC t C) {i j : Nat} {c d : Cd} (hi : C[i]? = some c) (hj : C[j]? = some d) (e : c.1 = d.1) : i = j := by
  have hn := srtC_nodup h
  have h1 : (C.map Prod.fst)[i]? = some c.1 := by rw [List.getElem?_map, hi]; rfl
  have h2 : (C.map Prod.fst)[j]? = some c.1 := by rw [List.getElem?_map, hj, e]; rfl
  exact nodup_idx hn h1 h2
/-- one candidate is changed, its number kept -/
theorem mod_mem {C : List Cd} {j : Nat} {d : Cd} {f : Cd → Cd} (hj : C[j]? = some d) {c : Cd} (h : c ∈ C.modify j f) : c = f d ∨ ∃ k, k ≠ j ∧ C[k]? = some c := by
  obtain ⟨k, hk⟩ := List.getElem?_of_mem h
  rw [List.getElem?_modify] at hk
  by_cases hjk : j = k
  · subst hjk
    rw [hj] at hk
    simp at hk
    exact Or.inl hk.symm
  · cases hc : C[k]? with
    | none => rw [hc] at hk; cases hk
    | some e =>
      rw [hc] at hk
      simp [hjk] at hk
      subst hk
      exact Or.inr ⟨k, fun e => hjk e.symm, hc⟩
theorem mod_fst {C : List Cd} {j : Nat} {f : Cd → Cd} (hf : ∀ c, (f c).1 = c.1) : (C.modify j f).map Prod.fst = C.map Prod.fst := by
  apply List.ext_getElem?
  intro k
  rw [List.getElem?_map, List.getElem?_map, List.getElem?_modify]
  cases C[k]? with
  | none => rfl
  | some c => by_cases h : j = k <;> simp [h, hf]
theorem mod_srt {t : Nat} {C : List Cd} {j : Nat} {f : Cd → Cd} (hf : ∀ c, (f c).1 = c.1) (h : srtC t C) : srtC t (C.modify j f) := by
  rw [srtC_map, mod_fst hf]; exact srtC_map.mp h
theorem mod_in {C : List Cd} {j : Nat} {d : Cd} {f : Cd → Cd} (hj : C[j]? = some d) : f d ∈ C.modify j f := by
  have : (C.modify j f)[j]? = some (f d) := by rw [List.getElem?_modify, hj]; simp
  exact List.mem_of_getElem? this
theorem mod_in2 {C : List Cd} {j k : Nat} {c : Cd} {f : Cd → Cd} (hk : C[k]? = some c) (hne : k ≠ j) : c ∈ C.modify j f := by
  have : (C.modify j f)[k]? = some c := by rw [List.getElem?_modify, hk]; simp; exact fun e => absurd e.symm hne
  exact List.mem_of_getElem? this
theorem mod_cS {ids : List Nat} {t : Nat} {C : List Cd} {j : Nat} {d : Cd} {f : Cd → Cd} (hn : ids.Nodup) (hs : srtC t C) (hC : ∀ c ∈ C, c.1 ∈ ids) (hf : ∀ c, (f c).1 = c.1) (hj : C[j]? = some d) (k : Nat) : cS ids (C.modify j f) k = if k = ix ids d.1 then (f d).2.1 + 1 else cS ids C k := by
  have hdm := List.mem_of_getElem? hj
  obtain ⟨a1, a2, a3⟩ := ix_mem hn (hC d hdm)
  by_cases hk : k = ix ids d.1
  · rw [if_pos hk]
    subst hk
    have := cS_ix (ids := ids) hn (mod_srt (j := j) (f := f) hf hs) (mod_in hj) (by rw [hf]; exact hC d hdm)
    rw [hf] at this
    exact this
  · rw [if_neg hk]
    unfold cS
    by_cases hkl : k < ids.length
    · rw [if_pos hkl, if_pos hkl]
      have hne : idg ids k ≠ d.1 := fun e => hk (by rw [← e, ix_idg hn hkl])
      cases hc : cfd C (idg ids k) with
      | none =>
        cases hc2 : cfd (C.modify j f) (idg ids k) with
        | none => rfl
        | some c =>
          obtain ⟨c1, c2⟩ := cfd_some hc2
          rcases mod_mem hj c1 with rfl | ⟨l, -, hl⟩
          · rw [hf] at c2; exact absurd c2.symm hne
          · exact absurd c2 (cfd_none hc c (List.mem_of_getElem? hl))
      | some c =>
        obtain ⟨c1, c2⟩ := cfd_some hc
        obtain ⟨l, hl⟩ := List.getElem?_of_mem c1
        have hlj : l ≠ j := fun e => by
          subst e
          rw [hj] at hl
          cases hl
          exact hne c2.symm
        have := cfd_mem (mod_srt (j := j) (f := f) hf hs) (mod_in2 (f := f) hl hlj)
        rw [c2] at this
        rw [this]
    · rw [if_neg hkl, if_neg hkl]
theorem asked_eq {ids : List Nat} {t : Nat} {C : List Cd} (hn : ids.Nodup) (hs : srtC t C) (hC : ∀ c ∈ C, c.1 ∈ ids) : cn (fun k => decide (cS ids C k = 2)) 0 ids.length = C.countP isA := by
  rw [List.countP_eq_length_filter, ← List.length_map (f := fun (c : Cd) => ix ids c.1)]
  apply cn_len
  · intro j
    constructor
    · intro hj
      obtain ⟨c, hc, rfl⟩ := List.mem_map.mp hj
      obtain ⟨c1, c2⟩ := List.mem_filter.mp hc
      refine ⟨(ix_mem hn (hC c c1)).1, ?_⟩
      rw [cS_ix hn hs c1 (hC c c1)]
      have := of_decide_eq_true c2
      exact decide_eq_true (by omega)
    · intro ⟨hj, hq⟩
      have hq := of_decide_eq_true hq
      unfold cS at hq
      rw [if_pos hj] at hq
      cases hf : cfd C (idg ids j) with
      | none => rw [hf] at hq; simp at hq
      | some c =>
        rw [hf] at hq
        obtain ⟨c1, c2⟩ := cfd_some hf
        refine List.mem_map.mpr ⟨c, List.mem_filter.mpr ⟨c1, decide_eq_true (by dsimp only at hq; omega)⟩, ?_⟩
        rw [c2, ix_idg hn hj]
  · have h1 : ((C.filter isA).map Prod.fst).Nodup := List.Nodup.sublist (List.Sublist.map _ List.filter_sublist) (srtC_nodup hs)
    have h2 : (C.filter isA).map (fun (c : Cd) => ix ids c.1) = ((C.filter isA).map Prod.fst).map (ix ids) := by rw [List.map_map]; rfl
    rw [h2]
    unfold List.Nodup
    rw [List.pairwise_map]
    refine List.Pairwise.imp_of_mem (fun {a b} ha hb h => ?_) h1
    intro e
    obtain ⟨c, hc, rfl⟩ := List.mem_map.mp ha
    obtain ⟨d, hd, rfl⟩ := List.mem_map.mp hb
    have e1 := (ix_mem hn (hC c (List.mem_filter.mp hc).1)).2.1
    have e2 := (ix_mem hn (hC d (List.mem_filter.mp hd).1)).2.1
    rw [e] at e1
    exact h (e1.symm.trans e2)
theorem ix_inj {ids : List Nat} (hn : ids.Nodup) {u v : Nat} (hu : u ∈ ids) (hv : v ∈ ids) (e : ix ids u = ix ids v) : u = v := by
  have e1 := (ix_mem hn hu).2.1
  have e2 := (ix_mem hn hv).2.1
  rw [e] at e1
  exact e1.symm.trans e2
