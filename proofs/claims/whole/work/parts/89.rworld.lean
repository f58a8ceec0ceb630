/-! the reference's world -/
def ren (J : Nat → Nat → Int32) (m i : Nat) (E : List En) : Prop := (J (m + 8) i).toInt = (E.length : Int) ∧ ∀ (j : Nat) (e : En), E[j]? = some e → (J (m + 9) (6 * i + j)).toInt = (e.1 : Int) ∧ (J (m + 10) (6 * i + j)).toInt = (e.2.1 : Int) ∧ (J (m + 11) (6 * i + j)).toInt = (e.2.2 : Int)
/-- the rows of one peer are as they were -/
def smR (J J' : Nat → Nat → Int32) (m i : Nat) : Prop := (∀ z, (z = 1 ∨ z = 2 ∨ z = 6 ∨ z = 8 ∨ z = 12 ∨ z = 13 ∨ z = 14 ∨ z = 15 ∨ z = 19) → J' (m + z) i = J (m + z) i) ∧ (∀ z, (z = 3 ∨ z = 4 ∨ z = 5 ∨ z = 16 ∨ z = 17 ∨ z = 18 ∨ z = 20) → ∀ j, j < 12 → J' (m + z) (12 * i + j) = J (m + z) (12 * i + j)) ∧ (∀ j, j < 9 → J' (m + 7) (9 * i + j) = J (m + 7) (9 * i + j)) ∧ ∀ z, (z = 9 ∨ z = 10 ∨ z = 11) → ∀ j, j < 6 → J' (m + z) (6 * i + j) = J (m + z) (6 * i + j)
theorem smR.refl {J : Nat → Nat → Int32} {m i : Nat} : smR J J m i := ⟨fun _ _ => rfl, fun _ _ _ _ => rfl, fun _ _ => rfl, fun _ _ _ _ => rfl⟩
theorem smR.trans {J J' J'' : Nat → Nat → Int32} {m i : Nat} (h : smR J J' m i) (k : smR J' J'' m i) : smR J J'' m i := ⟨fun z hz => (k.1 z hz).trans (h.1 z hz), fun z hz j hj => (k.2.1 z hz j hj).trans (h.2.1 z hz j hj), fun j hj => (k.2.2.1 j hj).trans (h.2.2.1 j hj), fun z hz j hj => (k.2.2.2 z hz j hj).trans (h.2.2.2 z hz j hj)⟩
theorem ren_congr {J J' : Nat → Nat → Int32} {m i : Nat} {E : List En} (h : ren J m i E) (h6 : E.length ≤ 6) (hs : smR J J' m i) : ren J' m i E := ⟨by rw [hs.1 8 (by omega)]; exact h.1, fun j e hj => by
  have hl := (List.getElem?_eq_some_iff.mp hj).1
  rw [hs.2.2.2 9 (by omega) j (by omega), hs.2.2.2 10 (by omega) j (by omega), hs.2.2.2 11 (by omega) j (by omega)]
  exact h.2 j e hj⟩
theorem smR.L {J J' : Nat → Nat → Int32} {m i : Nat} (h : smR J J' m i) : smL J J' m i := ⟨⟨h.1 13 (by omega), h.1 14 (by omega), h.1 15 (by omega), h.1 19 (by omega)⟩, fun j hj => ⟨h.2.1 16 (by omega) j hj, h.2.1 17 (by omega) j hj, h.2.1 18 (by omega) j hj, h.2.1 20 (by omega) j hj⟩⟩
theorem rlu_congr {J J' : Nat → Nat → Int32} {m i : Nat} {ids : List Nat} {q : Lu} {now nr : Nat} (hn : ids.Nodup ∧ ids.length ≤ 12) (hq : luk ids now nr q) (h : rlu J m i ids q) (hs : smR J J' m i) : rlu J' m i ids q := ⟨by rw [hs.1 12 (by omega)]; exact h.1, fun h0 => rlv_congr hn hq.2.2.1.2.1 (Nat.le_trans (pig _ ids hq.2.2.2.2.1 hq.2.2.2.2.2) hn.2) (h.2 h0) hs.L⟩
def rpe (J : Nat → Nat → Int32) (m : Nat) (ids : List Nat) (st : Nat) (p : Pe) : Prop := (J (m + 2) (ix ids p.1)).toInt = (if p.2.1 = true then 1 else 0) ∧ (∃ s, rtb J m (ix ids p.1) ids p.1 s p.2.2.1 st) ∧ rlu J m (ix ids p.1) ids p.2.2.2.1 ∧ ren J m (ix ids p.1) p.2.2.2.2
theorem rpe_congr {J J' : Nat → Nat → Int32} {m st st' now M : Nat} {ids : List Nat} {p : Pe} (hn : ids.Nodup ∧ ids.length ≤ 12) (hp : pok ids now M p) (h : rpe J m ids st p) (hs : smR J J' m (ix ids p.1)) (hst : st ≤ st') : rpe J' m ids st' p := by
  obtain ⟨h1, ⟨s, h2⟩, h3, h4⟩ := h
  refine ⟨by rw [hs.1 2 (by omega)]; exact h1, ⟨s, ?_⟩, rlu_congr hn hp.2.2.1 h3 hs, ren_congr h4 hp.2.2.2.1 hs⟩
  exact rtb_congr hn.1 hn.2 h2 (hs.1 1 (by omega)) (hs.1 6 (by omega)) (fun j hj => ⟨hs.2.1 3 (by omega) j hj, hs.2.1 4 (by omega) j hj, hs.2.1 5 (by omega) j hj⟩) (fun y hy => hs.2.2.1 y hy) hst
def RW (J : Nat → Nat → Int32) (m : Nat) (ids : List Nat) (P : List (Nat × Pe)) (now ser : Nat) (L : List Dg) (st : Nat) : Prop := rid J m ids ∧ ((J m 0).toInt = (now : Int) ∧ (J m 1).toInt = (ser : Int) ∧ (J m 2).toInt = (st : Int)) ∧ rlin J m L ∧ ∀ p ∈ P, rpe J m ids st p.2
/-- what every call keeps -/
def IV (ids : List Nat) (P : List (Nat × Pe)) (now ser : Nat) (L : List Dg) (st n : Nat) : Prop := (now ≤ n ∧ ser ≤ n ∧ st ≤ n ∧ n ≤ 512) ∧ (ids.Nodup ∧ ids.length ≤ 12 ∧ ∀ u ∈ ids, u < 256) ∧ (∀ u, u ∈ ids ↔ u ∈ P.map (fun p => p.2.1)) ∧ P.Pairwise (fun p q => p.2.1 < q.2.1) ∧ (∀ p ∈ P, pok ids now (12 * n) p.2) ∧ ∀ D ∈ L, okD ids D
/-- a call of the reference changed one peer's rows at most -/
def frX (J J' : Nat → Nat → Int32) (m i : Nat) : Prop := (∀ z j, z < m ∨ m + 22 < z → J' z j = J z j) ∧ (J' m 3 = J m 3 ∧ ∀ j, J' (m + 1) j = J (m + 1) j) ∧ ∀ i', i' ≠ i → smR J J' m i'
theorem frX.refl {J : Nat → Nat → Int32} {m i : Nat} : frX J J m i := ⟨fun _ _ _ => rfl, ⟨rfl, fun _ => rfl⟩, fun _ _ => smR.refl⟩
theorem frX.trans {J J' J'' : Nat → Nat → Int32} {m i : Nat} (h : frX J J' m i) (k : frX J' J'' m i) : frX J J'' m i := ⟨fun z j hz => (k.1 z j hz).trans (h.1 z j hz), ⟨k.2.1.1.trans h.2.1.1, fun j => (k.2.1.2 j).trans (h.2.1.2 j)⟩, fun i' hi => (h.2.2 i' hi).trans (k.2.2 i' hi)⟩
theorem frR.X {J J' : Nat → Nat → Int32} {m i : Nat} (h : frR J J' m) : frX J J' m i := ⟨fun z j hz => h z j (by omega) (by omega), ⟨h _ _ (by omega) (by omega), fun j => h _ _ (by omega) (by omega)⟩, fun i' _ => ⟨fun z hz => h _ _ (by omega) (by omega), fun z hz j _ => h _ _ (by omega) (by omega), fun j _ => h _ _ (by omega) (by omega), fun z hz j _ => h _ _ (by omega) (by omega)⟩⟩
theorem frn.X {J J' : Nat → Nat → Int32} {m i : Nat} (h : frn J J' m i) : frX J J' m i := ⟨fun z j hz => h z j (by omega) (by omega) (by omega) (by omega), ⟨h _ _ (by omega) (by omega) (by omega) (by omega), fun j => h _ _ (by omega) (by omega) (by omega) (by omega)⟩, fun i' hi => ⟨fun z hz => h _ _ (by omega) (by omega) (by omega) (by omega), fun z hz j hj => h _ _ (by omega) (by omega) (by omega) (by omega), fun j _ => h _ _ (by omega) (by omega) (by omega) (by omega), fun z hz j _ => h _ _ (by omega) (by omega) (by omega) (by omega)⟩⟩
theorem frg.n {J J' : Nat → Nat → Int32} {m i : Nat} (h : frg J J' m i) : frn J J' m i := fun z j z1 z2 z3 z4 => h z j z1 z2 (by omega) (by omega)
theorem RW_cong {J J' : Nat → Nat → Int32} {m now ser st : Nat} {ids : List Nat} {P : List (Nat × Pe)} {L : List Dg} {M : Nat} (h : RW J m ids P now ser L st) (hp : ∀ p ∈ P, pok ids now M p.2) (hj : ∀ z j, m ≤ z → z ≤ m + 22 → J' z j = J z j) : RW J' m ids P now ser L st := by
  obtain ⟨h1, ⟨h2, h3, h4⟩, h5, h6⟩ := h
  refine ⟨rid_congr h1 (hj _ _ (by omega) (by omega)) (fun _ => hj _ _ (by omega) (by omega)), ⟨by rw [hj _ _ (by omega) (by omega)]; exact h2, by rw [hj _ _ (by omega) (by omega)]; exact h3, by rw [hj _ _ (by omega) (by omega)]; exact h4⟩, rlin_congr h5 (hj _ _ (by omega) (by omega)) (fun _ => hj _ _ (by omega) (by omega)), fun p hpm => ?_⟩
  exact rpe_congr ⟨h1.2.2.1, h1.2.1⟩ (hp p hpm) (h6 p hpm) ⟨fun z hz => hj _ _ (by omega) (by omega), fun z hz j _ => hj _ _ (by omega) (by omega), fun j _ => hj _ _ (by omega) (by omega), fun z hz j _ => hj _ _ (by omega) (by omega)⟩ (Nat.le_refl _)
theorem pw_num {P : List (Nat × Pe)} (h : P.Pairwise (fun p q => p.2.1 < q.2.1)) {i j : Nat} {p q : Nat × Pe} (hi : P[i]? = some p) (hj : P[j]? = some q) (e : p.2.1 = q.2.1) : i = j := by
  obtain ⟨i1, i2⟩ := List.getElem?_eq_some_iff.mp hi
  obtain ⟨j1, j2⟩ := List.getElem?_eq_some_iff.mp hj
  refine Decidable.byContradiction fun hne => ?_
  rcases Nat.lt_or_gt_of_ne hne with hlt | hlt
  · have := List.pairwise_iff_getElem.mp h i j i1 j1 hlt
    rw [i2, j2] at this
    omega
  · have := List.pairwise_iff_getElem.mp h j i j1 i1 hlt
    rw [i2, j2] at this
    omega
theorem RW_upd {J J' : Nat → Nat → Int32} {m now ser st now' ser' st' k b M : Nat} {ids : List Nat} {P : List (Nat × Pe)} {L L' : List Dg} {p p' : Pe} (h : RW J m ids P now ser L st) (hp : ∀ p ∈ P, pok ids now M p.2) (hs : P.Pairwise (fun p q => p.2.1 < q.2.1)) (hk : P[k]? = some (b, p)) (hf : frX J J' m (ix ids p.1)) (h0 : (J' m 0).toInt = (now' : Int) ∧ (J' m 1).toInt = (ser' : Int) ∧ (J' m 2).toInt = (st' : Int)) (hl : rlin J' m L') (hst : st ≤ st') (hp' : rpe J' m ids st' p') : RW J' m ids (P.set k (b, p')) now' ser' L' st' := by
  obtain ⟨h1, -, -, h6⟩ := h
  have hkl := (List.getElem?_eq_some_iff.mp hk).1
  refine ⟨rid_congr h1 hf.2.1.1 hf.2.1.2, h0, hl, fun q hq => ?_⟩
  obtain ⟨j, hj⟩ := List.getElem?_of_mem hq
  rw [List.getElem?_set] at hj
  by_cases hkj : k = j
  · subst hkj
    rw [if_pos rfl, if_pos hkl] at hj
    cases hj
    exact hp'
  · rw [if_neg hkj] at hj
    have hqm := List.mem_of_getElem? hj
    refine rpe_congr ⟨h1.2.2.1, h1.2.1⟩ (hp q hqm) (h6 q hqm) (hf.2.2 _ (fun e => ?_)) hst
    have hpm := hp _ (List.mem_of_getElem? hk)
    have := ix_inj h1.2.2.1 (hp q hqm).1.2 hpm.1.2 e
    exact hkj (pw_num hs hk hj this.symm)
theorem fp_ix {ids : List Nat} {P : List (Nat × Pe)} {v : Int} (hn : ids.Nodup) (hi : ∀ u, u ∈ ids ↔ u ∈ P.map (fun p => p.2.1)) : kn ids v = (fp P v).map (fun p => ix ids p.2.1) := by
  cases hf : fp P v with
  | none =>
    cases hk : kn ids v with
    | none => rfl
    | some j =>
      obtain ⟨k1, u, k2, k3⟩ := kn_some hk
      obtain ⟨q, q1, q2⟩ := List.mem_map.mp ((hi u).mp (List.mem_of_getElem? k2))
      unfold fp at hf
      rw [List.find?_eq_none] at hf
      exact absurd (decide_eq_true (by rw [q2]; exact k3)) (hf q q1)
  | some p =>
    obtain ⟨k, k1, k2⟩ := fp_mem hf
    have hu := (hi p.2.1).mpr (List.mem_map.mpr ⟨p, List.mem_of_getElem? k1, rfl⟩)
    obtain ⟨a1, a2, a3⟩ := ix_mem hn hu
    rw [← k2]
    exact kn_at hn a3
theorem pok_IV {ids : List Nat} {P : List (Nat × Pe)} {now ser st n : Nat} {L : List Dg} (h : IV ids P now ser L st n) : WF P now ser ∧ (∀ p ∈ P, ∀ b ∈ p.2.2.2.1, qB (12 * n) now b) ∧ (∀ p ∈ P, ∀ b ∈ p.2.2.2.1, b.1 + b.2.1 ≤ 256) ∧ ∀ D ∈ L, okD (P.map (fun p => p.2.1)) D := by
  obtain ⟨⟨a1, a2, a3, a4⟩, ⟨b1, b2, b3⟩, h3, h4, h5, h6⟩ := h
  refine ⟨⟨by omega, fun p hp => wfp_mono (pok_wfp (h5 p hp) (by omega) (by omega)) (fun u hu => (h3 u).mp hu)⟩, fun p hp => (h5 p hp).2.1.2, fun p hp => ?_, fun D hD => okD_mono (h6 D hD) (fun u hu => (h3 u).mp hu)⟩
  obtain ⟨s, hs⟩ := (h5 p hp).2.1.1
  exact tbk_256 hs (h5 p hp).1.1
