/-! the nearest, in their order -/
def dins (t u : Nat) : List Nat → List Nat
  | [] => [u]
  | v :: l => if u ^^^ t < v ^^^ t then u :: v :: l else v :: dins t u l
def dsrt (t : Nat) : List Nat → List Nat
  | [] => []
  | u :: l => dins t u (dsrt t l)
theorem dins_mem {t u x : Nat} : ∀ {l : List Nat}, x ∈ dins t u l ↔ x = u ∨ x ∈ l
  | [] => by simp [dins]
  | v :: l => by
    unfold dins
    split
    · simp
    · rw [List.mem_cons, dins_mem, List.mem_cons]
      constructor
      · rintro (h | h | h)
        · exact Or.inr (Or.inl h)
        · exact Or.inl h
        · exact Or.inr (Or.inr h)
      · rintro (h | h | h)
        · exact Or.inr (Or.inl h)
        · exact Or.inl h
        · exact Or.inr (Or.inr h)
theorem dsrt_mem {t x : Nat} : ∀ {l : List Nat}, x ∈ dsrt t l ↔ x ∈ l
  | [] => by simp [dsrt]
  | u :: l => by
    unfold dsrt
    rw [dins_mem, dsrt_mem, List.mem_cons]
theorem dins_srt {t u : Nat} : ∀ {l : List Nat}, l.Pairwise (fun a b => a ^^^ t < b ^^^ t) → (∀ v ∈ l, v ≠ u) → (dins t u l).Pairwise (fun a b => a ^^^ t < b ^^^ t)
  | [], _, _ => by simp [dins]
  | v :: l, hp, hu => by
    obtain ⟨p1, p2⟩ := List.pairwise_cons.mp hp
    unfold dins
    split
    · rename_i h
      refine List.pairwise_cons.mpr ⟨fun w hw => ?_, hp⟩
      rcases List.mem_cons.mp hw with rfl | hw
      · exact h
      · exact Nat.lt_trans h (p1 w hw)
    · rename_i h
      refine List.pairwise_cons.mpr ⟨fun w hw => ?_, dins_srt p2 (fun w hw => hu w (List.mem_cons_of_mem _ hw))⟩
      rcases dins_mem.mp hw with rfl | hw
      · have : v ^^^ t ≠ w ^^^ t := fun e => hu v List.mem_cons_self (xor_inj e)
        omega
      · exact p1 w hw
theorem dsrt_srt {t : Nat} : ∀ {l : List Nat}, l.Nodup → (dsrt t l).Pairwise (fun a b => a ^^^ t < b ^^^ t)
  | [], _ => by simp [dsrt]
  | u :: l, hn => by
    obtain ⟨n1, n2⟩ := List.nodup_cons.mp hn
    exact dins_srt (dsrt_srt n2) (fun v hv e => n1 (e ▸ dsrt_mem.mp hv))
/-- one that may be taken -/
def elg (t : Nat) (d e : Int) (n : Nat) : Prop := (n : Int) ≠ e ∧ d < ((n ^^^ t : Nat) : Int)
theorem stp_spec {t : Nat} {d e : Int} : ∀ (l : List Nat) (b : Option Nat), (l.foldl (stp t d e) b = none ↔ b = none ∧ ∀ n ∈ l, ¬ elg t d e n) ∧ ∀ m, l.foldl (stp t d e) b = some m → (b = some m ∨ (m ∈ l ∧ elg t d e m)) ∧ (∀ k, b = some k → m ^^^ t ≤ k ^^^ t) ∧ ∀ n ∈ l, elg t d e n → m ^^^ t ≤ n ^^^ t
  | [], b => by
    refine ⟨?_, fun m hm => ⟨Or.inl hm, fun k hk => ?_, fun n hn => by cases hn⟩⟩
    · simp
    · have hm : b = some m := hm
      rw [hk] at hm
      cases hm
      exact Nat.le_refl _
  | n :: l, b => by
    obtain ⟨h1, h2⟩ := stp_spec l (stp t d e b n)
    rw [List.foldl_cons]
    have cs : (stp t d e b n = b ∧ (¬ elg t d e n ∨ ∃ k, b = some k ∧ k ^^^ t ≤ n ^^^ t)) ∨ (stp t d e b n = some n ∧ elg t d e n ∧ ∀ k, b = some k → n ^^^ t ≤ k ^^^ t) := by
      unfold stp
      by_cases he : (n : Int) = e
      · rw [if_pos he]
        exact Or.inl ⟨rfl, Or.inl (fun h => h.1 he)⟩
      · rw [if_neg he]
        by_cases hd : ((n ^^^ t : Nat) : Int) ≤ d
        · rw [if_pos hd]
          exact Or.inl ⟨rfl, Or.inl (fun h => by have := h.2; omega)⟩
        · rw [if_neg hd]
          cases b with
          | none => exact Or.inr ⟨rfl, ⟨he, by omega⟩, fun k hk => by cases hk⟩
          | some k =>
            dsimp only
            by_cases hk : k ^^^ t ≤ n ^^^ t
            · rw [if_pos hk]
              exact Or.inl ⟨rfl, Or.inr ⟨k, rfl, hk⟩⟩
            · rw [if_neg hk]
              exact Or.inr ⟨rfl, ⟨he, by omega⟩, fun j hj => by cases hj; omega⟩
    rcases cs with ⟨e1, e2⟩ | ⟨e1, e2, e3⟩
    · rw [e1] at h1 h2 ⊢
      refine ⟨⟨fun h => ?_, fun h => ?_⟩, fun m hm => ?_⟩
      · obtain ⟨b0, hl⟩ := h1.mp h
        refine ⟨b0, fun k hk => ?_⟩
        rcases List.mem_cons.mp hk with rfl | hk
        · rcases e2 with e2 | ⟨j, hj, -⟩
          · exact e2
          · rw [b0] at hj; cases hj
        · exact hl k hk
      · exact h1.mpr ⟨h.1, fun k hk => h.2 k (List.mem_cons_of_mem _ hk)⟩
      · obtain ⟨a1, a2, a3⟩ := h2 m hm
        refine ⟨a1.imp id (fun h => ⟨List.mem_cons_of_mem _ h.1, h.2⟩), a2, fun k hk he => ?_⟩
        rcases List.mem_cons.mp hk with rfl | hk
        · rcases e2 with e2 | ⟨j, hj, hj2⟩
          · exact absurd he e2
          · exact Nat.le_trans (a2 j hj) hj2
        · exact a3 k hk he
    · rw [e1] at h1 h2 ⊢
      refine ⟨⟨fun h => (by cases (h1.mp h).1), fun h => absurd e2 (h.2 n List.mem_cons_self)⟩, fun m hm => ?_⟩
      obtain ⟨a1, a2, a3⟩ := h2 m hm
      refine ⟨Or.inr ?_, fun k hk => Nat.le_trans (a2 n rfl) (e3 k hk), fun k hk he => ?_⟩
      · rcases a1 with a1 | a1
        · cases a1
          exact ⟨List.mem_cons_self, e2⟩
        · exact ⟨List.mem_cons_of_mem _ a1.1, a1.2⟩
      · rcases List.mem_cons.mp hk with rfl | hk
        · exact a2 k rfl
        · exact a3 k hk he
theorem cbb_none {bs : List Bk} {t : Nat} {d e : Int} (h : ∀ n ∈ cns bs, ¬ elg t d e n) : cbb bs t d e = none := (stp_spec (t := t) (d := d) (e := e) (cns bs) none).1.mpr ⟨rfl, h⟩
theorem cbb_some {bs : List Bk} {t m : Nat} {d e : Int} (hm : m ∈ cns bs) (he : elg t d e m) (h : ∀ n ∈ cns bs, elg t d e n → m ^^^ t ≤ n ^^^ t) : cbb bs t d e = some m := by
  obtain ⟨h1, h2⟩ := stp_spec (t := t) (d := d) (e := e) (cns bs) none
  unfold cbb
  cases hc : (cns bs).foldl (stp t d e) none with
  | none => exact absurd he ((h1.mp hc).2 m hm)
  | some k =>
    obtain ⟨a1, -, a3⟩ := h2 k hc
    rcases a1 with a1 | ⟨a1, a4⟩
    · cases a1
    · have x1 := a3 m hm he
      have x2 := h k a1 a4
      rw [xor_inj (Nat.le_antisymm x1 x2)]
/-- the contacts by their distance, one left out -/
def nA (X : List Nat) (t : Nat) (e : Int) : List Nat := dsrt t (X.filter (fun n => decide ((n : Int) ≠ e)))
theorem nA_mem {X : List Nat} {t n : Nat} {e : Int} : n ∈ nA X t e ↔ n ∈ X ∧ (n : Int) ≠ e := by
  unfold nA
  rw [dsrt_mem, List.mem_filter]
  simp
theorem nA_srt {X : List Nat} {t : Nat} {e : Int} (h : X.Nodup) : (nA X t e).Pairwise (fun a b => a ^^^ t < b ^^^ t) := dsrt_srt (h.sublist List.filter_sublist)
theorem nA_lt {X : List Nat} {t : Nat} {e : Int} (h : X.Nodup) {i j a b : Nat} (hi : (nA X t e)[i]? = some a) (hj : (nA X t e)[j]? = some b) (hij : i < j) : a ^^^ t < b ^^^ t := by
  obtain ⟨i1, i2⟩ := List.getElem?_eq_some_iff.mp hi
  obtain ⟨j1, j2⟩ := List.getElem?_eq_some_iff.mp hj
  have := List.pairwise_iff_getElem.mp (nA_srt (t := t) (e := e) h) i j i1 j1 hij
  rw [i2, j2] at this
  exact this
theorem cbb_nA {bs : List Bk} {t k : Nat} {d e : Int} (hn : (cns bs).Nodup) (hlo : ∀ j u, j < k → (nA (cns bs) t e)[j]? = some u → ((u ^^^ t : Nat) : Int) ≤ d) (hhi : ∀ j u, k ≤ j → (nA (cns bs) t e)[j]? = some u → d < ((u ^^^ t : Nat) : Int)) : cbb bs t d e = (nA (cns bs) t e)[k]? := by
  have pl : ∀ n ∈ cns bs, elg t d e n → ∃ j, k ≤ j ∧ (nA (cns bs) t e)[j]? = some n := by
    intro n h1 h2
    obtain ⟨j, hj⟩ := List.getElem?_of_mem ((nA_mem (t := t)).mpr ⟨h1, h2.1⟩)
    refine ⟨j, ?_, hj⟩
    refine Decidable.byContradiction fun hlt => ?_
    have := hlo j n (by omega) hj
    have := h2.2
    omega
  cases hk : (nA (cns bs) t e)[k]? with
  | none =>
    apply cbb_none
    intro n h1 h2
    obtain ⟨j, j1, j2⟩ := pl n h1 h2
    have := (List.getElem?_eq_some_iff.mp j2).1
    have := List.getElem?_eq_none_iff.mp hk
    omega
  | some m =>
    have hm := nA_mem.mp (List.mem_of_getElem? hk)
    apply cbb_some hm.1 ⟨hm.2, hhi k m (Nat.le_refl _) hk⟩
    intro n h1 h2
    obtain ⟨j, j1, j2⟩ := pl n h1 h2
    by_cases hjk : j = k
    · subst hjk
      rw [hk] at j2
      cases j2
      exact Nat.le_refl _
    · exact Nat.le_of_lt (nA_lt hn hk j2 (by omega))
theorem cbb_0 {bs : List Bk} {t : Nat} {e : Int} (hn : (cns bs).Nodup) : cbb bs t (-1) e = (nA (cns bs) t e)[0]? := cbb_nA hn (fun j u h => by omega) (fun j u _ _ => by omega)
theorem cbb_s {bs : List Bk} {t k n : Nat} {e : Int} (hn : (cns bs).Nodup) (hk : (nA (cns bs) t e)[k]? = some n) : cbb bs t ((n ^^^ t : Nat) : Int) e = (nA (cns bs) t e)[k + 1]? := by
  apply cbb_nA hn
  · intro j u hj hu
    by_cases hjk : j = k
    · subst hjk
      rw [hk] at hu
      cases hu
      exact Int.le_refl _
    · have := nA_lt hn hu hk (by omega)
      omega
  · intro j u hj hu
    have := nA_lt hn hk hu (by omega)
    omega
theorem drop_some {α : Type} {A : List α} {k : Nat} {n : α} (h : A[k]? = some n) : A.drop k = n :: A.drop (k + 1) := by
  obtain ⟨h1, h2⟩ := List.getElem?_eq_some_iff.mp h
  rw [List.drop_eq_getElem_cons h1, h2]
theorem drop_none {α : Type} {A : List α} {k : Nat} (h : A[k]? = none) : A.drop k = [] := List.drop_eq_nil_of_le (List.getElem?_eq_none_iff.mp h)
theorem an3_nA {bs : List Bk} {t : Nat} {e : Int} (hn : (cns bs).Nodup) : ∀ (r k : Nat), an3 bs t e r ((nA (cns bs) t e)[k]?) = (((nA (cns bs) t e).drop k).take r).map (fun (n : Nat) => (n : Int))
  | 0, k => by simp [an3]
  | r + 1, k => by
    cases hk : (nA (cns bs) t e)[k]? with
    | none => rw [drop_none hk]; simp [an3]
    | some n =>
      unfold an3
      rw [cbb_s hn hk, an3_nA hn r (k + 1), drop_some hk, List.take_succ_cons, List.map_cons]
theorem cl3_nA {bs : List Bk} {t : Nat} (hn : (cns bs).Nodup) : ∀ (r k : Nat) (C : List Cd), cl3 bs t r ((nA (cns bs) t (-1))[k]?) C = (((nA (cns bs) t (-1)).drop k).take r).foldl (fun C n => cadd C t n) C
  | 0, k, C => by simp [cl3]
  | r + 1, k, C => by
    cases hk : (nA (cns bs) t (-1))[k]? with
    | none => rw [drop_none hk]; simp [cl3]
    | some n =>
      unfold cl3
      rw [cbb_s hn hk, cl3_nA hn r (k + 1), drop_some hk, List.take_succ_cons, List.foldl_cons]
theorem nth3_nA {bs : List Bk} {t : Nat} (hn : (cns bs).Nodup) : ∀ (r k : Nat), nth3 bs t r ((nA (cns bs) t (-1))[k]?) = (nA (cns bs) t (-1))[k + r]?
  | 0, k => by simp [nth3]
  | r + 1, k => by
    cases hk : (nA (cns bs) t (-1))[k]? with
    | none =>
      have := List.getElem?_eq_none_iff.mp hk
      rw [List.getElem?_eq_none (by omega)]
      rfl
    | some n =>
      unfold nth3
      rw [cbb_s hn hk, nth3_nA hn r (k + 1), show k + 1 + r = k + (r + 1) by omega]
theorem near_eq {ids X : List Nat} {M : Nat → Bool} {t r : Nat} {w e : Int} (hn : ids.Nodup) (hX : X.Nodup) (hs : ∀ u ∈ X, u ∈ ids) (hM : ∀ j, j < ids.length → (M j = true ↔ idg ids j ∈ X)) (hw : ∀ u ∈ ids, ((ix ids u : Nat) : Int) = w ↔ (u : Int) = e) : nth (nq M w) (dlt ids t) ids.length r = ((nA X t e)[r]?).map (ix ids) := by
  rw [← List.getElem?_map]
  have hI : ∀ u ∈ nA X t e, idg ids (ix ids u) = u := fun u hu => (ix_mem hn (hs u (nA_mem.mp hu).1)).2.1
  apply nth_eq
  · intro j
    constructor
    · intro hj
      obtain ⟨u, hu, rfl⟩ := List.mem_map.mp hj
      obtain ⟨u1, u2⟩ := nA_mem.mp hu
      obtain ⟨a1, a2, -⟩ := ix_mem hn (hs u u1)
      refine ⟨a1, ?_⟩
      unfold nq
      rw [(hM _ a1).mpr (by rw [a2]; exact u1), Bool.true_and]
      exact decide_eq_true (fun h => u2 ((hw u (hs u u1)).mp h))
    · intro ⟨hj, hq⟩
      unfold nq at hq
      rw [Bool.and_eq_true] at hq
      have h1 := (hM j hj).mp hq.1
      have h2 := of_decide_eq_true hq.2
      refine List.mem_map.mpr ⟨idg ids j, nA_mem.mpr ⟨h1, fun h => h2 ?_⟩, ix_idg hn hj⟩
      have := (hw _ (hs _ h1)).mpr h
      rw [ix_idg hn hj] at this
      exact this
  · intro a _ b _ h
    unfold dlt at h ⊢
    have := of_decide_eq_true h
    exact decide_eq_false (by omega)
  · rw [List.pairwise_map]
    refine List.Pairwise.imp_of_mem (fun {c d} h1 h2 h => ?_) (nA_srt hX)
    unfold dlt
    rw [hI c h1, hI d h2]
    exact decide_eq_true h
theorem hw_none {ids : List Nat} : ∀ u ∈ ids, ((ix ids u : Nat) : Int) = -1 ↔ (u : Int) = -1 := fun u _ => by omega
theorem hw_some {ids : List Nat} (hn : ids.Nodup) {v : Nat} (hv : v ∈ ids) : ∀ u ∈ ids, ((ix ids u : Nat) : Int) = ((ix ids v : Nat) : Int) ↔ (u : Int) = (v : Int) := fun u hu => ⟨fun h => by rw [ix_inj hn hu hv (by omega)], fun h => by rw [show u = v by omega]⟩
