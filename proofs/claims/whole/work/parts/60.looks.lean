/-! the looking calls -/
section LOOKS
variable {G : mm_M} {J : Nat → Nat → Int32} {a now ser N : Nat} {P : List (Nat × Pe)} {L : List Dg}
theorem ups_pv {v : Int} {p : Nat × Pe} (h : CW G J a P now ser L) (hu : ups P v = some p) : a + 29 ≤ p.1 ∧ pv G J p.1 p.2 ∧ ∃ k : Nat, P[k]? = some p := by
  obtain ⟨k, hk, -⟩ := fp_mem (ups_fp hu).1
  obtain ⟨q1, q2, q3⟩ := h.2.2.2.2.1 k p hk
  exact ⟨q2, q3, k, hk⟩
theorem e_clock (h : CW G J a P now ser L) : ∃ v : Int32, pX6_clock_0 N a (mm_w G J) = some (mm_w G J, v) ∧ v.toInt = (now : Int) := by
  refine ⟨_, ?_, h.2.2.1.2.1⟩
  unfold pX6_clock_0
  rw [w_gI h.1.1]
theorem e_waiting (h : CW G J a P now ser L) : ∃ v : Int32, pX6_waiting_0 N a (mm_w G J) = some (mm_w G J, v) ∧ v.toInt = (L.length : Int) := by
  refine ⟨_, ?_, h.2.2.2.1.1⟩
  unfold pX6_waiting_0
  rw [w_gR h.1.1, h.1.2.1.2.1, w_nn, w_gI h.1.2.2.2.1.1]
def aDg (L : List Dg) (k c : Int) : Int := if 0 ≤ k ∧ k < L.length ∧ 0 ≤ c ∧ c < 12 then (L.getD k.toNat (fun _ => 0)) c.toNat else -1
theorem e_datagram {x y : Int32} (h : CW G J a P now ser L) : ∃ v : Int32, pX6_datagram_0 N a (mm_w G J) x y = some (mm_w G J, v) ∧ v.toInt = aDg L x.toInt y.toInt := by
  unfold pX6_datagram_0 aDg
  rw [w_gR h.1.1, h.1.2.1.2.1, w_nn, w_is h.1.2.2.2.1.1, e_has h.1.2.2.2.1 h.2.2.2.1, w_cl]
  by_cases hx : 0 ≤ x.toInt ∧ x.toInt < L.length
  · rw [if_pos hx, if_neg (by decide)]
    by_cases hy0 : y.toInt < 0
    · rw [if_pos (by rw [zi_lt, zi_0]; exact hy0), if_neg (by omega)]
      exact ⟨_, rfl, zi_m1⟩
    · rw [if_neg (by rw [zi_lt, zi_0]; exact hy0)]
      by_cases hy1 : y.toInt < 12
      · rw [if_pos (by rw [zi_lt, zi_12]; exact hy1), if_pos ⟨hx.1, hx.2, by omega, hy1⟩, w_gR h.1.1, h.1.2.1.2.1, w_nn, w_is h.1.2.2.2.1.1]
        have hk : L[x.toInt.toNat]? = some (L.getD x.toInt.toNat (fun _ => 0)) := by
          rw [List.getD_eq_getElem?_getD, List.getElem?_eq_getElem (by omega)]
          rfl
        obtain ⟨v, e1, e2⟩ := e_lcell (N := N) (x := x) (y := y) (k := x.toInt.toNat) (c := y.toInt.toNat) h.1.2.2.2.1 h.2.2.2.1 h.2.1.2 (by omega) (by omega) hk (by omega)
        rw [e1, w_cl]
        exact ⟨v, rfl, e2⟩
      · rw [if_neg (by rw [zi_lt, zi_12]; exact hy1), if_neg (by omega)]
        exact ⟨_, rfl, zi_m1⟩
  · rw [if_neg hx, if_pos rfl, if_neg (by omega)]
    exact ⟨_, rfl, zi_m1⟩
def aLook (P : List (Nat × Pe)) (v : Int) : Int := match ups P v with
  | some p => (p.2.2.2.2.1.1 : Int)
  | none => -1
theorem e_lookup {x : Int32} (h : CW G J a P now ser L) (hN : 400 ≤ N) : ∃ v : Int32, pX6_lookup_0 N a (mm_w G J) x = some (mm_w G J, v) ∧ v.toInt = aLook P x.toInt := by
  unfold pX6_lookup_0 aLook
  rw [w_is h.1.1, e_up h hN, w_cl]
  cases hu : ups P x.toInt with
  | none => exact ⟨_, rfl, zi_m1⟩
  | some p =>
    obtain ⟨-, q, -⟩ := ups_pv h hu
    simp only [Option.map_some]
    rw [w_op, w_gR q.1.1, q.1.2.1.2.1, w_nn, w_gI q.1.2.2.1.1]
    exact ⟨_, rfl, q.2.2.2.1.1.1⟩
def aCand (P : List (Nat × Pe)) (v j : Int) : Int := match ups P v with
  | some p => if 0 ≤ j ∧ j < p.2.2.2.2.1.2.2.2.2.1.length then ((cgt p.2.2.2.2.1.2.2.2.2.1 j.toNat).1 : Int) + 256 * ((cgt p.2.2.2.2.1.2.2.2.2.1 j.toNat).2.1 : Int) else -1
  | none => -1
theorem e_candidate {x y : Int32} (h : CW G J a P now ser L) (hN : 400 ≤ N) (hw : ∀ p ∈ P, p.2.2.2.2.1.2.2.2.2.1.length ≤ 12 ∧ ∀ c ∈ p.2.2.2.2.1.2.2.2.2.1, c.1 < 256 ∧ c.2.1 < 100) : ∃ v : Int32, pX6_candidate_0 N a (mm_w G J) x y = some (mm_w G J, v) ∧ v.toInt = aCand P x.toInt y.toInt := by
  unfold pX6_candidate_0 aCand
  rw [w_is h.1.1, e_up h hN, w_cl]
  cases hu : ups P x.toInt with
  | none => exact ⟨_, rfl, zi_m1⟩
  | some p =>
    obtain ⟨-, q, k, hk⟩ := ups_pv h hu
    have qL := q.1.2.2.1
    have r0 := qL.2 0 (by omega)
    have r1 := qL.2 1 (by omega)
    obtain ⟨w1, w2⟩ := hw p (List.mem_of_getElem? hk)
    simp only [Option.map_some]
    rw [w_op, w_gR q.1.1, q.1.2.1.2.1, w_nn, w_is qL.1, e_hascand qL q.2.2.2.1, w_cl]
    by_cases hy : 0 ≤ y.toInt ∧ y.toInt < p.2.2.2.2.1.2.2.2.2.1.length
    · rw [if_pos hy, if_pos hy, if_neg (by decide), w_gR q.1.1, q.1.2.1.2.1, w_nn, w_gR qL.1, r0.1, w_nn]
      have hlt : y.toInt.toNat < p.2.2.2.2.1.2.2.2.2.1.length := by omega
      obtain ⟨t1, t2, -, -⟩ := q.2.2.2.1.2.2.1 _ _ (cgt_at hlt)
      obtain ⟨w3, w4⟩ := w2 _ (List.mem_of_getElem? (cgt_at hlt))
      rw [w_aI (i := y.toInt.toNat) r0.2.1 (by omega) (by rw [r0.2.2]; omega), w_gR q.1.1, q.1.2.1.2.1, w_nn, w_gR qL.1, r1.1, w_nn, w_aI (i := y.toInt.toNat) r1.2.1 (by omega) (by rw [r1.2.2]; omega)]
      refine ⟨_, rfl, ?_⟩
      rw [zi_add t1 (zi_mul zi_256 t2 (by omega) (by omega)) (by omega) (by omega)]
    · rw [if_neg hy, if_neg hy, if_pos rfl]
      exact ⟨_, rfl, zi_m1⟩
def aFound (P : List (Nat × Pe)) (v j : Int) : Int := match ups P v with
  | some p => if 0 ≤ j ∧ j < p.2.2.2.2.1.2.2.2.2.2.length then ((p.2.2.2.2.1.2.2.2.2.2.getD j.toNat 0 : Nat) : Int) else -1
  | none => -1
theorem e_found {x y : Int32} (h : CW G J a P now ser L) (hN : 400 ≤ N) (hw : ∀ p ∈ P, p.2.2.2.2.1.2.2.2.2.2.length ≤ 12) : ∃ v : Int32, pX6_found_0 N a (mm_w G J) x y = some (mm_w G J, v) ∧ v.toInt = aFound P x.toInt y.toInt := by
  unfold pX6_found_0 aFound
  rw [w_is h.1.1, e_up h hN, w_cl]
  cases hu : ups P x.toInt with
  | none => exact ⟨_, rfl, zi_m1⟩
  | some p =>
    obtain ⟨-, q, k, hk⟩ := ups_pv h hu
    have qL := q.1.2.2.1
    have r4 := qL.2 4 (by omega)
    have w1 := hw p (List.mem_of_getElem? hk)
    simp only [Option.map_some]
    rw [w_op]
    by_cases hy0 : y.toInt < 0
    · rw [if_pos (by rw [zi_lt, zi_0]; exact hy0), if_neg (by omega)]
      exact ⟨_, rfl, zi_m1⟩
    · rw [if_neg (by rw [zi_lt, zi_0]; exact hy0), w_gR q.1.1, q.1.2.1.2.1, w_nn, w_gI qL.1]
      have hc := q.2.2.2.1.2.1.2
      by_cases hy1 : y.toInt < p.2.2.2.2.1.2.2.2.2.2.length
      · rw [if_pos (by rw [zi_lt, hc]; exact hy1), if_pos ⟨by omega, hy1⟩, w_gR q.1.1, q.1.2.1.2.1, w_nn, w_gR qL.1, r4.1, w_nn, w_aI (i := y.toInt.toNat) r4.2.1 (by omega) (by rw [r4.2.2]; omega)]
        refine ⟨_, rfl, q.2.2.2.1.2.2.2 _ _ ?_⟩
        rw [List.getD_eq_getElem?_getD, List.getElem?_eq_getElem (by omega)]
        rfl
      · rw [if_neg (by rw [zi_lt, hc]; exact hy1), if_neg (by omega)]
        exact ⟨_, rfl, zi_m1⟩
def aBks (P : List (Nat × Pe)) (v : Int) : Int := match ups P v with
  | some p => (p.2.2.2.1.length : Int)
  | none => -1
theorem e_buckets {x : Int32} (h : CW G J a P now ser L) (hN : 400 ≤ N) : ∃ v : Int32, pX6_buckets_0 N a (mm_w G J) x = some (mm_w G J, v) ∧ v.toInt = aBks P x.toInt := by
  unfold pX6_buckets_0 aBks
  rw [w_is h.1.1, e_up h hN, w_cl]
  cases hu : ups P x.toInt with
  | none => exact ⟨_, rfl, zi_m1⟩
  | some p =>
    obtain ⟨-, q, -⟩ := ups_pv h hu
    obtain ⟨w, hw, ht⟩ := q.2.2.1
    simp only [Option.map_some]
    rw [w_op, w_gR q.1.1, q.1.2.1.1, w_nn, w_gI hw.1]
    exact ⟨_, rfl, ht.2.1⟩
def gB (P : List (Nat × Pe)) (v j : Int) : Option Bk := match ups P v with
  | some p => if 0 ≤ j ∧ j < p.2.2.2.1.length then some (bg p.2.2.2.1 j.toNat) else none
  | none => none
theorem e_bucketOf {x y : Int32} (h : CW G J a P now ser L) (hN : 400 ≤ N) (hw9 : ∀ p ∈ P, p.2.2.2.1.length ≤ 9) : (gB P x.toInt y.toInt = none ∧ pX6_bucketOf_0 N a (mm_w G J) x y = some (mm_w G J, none)) ∨ ∃ c b, gB P x.toInt y.toInt = some c ∧ pX6_bucketOf_0 N a (mm_w G J) x y = some (mm_w G J, some b) ∧ sB G b ∧ bk J b c.1 c.2.1 c.2.2.1 c.2.2.2 := by
  unfold pX6_bucketOf_0 gB
  rw [w_is h.1.1, e_up h hN, w_cl]
  cases hu : ups P x.toInt with
  | none => exact Or.inl ⟨rfl, rfl⟩
  | some p =>
    obtain ⟨-, q, k, hk⟩ := ups_pv h hu
    obtain ⟨w, hw, ht⟩ := q.2.2.1
    have w9 := hw9 p (List.mem_of_getElem? hk)
    simp only [Option.map_some]
    by_cases hy : 0 ≤ y.toInt ∧ y.toInt < p.2.2.2.1.length
    · have hlt : y.toInt.toNat < p.2.2.2.1.length := by omega
      have hrow := hw.row (k := y.toInt.toNat) (by omega)
      refine Or.inr ⟨_, _, if_pos hy, ?_, hrow.2.1, ht.2.2 _ _ (bg_at hlt)⟩
      rw [w_op, if_neg (by rw [zi_lt, zi_0]; omega), w_gR q.1.1, q.1.2.1.1, w_nn, w_gI hw.1, if_pos (by rw [zi_lt, ht.2.1]; exact hy.2), w_gR q.1.1, q.1.2.1.1, w_nn, w_gR hw.1, hw.2.1, w_nn, w_aR (i := y.toInt.toNat) hw.2.2.1.1 (by omega) (by rw [hw.2.2.1.2]; omega), hrow.1]
    · refine Or.inl ⟨if_neg hy, ?_⟩
      rw [w_op]
      by_cases hy0 : y.toInt < 0
      · rw [if_pos (by rw [zi_lt, zi_0]; exact hy0)]
      · rw [if_neg (by rw [zi_lt, zi_0]; exact hy0), w_gR q.1.1, q.1.2.1.1, w_nn, w_gI hw.1, if_neg (by rw [zi_lt, ht.2.1]; omega)]
def aBk (P : List (Nat × Pe)) (now : Nat) (v j : Int) : Int := match gB P v j with
  | some c => (c.1 : Int) + 256 * (c.2.2.2.length : Int) + 1024 * ((now : Int) - c.2.2.1)
  | none => -1
theorem gB_mem {v j : Int} {c : Bk} (hg : gB P v j = some c) : ∃ p ∈ P, c ∈ p.2.2.2.1 := by
  unfold gB at hg
  cases hu : ups P v with
  | none => rw [hu] at hg; cases hg
  | some p =>
    rw [hu] at hg
    dsimp only at hg
    split at hg
    · cases hg
      obtain ⟨k, hk, -⟩ := fp_mem (ups_fp hu).1
      exact ⟨p, List.mem_of_getElem? hk, List.mem_of_getElem? (bg_at (by omega))⟩
    · cases hg
theorem e_bucket {x y : Int32} (h : CW G J a P now ser L) (hN : 400 ≤ N) (hw9 : ∀ p ∈ P, p.2.2.2.1.length ≤ 9) (hw : ∀ p ∈ P, ∀ c ∈ p.2.2.2.1, c.1 < 1000 ∧ c.2.2.2.length ≤ 3 ∧ c.2.2.1 < 100000) (hnow : now < 100000) : ∃ v : Int32, pX6_bucket_0 N a (mm_w G J) x y = some (mm_w G J, v) ∧ v.toInt = aBk P now x.toInt y.toInt := by
  unfold pX6_bucket_0 aBk
  rw [w_is h.1.1]
  rcases e_bucketOf (x := x) (y := y) h hN hw9 with ⟨e1, e2⟩ | ⟨c, b, e1, e2, e3, e4⟩
  · rw [e2, w_cl, e1]
    exact ⟨_, rfl, zi_m1⟩
  · obtain ⟨p, hp, hc⟩ := gB_mem e1
    obtain ⟨w1, w2, w3⟩ := hw p hp c hc
    rw [e2, w_cl, e1, w_op, w_gI e3.1, w_gI e3.1, w_gI h.1.1, w_gI e3.1]
    refine ⟨_, rfl, ?_⟩
    rw [zi_add (zi_add e4.1 (zi_mul zi_256 e4.2.2.2.1 (by omega) (by omega)) (by omega) (by omega)) (zi_mul zi_1024 (zi_sub h.2.2.1.2.1 e4.2.2.1 (by omega) (by omega)) (by omega) (by omega)) (by omega) (by omega)]
def aCt (P : List (Nat × Pe)) (v b j : Int) : Int := match gB P v b with
  | some c => if 0 ≤ j ∧ j < c.2.2.2.length then ((c.2.2.2.getD j.toNat (0, 0)).1 : Int) + 256 * ((c.2.2.2.getD j.toNat (0, 0)).2 : Int) else -1
  | none => -1
theorem e_contact {x y z : Int32} (h : CW G J a P now ser L) (hN : 400 ≤ N) (hw9 : ∀ p ∈ P, p.2.2.2.1.length ≤ 9) (hw : ∀ p ∈ P, ∀ c ∈ p.2.2.2.1, c.2.2.2.length ≤ 3 ∧ ∀ d ∈ c.2.2.2, d.1 < 256 ∧ d.2 < 100000) : ∃ v : Int32, pX6_contact_0 N a (mm_w G J) x y z = some (mm_w G J, v) ∧ v.toInt = aCt P x.toInt y.toInt z.toInt := by
  unfold pX6_contact_0 aCt
  rw [w_is h.1.1]
  rcases e_bucketOf (x := x) (y := y) h hN hw9 with ⟨e1, e2⟩ | ⟨c, b, e1, e2, e3, e4⟩
  · rw [e2, w_cl, e1]
    exact ⟨_, rfl, zi_m1⟩
  · obtain ⟨p, hp, hc⟩ := gB_mem e1
    obtain ⟨w2, w3⟩ := hw p hp c hc
    rw [e2, w_cl, e1, w_op]
    dsimp only
    by_cases hy0 : z.toInt < 0
    · rw [if_pos (by rw [zi_lt, zi_0]; exact hy0), if_neg (by omega)]
      exact ⟨_, rfl, zi_m1⟩
    · rw [if_neg (by rw [zi_lt, zi_0]; exact hy0), w_gI e3.1]
      by_cases hy1 : z.toInt < c.2.2.2.length
      · have hlt : c.2.2.2[z.toInt.toNat]? = some (c.2.2.2.getD z.toInt.toNat (0, 0)) := by
          rw [List.getD_eq_getElem?_getD, List.getElem?_eq_getElem (by omega)]
          rfl
        obtain ⟨t1, t2⟩ := e4.2.2.2.2 _ _ hlt
        obtain ⟨w4, w5⟩ := w3 _ (List.mem_of_getElem? hlt)
        rw [if_pos (by rw [zi_lt, e4.2.2.2.1]; exact hy1), if_pos ⟨by omega, hy1⟩, w_gR e3.1, e3.2.1, w_nn, w_aI (i := z.toInt.toNat) e3.2.2.2.1.1 (by omega) (by rw [e3.2.2.2.1.2]; omega), w_gR e3.1, e3.2.2.1, w_nn, w_aI (i := z.toInt.toNat) e3.2.2.2.2.1 (by omega) (by rw [e3.2.2.2.2.2]; omega)]
        refine ⟨_, rfl, ?_⟩
        rw [zi_add t1 (zi_mul zi_256 t2 (by omega) (by omega)) (by omega) (by omega)]
      · rw [if_neg (by rw [zi_lt, e4.2.2.2.1]; exact hy1), if_neg (by omega)]
        exact ⟨_, rfl, zi_m1⟩
def egt (E : List En) (j : Nat) : En := E.getD j (0, 0, 0)
theorem egt_at {E : List En} {j : Nat} (h : j < E.length) : E[j]? = some (egt E j) := by
  unfold egt
  rw [List.getD_eq_getElem?_getD, List.getElem?_eq_getElem h]
  rfl
def aEnt (P : List (Nat × Pe)) (now : Nat) (v j : Int) : Int := match ups P v with
  | some p => if 0 ≤ j ∧ j < p.2.2.2.2.2.length then ((egt p.2.2.2.2.2 j.toNat).1 : Int) + 256 * ((egt p.2.2.2.2.2 j.toNat).2.1 : Int) + 65536 * (((egt p.2.2.2.2.2 j.toNat).2.2 : Int) - now) else -1
  | none => -1
theorem e_entry {x y : Int32} (h : CW G J a P now ser L) (hN : 400 ≤ N) (hw : ∀ p ∈ P, p.2.2.2.2.2.length ≤ 6 ∧ ∀ c ∈ p.2.2.2.2.2, c.1 < 256 ∧ c.2.1 < 256 ∧ c.2.2 < 10000) (hnow : now < 10000) : ∃ v : Int32, pX6_entry_0 N a (mm_w G J) x y = some (mm_w G J, v) ∧ v.toInt = aEnt P now x.toInt y.toInt := by
  unfold pX6_entry_0 aEnt
  rw [w_is h.1.1, e_up h hN, w_cl]
  cases hu : ups P x.toInt with
  | none => exact ⟨_, rfl, zi_m1⟩
  | some p =>
    obtain ⟨-, q, k, hk⟩ := ups_pv h hu
    have qE := q.1.2.2.2
    have r0 := qE.2 0 (by omega)
    have r1 := qE.2 1 (by omega)
    have r2 := qE.2 2 (by omega)
    obtain ⟨w1, w2⟩ := hw p (List.mem_of_getElem? hk)
    simp only [Option.map_some]
    rw [w_op]
    by_cases hy0 : y.toInt < 0
    · rw [if_pos (by rw [zi_lt, zi_0]; exact hy0), if_neg (by omega)]
      exact ⟨_, rfl, zi_m1⟩
    · rw [if_neg (by rw [zi_lt, zi_0]; exact hy0), w_gR q.1.1, q.1.2.1.2.2, w_nn, w_gI qE.1]
      have hc := q.2.2.2.2.1
      by_cases hy1 : y.toInt < p.2.2.2.2.2.length
      · have hlt : y.toInt.toNat < p.2.2.2.2.2.length := by omega
        obtain ⟨t1, t2, t3⟩ := q.2.2.2.2.2 _ _ (egt_at hlt)
        obtain ⟨w3, w4, w5⟩ := w2 _ (List.mem_of_getElem? (egt_at hlt))
        rw [if_pos (by rw [zi_lt, hc]; exact hy1), if_pos ⟨by omega, hy1⟩, w_gR q.1.1, q.1.2.1.2.2, w_nn, w_gR qE.1, r0.1, w_nn, w_aI (i := y.toInt.toNat) r0.2.1 (by omega) (by rw [r0.2.2]; omega), w_gR qE.1, r1.1, w_nn, w_aI (i := y.toInt.toNat) r1.2.1 (by omega) (by rw [r1.2.2]; omega), w_gR qE.1, r2.1, w_nn, w_aI (i := y.toInt.toNat) r2.2.1 (by omega) (by rw [r2.2.2]; omega), w_gI h.1.1]
        refine ⟨_, rfl, ?_⟩
        rw [zi_add (zi_add t1 (zi_mul zi_256 t2 (by omega) (by omega)) (by omega) (by omega)) (zi_mul zi_65536 (zi_sub t3 h.2.2.1.2.1 (by omega) (by omega)) (by omega) (by omega)) (by omega) (by omega)]
      · rw [if_neg (by rw [zi_lt, hc]; exact hy1), if_neg (by omega)]
        exact ⟨_, rfl, zi_m1⟩
theorem e_isnum {x : Int32} {G : mm_M} : pX6_isNumber_0 N G x = some (G, if 0 ≤ x.toInt ∧ x.toInt < 256 then 1 else 0) := by
  unfold pX6_isNumber_0
  by_cases h0 : x.toInt < 0
  · rw [if_pos (by rw [zi_lt, zi_0]; exact h0), if_neg (by omega)]
  · rw [if_neg (by rw [zi_lt, zi_0]; exact h0)]
    by_cases h1 : (256 : Int) ≤ x.toInt
    · rw [if_pos (by rw [zi_le, zi_256]; exact h1), if_neg (by omega)]
    · rw [if_neg (by rw [zi_le, zi_256]; exact h1), if_pos (by omega)]
/-- the j-th of the closest -/
def nth3 (bs : List Bk) (t : Nat) : Nat → Option Nat → Option Nat
  | 0, m => m
  | _ + 1, none => none
  | r + 1, some n => nth3 bs t r (cbb bs t ((n ^^^ t : Nat) : Int) (-1))
theorem e_closest_l {b t nr : Nat} {w : Nat → Nat} {bs : List Bk} {x2 x3 : Int32} {j : Nat} {kx : mm_M → Int32 → Option (mm_M × Int32)} (hp : sP G b) (hT : sT G (b + 1) w) (ht : tv J (b + 1) w nr bs) (hok : okB bs) (h9 : bs.length ≤ 9) (hn : ∀ n ∈ cns bs, n < 256) (htt : t < 256) (hN : 400 ≤ N) (hx2 : x2.toInt = (t : Int)) (hx3 : x3.toInt = (j : Int)) (hj : j < 10) : ∀ (r n i : Nat) (y : Int32) (m : Option Nat), y.toInt = (i : Int) → i + r = j → r < n → (∀ u, m = some u → u < 256) → pX6_closest_46 N a kx n (mm_w G J) x2 x3 (some b) (oI m) y = kx (mm_w G J) (oI (nth3 bs t r m)) := by
  intro r
  induction r with
  | zero =>
    intro n i y m hy hi hnn hm
    obtain ⟨n, rfl⟩ : ∃ m, n = m + 1 := ⟨n - 1, by omega⟩
    show pX6_closest_46_b N a _ kx _ x2 x3 _ _ y = _
    unfold pX6_closest_46_b
    rw [if_pos (by rw [zi_le, hx3, hy]; omega)]
    rfl
  | succ r ih =>
    intro n i y m hy hi hnn hm
    obtain ⟨n, rfl⟩ : ∃ m, n = m + 1 := ⟨n - 1, by omega⟩
    show pX6_closest_46_b N a _ kx _ x2 x3 _ _ y = _
    unfold pX6_closest_46_b
    rw [if_neg (by rw [zi_le, hx3, hy]; omega)]
    cases m with
    | none =>
      rw [if_pos (show oI none = -1 from rfl)]
      rfl
    | some u =>
      have hu := hm u rfl
      have huI := oI_some (n := u) (by omega)
      have hxor := zi_xor huI hx2 (by omega) (by omega)
      rw [if_neg (by rw [zi_eq, huI, zi_m1]; omega), w_nn, w_gR hp.1, hp.2.1.1, w_nn, w_is hT.1, e_close hT ht hok h9 hn htt hN hx2 hxor zi_m1, w_cl]
      exact ih n (i + 1) (y + 1) _ (zi_inc hy (by omega)) (by omega) (by omega) (cbb_256 hn)
def oZ (m : Option Nat) : Int := match m with
  | some u => (u : Int)
  | none => -1
theorem oI_oZ {m : Option Nat} (h : ∀ u, m = some u → u < 1000000) : (oI m).toInt = oZ m := by
  cases m with
  | none => exact zi_m1
  | some u => exact oI_some (h u rfl)
def aClo (P : List (Nat × Pe)) (v t j : Int) : Int := match ups P v with
  | some p => if (0 ≤ t ∧ t < 256) ∧ 0 ≤ j ∧ j < 3 then oZ (nth3 p.2.2.2.1 t.toNat j.toNat (cbb p.2.2.2.1 t.toNat (-1) (-1))) else -1
  | none => -1
theorem nth3_256 {bs : List Bk} {t : Nat} (hn : ∀ n ∈ cns bs, n < 256) : ∀ (r : Nat) (m : Option Nat), (∀ u, m = some u → u < 256) → ∀ u, nth3 bs t r m = some u → u < 256
  | 0, m, h, u, hu => h u hu
  | r + 1, none, h, u, hu => by cases hu
  | r + 1, some n, h, u, hu => nth3_256 hn r _ (cbb_256 hn) u hu
theorem e_closest {x y z : Int32} (h : CW G J a P now ser L) (hN : 400 ≤ N) (hw : ∀ p ∈ P, p.2.2.2.1.length ≤ 9 ∧ okB p.2.2.2.1 ∧ ∀ n ∈ cns p.2.2.2.1, n < 256) : ∃ v : Int32, pX6_closest_0 N a (mm_w G J) x y z = some (mm_w G J, v) ∧ v.toInt = aClo P x.toInt y.toInt z.toInt := by
  unfold pX6_closest_0 aClo
  rw [w_is h.1.1, e_up h hN, w_cl]
  cases hu : ups P x.toInt with
  | none => exact ⟨_, rfl, zi_m1⟩
  | some p =>
    obtain ⟨-, q, k, hk⟩ := ups_pv h hu
    obtain ⟨w, hT, ht⟩ := q.2.2.1
    obtain ⟨w1, w2, w3⟩ := hw p (List.mem_of_getElem? hk)
    simp only [Option.map_some]
    rw [w_op, e_isnum, w_cl]
    by_cases hy : 0 ≤ y.toInt ∧ y.toInt < 256
    · rw [if_pos hy, if_neg (by decide)]
      by_cases hz0 : z.toInt < 0
      · rw [if_pos (by rw [zi_lt, zi_0]; exact hz0), if_neg (by omega)]
        exact ⟨_, rfl, zi_m1⟩
      · rw [if_neg (by rw [zi_lt, zi_0]; exact hz0)]
        by_cases hz1 : z.toInt < 3
        · have hyN : y.toInt = (y.toInt.toNat : Int) := by omega
          have hzN : z.toInt = (z.toInt.toNat : Int) := by omega
          rw [if_pos (by rw [zi_lt, zi_3]; exact hz1), if_pos ⟨hy, by omega, hz1⟩, w_gR q.1.1, q.1.2.1.1, w_nn, w_is hT.1, e_close hT ht w2 w1 w3 (by omega) hN hyN zi_m1 zi_m1, w_cl]
          rw [e_closest_l q.1 hT ht w2 w1 w3 (by omega) hN hyN hzN (by omega) z.toInt.toNat N 0 0 _ zi_0 (by omega) (by omega) (cbb_256 w3)]
          refine ⟨_, rfl, oI_oZ (fun u hu' => ?_)⟩
          have := nth3_256 w3 _ _ (cbb_256 w3) u hu'
          omega
        · rw [if_neg (by rw [zi_lt, zi_3]; exact hz1), if_neg (by omega)]
          exact ⟨_, rfl, zi_m1⟩
    · rw [if_neg hy, if_pos rfl, if_neg (fun e => hy e.1)]
      exact ⟨_, rfl, zi_m1⟩
end LOOKS
