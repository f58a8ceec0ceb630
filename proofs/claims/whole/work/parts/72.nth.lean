/-! the r-th in an order, by counting -/
def cn (Q : Nat → Bool) : Nat → Nat → Nat
  | _, 0 => 0
  | i, r + 1 => (if Q i = true then 1 else 0) + cn Q (i + 1) r
theorem cn_le (Q : Nat → Bool) : ∀ r i, cn Q i r ≤ r
  | 0, i => Nat.le_refl _
  | r + 1, i => by
    have := cn_le Q r (i + 1)
    unfold cn
    split <;> omega
theorem cn_congr {Q R : Nat → Bool} : ∀ (r i : Nat), (∀ k, i ≤ k → k < i + r → Q k = R k) → cn Q i r = cn R i r
  | 0, _, _ => rfl
  | r + 1, i, h => by
    unfold cn
    rw [h i (by omega) (by omega), cn_congr r (i + 1) (fun k h1 h2 => h k (by omega) (by omega))]
theorem cn_or {Q R : Nat → Bool} : ∀ (r i : Nat), (∀ k, i ≤ k → k < i + r → Q k = true → R k = false) → cn (fun k => Q k || R k) i r = cn Q i r + cn R i r
  | 0, _, _ => rfl
  | r + 1, i, h => by
    unfold cn
    rw [cn_or r (i + 1) (fun k h1 h2 => h k (by omega) (by omega))]
    have := h i (by omega) (by omega)
    cases hq : Q i <;> cases hr : R i <;> simp [hq, hr] at this ⊢ <;> omega
theorem cn_0 {Q : Nat → Bool} : ∀ (r i : Nat), (∀ k, i ≤ k → k < i + r → Q k = false) → cn Q i r = 0
  | 0, _, _ => rfl
  | r + 1, i, h => by
    unfold cn
    rw [h i (by omega) (by omega), cn_0 r (i + 1) (fun k h1 h2 => h k (by omega) (by omega))]
    simp
theorem cn_1 {Q : Nat → Bool} {b : Nat} : ∀ (r i : Nat), i ≤ b → b < i + r → cn (fun k => decide (k = b) && Q k) i r = if Q b = true then 1 else 0
  | 0, _, h1, h2 => by omega
  | r + 1, i, h1, h2 => by
    unfold cn
    by_cases hi : i = b
    · subst hi
      rw [cn_0 r (i + 1) (fun k k1 k2 => by simp [show k ≠ i by omega])]
      simp
    · rw [cn_1 r (i + 1) (by omega) (by omega)]
      simp [hi]
theorem cn_mem {P : Nat → Bool} {n : Nat} : ∀ (B : List Nat), B.Nodup → (∀ b ∈ B, b < n) → cn (fun k => decide (k ∈ B) && P k) 0 n = B.countP P
  | [], _, _ => by
    rw [cn_0 n 0 (fun k _ _ => by simp)]
    rfl
  | b :: B, hn, hb => by
    obtain ⟨n1, n2⟩ := List.nodup_cons.mp hn
    have e : cn (fun k => decide (k ∈ b :: B) && P k) 0 n = cn (fun k => (decide (k = b) && P k) || (decide (k ∈ B) && P k)) 0 n := by
      apply cn_congr
      intro k _ _
      by_cases h1 : k = b
      · subst h1; simp
      · simp [h1]
    rw [e, cn_or n 0 (fun k _ _ hk => by
      simp at hk
      rw [hk.1]
      simp [n1]), cn_1 n 0 (by omega) (by have := hb b List.mem_cons_self; omega), cn_mem B n2 (fun c hc => hb c (List.mem_cons_of_mem _ hc)), List.countP_cons]
    omega
/-- the list is sorted: as many stand before a member as its place says -/
theorem srt_cnt {lt : Nat → Nat → Bool} : ∀ (B : List Nat), (∀ a ∈ B, ∀ b ∈ B, lt a b = true → lt b a = false) → B.Pairwise (fun a b => lt a b = true) → ∀ (q j : Nat), B[q]? = some j → B.countP (fun k => lt k j) = q
  | [], _, _, q, j, h => by cases h
  | b :: B, ha, hp, q, j, h => by
    obtain ⟨p1, p2⟩ := List.pairwise_cons.mp hp
    rw [List.countP_cons]
    cases q with
    | zero =>
      cases h
      have hbb : lt b b = false := by
        cases e : lt b b with
        | false => rfl
        | true => rw [← e]; exact ha b List.mem_cons_self b List.mem_cons_self e
      have h0 : B.countP (fun k => lt k b) = 0 := by
        rw [List.countP_eq_zero]
        intro k hk e
        have := ha k (List.mem_cons_of_mem _ hk) b List.mem_cons_self e
        rw [p1 k hk] at this
        cases this
      rw [h0, hbb]; rfl
    | succ q =>
      have hj : B[q]? = some j := h
      rw [srt_cnt B (fun a h1 b h2 => ha a (List.mem_cons_of_mem _ h1) b (List.mem_cons_of_mem _ h2)) p2 q j hj, if_pos (p1 j (List.mem_of_getElem? hj))]
theorem pw_nodup {lt : Nat → Nat → Bool} {B : List Nat} (ha : ∀ a ∈ B, ∀ b ∈ B, lt a b = true → lt b a = false) (hp : B.Pairwise (fun a b => lt a b = true)) : B.Nodup := by
  refine List.Pairwise.imp_of_mem (fun {a b} h1 h2 h => ?_) hp
  intro e
  subst e
  have := ha a h1 a h2 h
  rw [h] at this
  cases this
def nth (Q : Nat → Bool) (lt : Nat → Nat → Bool) (n r : Nat) : Option Nat := fi (fun j => Q j && decide (cn (fun k => Q k && lt k j) 0 n = r)) 0 n
theorem fi_uniq {P : Nat → Bool} {j : Nat} : ∀ (r i : Nat), i ≤ j → j < i + r → P j = true → (∀ k, i ≤ k → k < i + r → P k = true → k = j) → fi P i r = some j
  | 0, i, h1, h2, _, _ => by omega
  | r + 1, i, h1, h2, hj, hu => by
    unfold fi
    by_cases hi : P i = true
    · rw [if_pos hi, hu i (by omega) (by omega) hi]
    · rw [if_neg hi]
      have : i ≠ j := fun e => hi (by rw [e]; exact hj)
      exact fi_uniq r (i + 1) (by omega) (by omega) hj (fun k k1 k2 => hu k (by omega) (by omega))
theorem fi_no {P : Nat → Bool} : ∀ (r i : Nat), (∀ k, i ≤ k → k < i + r → P k = false) → fi P i r = none
  | 0, i, _ => rfl
  | r + 1, i, h => by
    unfold fi
    rw [if_neg (by rw [h i (by omega) (by omega)]; decide)]
    exact fi_no r (i + 1) (fun k k1 k2 => h k (by omega) (by omega))
theorem fi_congr {P Q : Nat → Bool} : ∀ (r i : Nat), (∀ k, i ≤ k → k < i + r → P k = Q k) → fi P i r = fi Q i r
  | 0, _, _ => rfl
  | r + 1, i, h => by
    unfold fi
    rw [h i (by omega) (by omega), fi_congr r (i + 1) (fun k k1 k2 => h k (by omega) (by omega))]
theorem nth_eq {Q : Nat → Bool} {lt : Nat → Nat → Bool} {n r : Nat} {B : List Nat} (hB : ∀ j, j ∈ B ↔ (j < n ∧ Q j = true)) (ha : ∀ a ∈ B, ∀ b ∈ B, lt a b = true → lt b a = false) (hp : B.Pairwise (fun a b => lt a b = true)) : nth Q lt n r = B[r]? := by
  have hc : ∀ j q, B[q]? = some j → cn (fun k => Q k && lt k j) 0 n = q := by
    intro j q hq
    rw [← srt_cnt B ha hp q j hq, ← cn_mem (n := n) B (pw_nodup ha hp) (fun b hb => ((hB b).mp hb).1)]
    apply cn_congr
    intro k _ hk
    congr 1
    by_cases hQ : Q k = true
    · rw [hQ]; exact (decide_eq_true ((hB k).mpr ⟨by omega, hQ⟩)).symm
    · rw [decide_eq_false (fun e => hQ ((hB k).mp e).2)]
      simpa using hQ
  have hm : ∀ k, k < n → (Q k && decide (cn (fun l => Q l && lt l k) 0 n = r)) = true → B[r]? = some k := by
    intro k hk h
    rw [Bool.and_eq_true] at h
    obtain ⟨q, hq⟩ := List.getElem?_of_mem ((hB k).mpr ⟨hk, h.1⟩)
    have h2 := of_decide_eq_true h.2
    rw [hc k q hq] at h2
    rw [← h2]; exact hq
  unfold nth
  cases hr : B[r]? with
  | none =>
    apply fi_no
    intro k _ hk
    cases e : (Q k && decide (cn (fun l => Q l && lt l k) 0 n = r)) with
    | false => rfl
    | true =>
      have := hm k (by omega) e
      rw [hr] at this
      cases this
  | some j =>
    have hj := (hB j).mp (List.mem_of_getElem? hr)
    apply fi_uniq n 0 (by omega) (by omega)
    · rw [Bool.and_eq_true]
      exact ⟨hj.2, decide_eq_true (hc j r hr)⟩
    · intro k _ hk e
      have := hm k (by omega) e
      rw [hr] at this
      cases this
      rfl
theorem cn_len {Q : Nat → Bool} {n : Nat} {B : List Nat} (hB : ∀ j, j ∈ B ↔ (j < n ∧ Q j = true)) (hn : B.Nodup) : cn Q 0 n = B.length := by
  have h := cn_mem (P := fun _ => true) (n := n) B hn (fun b hb => ((hB b).mp hb).1)
  rw [List.countP_true] at h
  rw [← h]
  apply cn_congr
  intro k _ hk
  rw [Bool.and_true]
  by_cases hQ : Q k = true
  · rw [hQ]; exact (decide_eq_true ((hB k).mpr ⟨by omega, hQ⟩)).symm
  · rw [decide_eq_false (fun e => hQ ((hB k).mp e).2)]
    simpa using hQ
