/-! the reference's near, inRank, askedNow -/
def nq (M : Nat → Bool) (w : Int) (j : Nat) : Bool := M j && decide ((j : Int) ≠ w)
def dlt (ids : List Nat) (t k j : Nat) : Bool := decide (idg ids k ^^^ t < idg ids j ^^^ t)
section NEAR
variable {G : mm_M} {J : Nat → Nat → Int32} {m N i nr s t : Nat} {M : Nat → Bool} {ids : List Nat} {w : Int} {x1 x2 x3 x4 : Int32}
theorem r_near_i {j : Nat} {x5 : Int32} {kx : mm_M → Int32 → Int32 → Int32 → Int32 → Int32 → Int32 → Option (mm_M × Int32)} (h : sM G m) (hi : rid J m ids) (ht : rt J m i nr s M) (hi12 : i < 12) (h1 : x1.toInt = (i : Int)) (h2 : x2.toInt = (t : Int)) (ht2 : t < 256) (h4 : x4.toInt = w) (h5 : x5.toInt = (j : Int)) (hj : j < ids.length) : ∀ (r n k c : Nat) (y z : Int32), z.toInt = (k : Int) → y.toInt = (c : Int) → c ≤ k → k + r = ids.length → r < n → pX7_near_18 N m kx n (mm_w G J) x1 x2 x3 x4 x5 y z = kx (mm_w G J) x1 x2 x3 x4 x5 (Int32.ofNat (c + cn (fun k => nq M w k && dlt ids t k j) k r)) := by
  have h12 := hi.2.1
  intro r
  induction r with
  | zero =>
    intro n k c y z hz hy hc hk hn
    obtain ⟨n, rfl⟩ : ∃ m, n = m + 1 := ⟨n - 1, by omega⟩
    show pX7_near_18_b N m _ kx _ x1 x2 x3 x4 x5 y z = _
    unfold pX7_near_18_b
    rw [w_gI h.1, if_pos (by rw [zi_le, hi.1, hz]; omega), zi_eqN hy (by omega)]
    rfl
  | succ r ih =>
    intro n k c y z hz hy hc hk hn
    obtain ⟨n, rfl⟩ : ∃ m, n = m + 1 := ⟨n - 1, by omega⟩
    have hM := ht.2.2 k (by omega)
    obtain ⟨u1, u2⟩ := hi.g (j := k) (by omega)
    obtain ⟨v1, v2⟩ := hi.g (j := j) (by omega)
    have e74 : pX7_near_74 N m (pX7_near_18 N m kx n) kx (mm_w G J) x1 x2 x3 x4 x5 y z = pX7_near_18 N m kx n (mm_w G J) x1 x2 x3 x4 x5 y (z + 1) := by
      unfold pX7_near_74 pX7_near_75
      rw [if_pos rfl]
    have e75 : pX7_near_75 N m (pX7_near_18 N m kx n) kx (mm_w G J) x1 x2 x3 x4 x5 y z 1 = pX7_near_18 N m kx n (mm_w G J) x1 x2 x3 x4 x5 (y + 1) (z + 1) := by
      unfold pX7_near_75
      rw [if_neg (by decide)]
    have pre : pX7_near_18 N m kx (n + 1) (mm_w G J) x1 x2 x3 x4 x5 y z = if (nq M w k && dlt ids t k j) = true then pX7_near_18 N m kx n (mm_w G J) x1 x2 x3 x4 x5 (y + 1) (z + 1) else pX7_near_18 N m kx n (mm_w G J) x1 x2 x3 x4 x5 y (z + 1) := by
      show pX7_near_18_b N m _ kx _ x1 x2 x3 x4 x5 y z = _
      unfold pX7_near_18_b
      rw [w_gI h.1, if_neg (by rw [zi_le, hi.1, hz]; omega), gr_member h, w_nn, ai_member h (zi_12i h1 hz hi12 (by omega)) (by omega), e74, e75, gr_id h, w_nn, ai_id h hz (by omega), gr_id h, w_nn, ai_id h h5 (by omega)]
      unfold nq dlt
      cases hm : M k with
      | false =>
        rw [hm] at hM
        rw [if_pos (by rw [zi_eq, hM, zi_0]; decide), Bool.false_and, Bool.false_and, if_neg (by decide)]
      | true =>
        rw [hm] at hM
        rw [if_neg (by rw [zi_eq, hM, zi_0]; decide), Bool.true_and]
        by_cases hw : (k : Int) = w
        · rw [if_pos (by rw [zi_eq, hz, h4]; exact hw), decide_eq_false (fun e => e hw), Bool.false_and, if_neg (by decide)]
        · rw [if_neg (by rw [zi_eq, hz, h4]; exact hw), decide_eq_true hw, Bool.true_and]
          have hd : (J (m + 1) j ^^^ x2 ≤ J (m + 1) k ^^^ x2) ↔ ¬ (idg ids k ^^^ t < idg ids j ^^^ t) := by
            rw [zi_le, zi_xor u1 h2 (by omega) (by omega), zi_xor v1 h2 (by omega) (by omega)]
            omega
          by_cases hl : idg ids k ^^^ t < idg ids j ^^^ t
          · rw [if_neg (fun e => hd.mp e hl), if_pos (decide_eq_true hl)]
          · rw [if_pos (hd.mpr hl), if_neg (fun e => hl (of_decide_eq_true e))]
    rw [pre]
    show _ = kx _ x1 x2 x3 x4 x5 (Int32.ofNat (c + ((if (nq M w k && dlt ids t k j) = true then 1 else 0) + cn (fun k => nq M w k && dlt ids t k j) (k + 1) r)))
    by_cases hq' : (nq M w k && dlt ids t k j) = true
    · rw [if_pos hq', if_pos hq', ih n (k + 1) (c + 1) (y + 1) (z + 1) (zi_inc hz (by omega)) (zi_inc hy (by omega)) (by omega) (by omega) (by omega), Nat.add_assoc]
    · rw [if_neg hq', if_neg hq', ih n (k + 1) c y (z + 1) (zi_inc hz (by omega)) hy (by omega) (by omega) (by omega), Nat.zero_add]
theorem r_near_o {pl : Nat} {kx : mm_M → Option (mm_M × Int32)} (h : sM G m) (hi : rid J m ids) (ht : rt J m i nr s M) (hi12 : i < 12) (hN : 400 ≤ N) (h1 : x1.toInt = (i : Int)) (h2 : x2.toInt = (t : Int)) (ht2 : t < 256) (h3 : x3.toInt = (pl : Int)) (h4 : x4.toInt = w) : ∀ (r n j : Nat) (z : Int32), z.toInt = (j : Int) → j + r = ids.length → r < n → pX7_near_3 N m kx n (mm_w G J) x1 x2 x3 x4 z = match fi (fun j => nq M w j && decide (cn (fun k => nq M w k && dlt ids t k j) 0 ids.length = pl)) j r with | some j => some (mm_w G J, Int32.ofNat j) | none => kx (mm_w G J) := by
  have h12 := hi.2.1
  intro r
  induction r with
  | zero =>
    intro n j z hz hj hn
    obtain ⟨n, rfl⟩ : ∃ m, n = m + 1 := ⟨n - 1, by omega⟩
    show pX7_near_3_b N m _ kx _ x1 x2 x3 x4 z = _
    unfold pX7_near_3_b
    rw [w_gI h.1, if_pos (by rw [zi_le, hi.1, hz]; omega)]
    rfl
  | succ r ih =>
    intro n j z hz hj hn
    obtain ⟨n, rfl⟩ : ∃ m, n = m + 1 := ⟨n - 1, by omega⟩
    have hcl := cn_le (fun k => nq M w k && dlt ids t k j) ids.length 0
    have hcI := zi_ofNat (n := cn (fun k => nq M w k && dlt ids t k j) 0 ids.length) (by omega)
    have hM := ht.2.2 j (by omega)
    show pX7_near_3_b N m _ kx _ x1 x2 x3 x4 z = _
    unfold pX7_near_3_b fi
    rw [w_gI h.1, if_neg (by rw [zi_le, hi.1, hz]; omega), r_near_i h hi ht hi12 h1 h2 ht2 h4 hz (by omega) ids.length N 0 0 0 0 zi_0 zi_0 (by omega) (by omega) (by omega), Nat.zero_add, gr_member h, w_nn, ai_member h (zi_12i h1 hz hi12 (by omega)) (by omega)]
    have go := ih n (j + 1) (z + 1) (zi_inc hz (by omega)) (by omega) (by omega)
    generalize hcc : cn (fun k => nq M w k && dlt ids t k j) 0 ids.length = cc at hcl hcI ⊢
    unfold nq
    cases hm : M j with
    | false =>
      rw [hm] at hM
      rw [if_pos (by rw [zi_eq, hM, zi_0]; decide), Bool.false_and, Bool.false_and, if_neg (by decide), go]
      rfl
    | true =>
      rw [hm] at hM
      rw [if_neg (by rw [zi_eq, hM, zi_0]; decide), Bool.true_and]
      by_cases hw : (j : Int) = w
      · rw [if_pos (by rw [zi_eq, hz, h4]; exact hw), decide_eq_false (fun e => e hw), Bool.false_and, if_neg (by decide), go]
        rfl
      · rw [if_neg (by rw [zi_eq, hz, h4]; exact hw), decide_eq_true hw, Bool.true_and]
        by_cases hc : cc = pl
        · rw [if_pos (by rw [zi_eq, hcI, h3, hc]), if_pos (decide_eq_true hc), zi_eqN hz (by omega)]
        · rw [if_neg (by rw [zi_eq, hcI, h3]; omega), if_neg (fun e => hc (of_decide_eq_true e)), go]
          rfl
theorem r_near {pl : Nat} (h : sM G m) (hi : rid J m ids) (ht : rt J m i nr s M) (hi12 : i < 12) (hN : 400 ≤ N) (h1 : x1.toInt = (i : Int)) (h2 : x2.toInt = (t : Int)) (ht2 : t < 256) (h3 : x3.toInt = (pl : Int)) (h4 : x4.toInt = w) : pX7_near_0 N m (mm_w G J) x1 x2 x3 x4 = some (mm_w G J, oI (nth (nq M w) (dlt ids t) ids.length pl)) := by
  have h12 := hi.2.1
  unfold pX7_near_0 nth
  rw [r_near_o h hi ht hi12 hN h1 h2 ht2 h3 h4 ids.length N 0 0 zi_0 (by omega) (by omega)]
  cases fi (fun j => nq M w j && decide (cn (fun k => nq M w k && dlt ids t k j) 0 ids.length = pl)) 0 ids.length with
  | none => rfl
  | some j => rfl
end NEAR
/-- the states of a lookup's candidates, by the place of enrolment -/
def rs (J : Nat → Nat → Int32) (m i : Nat) (S : Nat → Nat) : Prop := ∀ j, j < 12 → (J (m + 16) (12 * i + j)).toInt = (S j : Int)
def sq (S : Nat → Nat) (j : Nat) : Bool := decide (0 < S j)
section RANK
variable {G : mm_M} {J : Nat → Nat → Int32} {m N i t : Nat} {S : Nat → Nat} {ids : List Nat} {x1 x2 : Int32}
theorem r_rank_i {j : Nat} {x3 : Int32} {kx : mm_M → Int32 → Int32 → Int32 → Int32 → Option (mm_M × Int32)} (h : sM G m) (hi : rid J m ids) (hS : rs J m i S) (hi12 : i < 12) (h1 : x1.toInt = (i : Int)) (hg : (J (m + 14) i).toInt = (t : Int)) (ht2 : t < 256) (h3 : x3.toInt = (j : Int)) (hj : j < ids.length) : ∀ (r n k c : Nat) (y z : Int32), z.toInt = (k : Int) → y.toInt = (c : Int) → c ≤ k → k + r = ids.length → r < n → pX7_inRank_16 N m kx n (mm_w G J) x1 x2 x3 y z = kx (mm_w G J) x1 x2 x3 (Int32.ofNat (c + cn (fun k => sq S k && dlt ids t k j) k r)) := by
  have h12 := hi.2.1
  intro r
  induction r with
  | zero =>
    intro n k c y z hz hy hc hk hn
    obtain ⟨n, rfl⟩ : ∃ m, n = m + 1 := ⟨n - 1, by omega⟩
    show pX7_inRank_16_b N m _ kx _ x1 x2 x3 y z = _
    unfold pX7_inRank_16_b
    rw [w_gI h.1, if_pos (by rw [zi_le, hi.1, hz]; omega), zi_eqN hy (by omega)]
    rfl
  | succ r ih =>
    intro n k c y z hz hy hc hk hn
    obtain ⟨n, rfl⟩ : ∃ m, n = m + 1 := ⟨n - 1, by omega⟩
    have hM := hS k (by omega)
    obtain ⟨u1, u2⟩ := hi.g (j := k) (by omega)
    obtain ⟨v1, v2⟩ := hi.g (j := j) (by omega)
    have e74 : pX7_inRank_74 N m (pX7_inRank_16 N m kx n) kx (mm_w G J) x1 x2 x3 y z = pX7_inRank_16 N m kx n (mm_w G J) x1 x2 x3 y (z + 1) := by
      unfold pX7_inRank_74 pX7_inRank_75
      rw [if_pos rfl]
    have e75 : pX7_inRank_75 N m (pX7_inRank_16 N m kx n) kx (mm_w G J) x1 x2 x3 y z 1 = pX7_inRank_16 N m kx n (mm_w G J) x1 x2 x3 (y + 1) (z + 1) := by
      unfold pX7_inRank_75
      rw [if_neg (by decide)]
    have pre : pX7_inRank_16 N m kx (n + 1) (mm_w G J) x1 x2 x3 y z = if (sq S k && dlt ids t k j) = true then pX7_inRank_16 N m kx n (mm_w G J) x1 x2 x3 (y + 1) (z + 1) else pX7_inRank_16 N m kx n (mm_w G J) x1 x2 x3 y (z + 1) := by
      show pX7_inRank_16_b N m _ kx _ x1 x2 x3 y z = _
      unfold pX7_inRank_16_b
      rw [w_gI h.1, if_neg (by rw [zi_le, hi.1, hz]; omega), gr_state h, w_nn, ai_state h (zi_12i h1 hz hi12 (by omega)) (by omega), e74, e75, gr_id h, w_nn, ai_id h hz (by omega), gr_goal h, w_nn, ai_goal h h1 hi12, gr_id h, w_nn, ai_id h h3 (by omega), gr_goal h, w_nn, ai_goal h h1 hi12]
      unfold sq dlt
      by_cases hm : 0 < S k
      · rw [if_neg (by rw [zi_le, hM, zi_0]; omega), decide_eq_true hm, Bool.true_and]
        have hd : (J (m + 1) j ^^^ J (m + 14) i ≤ J (m + 1) k ^^^ J (m + 14) i) ↔ ¬ (idg ids k ^^^ t < idg ids j ^^^ t) := by
          rw [zi_le, zi_xor u1 hg (by omega) (by omega), zi_xor v1 hg (by omega) (by omega)]
          omega
        by_cases hl : idg ids k ^^^ t < idg ids j ^^^ t
        · rw [if_neg (fun e => hd.mp e hl), if_pos (decide_eq_true hl)]
        · rw [if_pos (hd.mpr hl), if_neg (fun e => hl (of_decide_eq_true e))]
      · rw [if_pos (by rw [zi_le, hM, zi_0]; omega), decide_eq_false hm, Bool.false_and, if_neg (by decide)]
    rw [pre]
    show _ = kx _ x1 x2 x3 (Int32.ofNat (c + ((if (sq S k && dlt ids t k j) = true then 1 else 0) + cn (fun k => sq S k && dlt ids t k j) (k + 1) r)))
    by_cases hq' : (sq S k && dlt ids t k j) = true
    · rw [if_pos hq', if_pos hq', ih n (k + 1) (c + 1) (y + 1) (z + 1) (zi_inc hz (by omega)) (zi_inc hy (by omega)) (by omega) (by omega) (by omega), Nat.add_assoc]
    · rw [if_neg hq', if_neg hq', ih n (k + 1) c y (z + 1) (zi_inc hz (by omega)) hy (by omega) (by omega) (by omega), Nat.zero_add]
theorem r_rank_o {pl : Nat} {kx : mm_M → Option (mm_M × Int32)} (h : sM G m) (hi : rid J m ids) (hS : rs J m i S) (hi12 : i < 12) (hN : 400 ≤ N) (h1 : x1.toInt = (i : Int)) (hg : (J (m + 14) i).toInt = (t : Int)) (ht2 : t < 256) (h2 : x2.toInt = (pl : Int)) : ∀ (r n j : Nat) (z : Int32), z.toInt = (j : Int) → j + r = ids.length → r < n → pX7_inRank_2 N m kx n (mm_w G J) x1 x2 z = match fi (fun j => sq S j && decide (cn (fun k => sq S k && dlt ids t k j) 0 ids.length = pl)) j r with | some j => some (mm_w G J, Int32.ofNat j) | none => kx (mm_w G J) := by
  have h12 := hi.2.1
  intro r
  induction r with
  | zero =>
    intro n j z hz hj hn
    obtain ⟨n, rfl⟩ : ∃ m, n = m + 1 := ⟨n - 1, by omega⟩
    show pX7_inRank_2_b N m _ kx _ x1 x2 z = _
    unfold pX7_inRank_2_b
    rw [w_gI h.1, if_pos (by rw [zi_le, hi.1, hz]; omega)]
    rfl
  | succ r ih =>
    intro n j z hz hj hn
    obtain ⟨n, rfl⟩ : ∃ m, n = m + 1 := ⟨n - 1, by omega⟩
    have hcl := cn_le (fun k => sq S k && dlt ids t k j) ids.length 0
    have hcI := zi_ofNat (n := cn (fun k => sq S k && dlt ids t k j) 0 ids.length) (by omega)
    have hM := hS j (by omega)
    show pX7_inRank_2_b N m _ kx _ x1 x2 z = _
    unfold pX7_inRank_2_b fi
    rw [w_gI h.1, if_neg (by rw [zi_le, hi.1, hz]; omega), r_rank_i h hi hS hi12 h1 hg ht2 hz (by omega) ids.length N 0 0 0 0 zi_0 zi_0 (by omega) (by omega) (by omega), Nat.zero_add, gr_state h, w_nn, ai_state h (zi_12i h1 hz hi12 (by omega)) (by omega)]
    have go := ih n (j + 1) (z + 1) (zi_inc hz (by omega)) (by omega) (by omega)
    generalize hcc : cn (fun k => sq S k && dlt ids t k j) 0 ids.length = cc at hcl hcI ⊢
    by_cases hm : 0 < S j
    · rw [if_neg (by rw [zi_le, hM, zi_0]; omega), show sq S j = true from decide_eq_true hm, Bool.true_and]
      by_cases hc : cc = pl
      · rw [if_pos (by rw [zi_eq, hcI, h2, hc]), if_pos (decide_eq_true hc), zi_eqN hz (by omega)]
      · rw [if_neg (by rw [zi_eq, hcI, h2]; omega), if_neg (fun e => hc (of_decide_eq_true e)), go]
    · rw [if_pos (by rw [zi_le, hM, zi_0]; omega), show sq S j = false from decide_eq_false hm, Bool.false_and, if_neg (by decide), go]
theorem r_rank {pl : Nat} (h : sM G m) (hi : rid J m ids) (hS : rs J m i S) (hi12 : i < 12) (hN : 400 ≤ N) (h1 : x1.toInt = (i : Int)) (hg : (J (m + 14) i).toInt = (t : Int)) (ht2 : t < 256) (h2 : x2.toInt = (pl : Int)) : pX7_inRank_0 N m (mm_w G J) x1 x2 = some (mm_w G J, oI (nth (sq S) (dlt ids t) ids.length pl)) := by
  have h12 := hi.2.1
  unfold pX7_inRank_0 nth
  rw [r_rank_o h hi hS hi12 hN h1 hg ht2 h2 ids.length N 0 0 zi_0 (by omega) (by omega)]
  cases fi (fun j => sq S j && decide (cn (fun k => sq S k && dlt ids t k j) 0 ids.length = pl)) 0 ids.length with
  | none => rfl
  | some j => rfl
theorem r_asked_l {kx : mm_M → Int32 → Option (mm_M × Int32)} (h : sM G m) (hi : rid J m ids) (hS : rs J m i S) (hi12 : i < 12) (h1 : x1.toInt = (i : Int)) : ∀ (r n k c : Nat) (y z : Int32), z.toInt = (k : Int) → y.toInt = (c : Int) → c ≤ k → k + r = ids.length → r < n → pX7_askedNow_4 N m kx n (mm_w G J) x1 y z = kx (mm_w G J) (Int32.ofNat (c + cn (fun k => decide (S k = 2)) k r)) := by
  have h12 := hi.2.1
  intro r
  induction r with
  | zero =>
    intro n k c y z hz hy hc hk hn
    obtain ⟨n, rfl⟩ : ∃ m, n = m + 1 := ⟨n - 1, by omega⟩
    show pX7_askedNow_4_b N m _ kx _ x1 y z = _
    unfold pX7_askedNow_4_b
    rw [w_gI h.1, if_pos (by rw [zi_le, hi.1, hz]; omega), zi_eqN hy (by omega)]
    rfl
  | succ r ih =>
    intro n k c y z hz hy hc hk hn
    obtain ⟨n, rfl⟩ : ∃ m, n = m + 1 := ⟨n - 1, by omega⟩
    have hM := hS k (by omega)
    show pX7_askedNow_4_b N m _ kx _ x1 y z = _
    unfold pX7_askedNow_4_b
    rw [w_gI h.1, if_neg (by rw [zi_le, hi.1, hz]; omega), gr_state h, w_nn, ai_state h (zi_12i h1 hz hi12 (by omega)) (by omega)]
    show _ = kx _ (Int32.ofNat (c + ((if decide (S k = 2) = true then 1 else 0) + cn (fun k => decide (S k = 2)) (k + 1) r)))
    by_cases hq' : S k = 2
    · rw [if_pos (by rw [zi_eq, hM, zi_2]; omega), if_pos (decide_eq_true hq'), ih n (k + 1) (c + 1) (y + 1) (z + 1) (zi_inc hz (by omega)) (zi_inc hy (by omega)) (by omega) (by omega) (by omega), Nat.add_assoc]
    · rw [if_neg (by rw [zi_eq, hM, zi_2]; omega), if_neg (fun e => hq' (of_decide_eq_true e)), ih n (k + 1) c y (z + 1) (zi_inc hz (by omega)) hy (by omega) (by omega) (by omega), Nat.zero_add]
theorem r_asked (h : sM G m) (hi : rid J m ids) (hS : rs J m i S) (hi12 : i < 12) (hN : 400 ≤ N) (h1 : x1.toInt = (i : Int)) : pX7_askedNow_0 N m (mm_w G J) x1 = some (mm_w G J, Int32.ofNat (cn (fun k => decide (S k = 2)) 0 ids.length)) := by
  have h12 := hi.2.1
  unfold pX7_askedNow_0
  rw [r_asked_l h hi hS hi12 h1 ids.length N 0 0 0 0 zi_0 zi_0 (by omega) (by omega) (by omega), Nat.zero_add]
end RANK
