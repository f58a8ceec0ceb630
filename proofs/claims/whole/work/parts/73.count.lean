/-! the reference's counting -/
def rt (J : Nat → Nat → Int32) (m i nr s : Nat) (M : Nat → Bool) : Prop := ((J (m + 1) i).toInt = (nr : Int) ∧ nr < 256) ∧ ((J (m + 6) i).toInt = (s : Int) ∧ s ≤ 8) ∧ ∀ j, j < 12 → (J (m + 3) (12 * i + j)).toInt = if M j = true then 1 else 0
def idg (ids : List Nat) (j : Nat) : Nat := ids.getD j 0
theorem idg_at {ids : List Nat} {j : Nat} (h : j < ids.length) : ids[j]? = some (idg ids j) := by
  unfold idg
  rw [List.getD_eq_getElem?_getD, List.getElem?_eq_getElem h]
  rfl
theorem rid.g {J : Nat → Nat → Int32} {m j : Nat} {ids : List Nat} (h : rid J m ids) (hj : j < ids.length) : (J (m + 1) j).toInt = ((idg ids j : Nat) : Int) ∧ idg ids j < 256 := h.2.2.2 j _ (idg_at hj)
def hq (ids : List Nat) (nr s x : Nat) (M : Nat → Bool) (j : Nat) : Bool := M j && decide (bo nr s (idg ids j) = x)
theorem bo_le (nr s c : Nat) : bo nr s c ≤ s := by unfold bo; split <;> omega
section CNT
variable {G : mm_M} {J : Nat → Nat → Int32} {m N i nr s x : Nat} {M : Nat → Bool} {ids : List Nat} {x1 x2 : Int32}
theorem r_holds {j : Nat} {z : Int32} (h : sM G m) (hi : rid J m ids) (ht : rt J m i nr s M) (hi12 : i < 12) (hN : 400 ≤ N) (h1 : x1.toInt = (i : Int)) (h2 : x2.toInt = (x : Int)) (hx : x < 1000) (hz : z.toInt = (j : Int)) (hj : j < ids.length) : pX7_holds_0 N m (mm_w G J) x1 x2 z = some (mm_w G J, if hq ids nr s x M j = true then 1 else 0) := by
  have h12 := hi.2.1
  have hM := ht.2.2 j (by omega)
  obtain ⟨u1, u2⟩ := hi.g hj
  unfold pX7_holds_0 hq
  rw [gr_member h, w_nn, ai_member h (zi_12i h1 hz hi12 (by omega)) (by omega)]
  cases hm : M j with
  | false =>
    rw [hm] at hM
    rw [if_pos (by rw [zi_eq, hM, zi_0]; decide)]
    rfl
  | true =>
    rw [hm] at hM
    rw [if_neg (by rw [zi_eq, hM, zi_0]; decide), gr_id h, w_nn, ai_id h hz (by omega), w_is h.1, r_bo h hi12 h1 ht.1.1 ht.2.1.1 ht.2.1.2 u1 hN, w_cl]
    have hb := bo_le nr s (idg ids j)
    have hs8 := ht.2.1.2
    have hbI := zi_ofNat (n := bo nr s (idg ids j)) (by omega)
    by_cases hc : bo nr s (idg ids j) = x
    · rw [if_pos (by rw [zi_eq, hbI, h2]; omega), if_pos (by rw [decide_eq_true hc]; rfl)]
    · rw [if_neg (by rw [zi_eq, hbI, h2]; omega), if_neg (by rw [decide_eq_false hc]; decide)]
theorem r_held_l {kx : mm_M → Int32 → Option (mm_M × Int32)} (h : sM G m) (hi : rid J m ids) (ht : rt J m i nr s M) (hi12 : i < 12) (hN : 400 ≤ N) (h1 : x1.toInt = (i : Int)) (h2 : x2.toInt = (x : Int)) (hx : x < 1000) : ∀ (r n j c : Nat) (y z : Int32), z.toInt = (j : Int) → y.toInt = (c : Int) → c ≤ j → j + r = ids.length → r < n → pX7_held_5 N m kx n (mm_w G J) x1 x2 y z = kx (mm_w G J) (Int32.ofNat (c + cn (hq ids nr s x M) j r)) := by
  have h12 := hi.2.1
  intro r
  induction r with
  | zero =>
    intro n j c y z hz hy hc hj hn
    obtain ⟨n, rfl⟩ : ∃ m, n = m + 1 := ⟨n - 1, by omega⟩
    show pX7_held_5_b N m _ kx _ x1 x2 y z = _
    unfold pX7_held_5_b
    rw [w_gI h.1, if_pos (by rw [zi_le, hi.1, hz]; omega), zi_eqN hy (by omega)]
    rfl
  | succ r ih =>
    intro n j c y z hz hy hc hj hn
    obtain ⟨n, rfl⟩ : ∃ m, n = m + 1 := ⟨n - 1, by omega⟩
    show pX7_held_5_b N m _ kx _ x1 x2 y z = _
    unfold pX7_held_5_b
    rw [w_gI h.1, if_neg (by rw [zi_le, hi.1, hz]; omega), w_is h.1, r_holds h hi ht hi12 hN h1 h2 hx hz (by omega), w_cl]
    show _ = kx _ (Int32.ofNat (c + ((if hq ids nr s x M j = true then 1 else 0) + cn (hq ids nr s x M) (j + 1) r)))
    by_cases hq' : hq ids nr s x M j = true
    · rw [if_pos hq', if_neg (by decide), if_pos hq', ih n (j + 1) (c + 1) (y + 1) (z + 1) (zi_inc hz (by omega)) (zi_inc hy (by omega)) (by omega) (by omega) (by omega), Nat.add_assoc]
    · rw [if_neg hq', if_pos rfl, if_neg hq', ih n (j + 1) c y (z + 1) (zi_inc hz (by omega)) hy (by omega) (by omega) (by omega), Nat.zero_add]
theorem r_held (h : sM G m) (hi : rid J m ids) (ht : rt J m i nr s M) (hi12 : i < 12) (hN : 400 ≤ N) (h1 : x1.toInt = (i : Int)) (h2 : x2.toInt = (x : Int)) (hx : x < 1000) : pX7_held_0 N m (mm_w G J) x1 x2 = some (mm_w G J, Int32.ofNat (cn (hq ids nr s x M) 0 ids.length)) := by
  have h12 := hi.2.1
  unfold pX7_held_0
  rw [r_held_l h hi ht hi12 hN h1 h2 hx ids.length N 0 0 0 0 zi_0 zi_0 (by omega) (by omega) (by omega), Nat.zero_add]
/-- whose stamp is less -/
def slt (J : Nat → Nat → Int32) (m i k j : Nat) : Bool := decide ((J (m + 4) (12 * i + k)).toInt < (J (m + 4) (12 * i + j)).toInt)
theorem r_ord_i {j pl : Nat} {x3 x4 : Int32} {kx : mm_M → Int32 → Int32 → Int32 → Int32 → Int32 → Option (mm_M × Int32)} (h : sM G m) (hi : rid J m ids) (ht : rt J m i nr s M) (hi12 : i < 12) (hN : 400 ≤ N) (h1 : x1.toInt = (i : Int)) (h2 : x2.toInt = (x : Int)) (hx : x < 1000) (h4 : x4.toInt = (j : Int)) (hj : j < ids.length) : ∀ (r n k c : Nat) (y z : Int32), z.toInt = (k : Int) → y.toInt = (c : Int) → c ≤ k → k + r = ids.length → r < n → pX7_inOrder_18 N m kx n (mm_w G J) x1 x2 x3 x4 y z = kx (mm_w G J) x1 x2 x3 x4 (Int32.ofNat (c + cn (fun k => hq ids nr s x M k && slt J m i k j) k r)) := by
  have h12 := hi.2.1
  intro r
  induction r with
  | zero =>
    intro n k c y z hz hy hc hk hn
    obtain ⟨n, rfl⟩ : ∃ m, n = m + 1 := ⟨n - 1, by omega⟩
    show pX7_inOrder_18_b N m _ kx _ x1 x2 x3 x4 y z = _
    unfold pX7_inOrder_18_b
    rw [w_gI h.1, if_pos (by rw [zi_le, hi.1, hz]; omega), zi_eqN hy (by omega)]
    rfl
  | succ r ih =>
    intro n k c y z hz hy hc hk hn
    obtain ⟨n, rfl⟩ : ∃ m, n = m + 1 := ⟨n - 1, by omega⟩
    show pX7_inOrder_18_b N m _ kx _ x1 x2 x3 x4 y z = _
    unfold pX7_inOrder_18_b
    rw [w_gI h.1, if_neg (by rw [zi_le, hi.1, hz]; omega), w_is h.1, r_holds h hi ht hi12 hN h1 h2 hx hz (by omega), w_cl]
    show _ = kx _ x1 x2 x3 x4 (Int32.ofNat (c + ((if (hq ids nr s x M k && slt J m i k j) = true then 1 else 0) + cn (fun k => hq ids nr s x M k && slt J m i k j) (k + 1) r)))
    have no : pX7_inOrder_18 N m kx n (mm_w G J) x1 x2 x3 x4 y (z + 1) = kx (mm_w G J) x1 x2 x3 x4 (Int32.ofNat (c + (0 + cn (fun k => hq ids nr s x M k && slt J m i k j) (k + 1) r))) := by
      rw [ih n (k + 1) c y (z + 1) (zi_inc hz (by omega)) hy (by omega) (by omega) (by omega), Nat.zero_add]
    by_cases hq' : hq ids nr s x M k = true
    · rw [if_pos hq', if_neg (by decide), gr_stamp h, w_nn, ai_stamp h (zi_12i h1 hz hi12 (by omega)) (by omega), gr_stamp h, w_nn, ai_stamp h (zi_12i h1 h4 hi12 (by omega)) (by omega), hq', Bool.true_and]
      by_cases hs : (J (m + 4) (12 * i + k)).toInt < (J (m + 4) (12 * i + j)).toInt
      · rw [if_neg (by rw [zi_le]; omega), if_pos (show slt J m i k j = true from decide_eq_true hs), ih n (k + 1) (c + 1) (y + 1) (z + 1) (zi_inc hz (by omega)) (zi_inc hy (by omega)) (by omega) (by omega) (by omega), Nat.add_assoc]
      · rw [if_pos (by rw [zi_le]; omega), if_neg (show ¬ slt J m i k j = true from fun e => hs (of_decide_eq_true e)), no]
    · rw [if_neg hq', if_pos rfl, if_neg (by rw [Bool.not_eq_true] at hq'; rw [hq', Bool.false_and]; decide), no]
theorem r_ord_o {pl : Nat} {x3 : Int32} {kx : mm_M → Option (mm_M × Int32)} (h : sM G m) (hi : rid J m ids) (ht : rt J m i nr s M) (hi12 : i < 12) (hN : 400 ≤ N) (h1 : x1.toInt = (i : Int)) (h2 : x2.toInt = (x : Int)) (hx : x < 1000) (h3 : x3.toInt = (pl : Int)) : ∀ (r n j : Nat) (z : Int32), z.toInt = (j : Int) → j + r = ids.length → r < n → pX7_inOrder_3 N m kx n (mm_w G J) x1 x2 x3 z = match fi (fun j => hq ids nr s x M j && decide (cn (fun k => hq ids nr s x M k && slt J m i k j) 0 ids.length = pl)) j r with | some j => some (mm_w G J, Int32.ofNat j) | none => kx (mm_w G J) := by
  have h12 := hi.2.1
  intro r
  induction r with
  | zero =>
    intro n j z hz hj hn
    obtain ⟨n, rfl⟩ : ∃ m, n = m + 1 := ⟨n - 1, by omega⟩
    show pX7_inOrder_3_b N m _ kx _ x1 x2 x3 z = _
    unfold pX7_inOrder_3_b
    rw [w_gI h.1, if_pos (by rw [zi_le, hi.1, hz]; omega)]
    rfl
  | succ r ih =>
    intro n j z hz hj hn
    obtain ⟨n, rfl⟩ : ∃ m, n = m + 1 := ⟨n - 1, by omega⟩
    have hcl := cn_le (fun k => hq ids nr s x M k && slt J m i k j) ids.length 0
    have hcI := zi_ofNat (n := cn (fun k => hq ids nr s x M k && slt J m i k j) 0 ids.length) (by omega)
    show pX7_inOrder_3_b N m _ kx _ x1 x2 x3 z = _
    unfold pX7_inOrder_3_b fi
    rw [w_gI h.1, if_neg (by rw [zi_le, hi.1, hz]; omega), r_ord_i (pl := pl) h hi ht hi12 hN h1 h2 hx hz (by omega) ids.length N 0 0 0 0 zi_0 zi_0 (by omega) (by omega) (by omega), Nat.zero_add, w_is h.1, r_holds h hi ht hi12 hN h1 h2 hx hz (by omega), w_cl]
    have go := ih n (j + 1) (z + 1) (zi_inc hz (by omega)) (by omega) (by omega)
    by_cases hq' : hq ids nr s x M j = true
    · rw [if_pos hq', if_neg (by decide), hq', Bool.true_and]
      by_cases hc : cn (fun k => hq ids nr s x M k && slt J m i k j) 0 ids.length = pl
      · rw [if_pos (by rw [zi_eq, hcI, h3, hc]), if_pos (decide_eq_true hc), zi_eqN hz (by omega)]
      · rw [if_neg (by rw [zi_eq, hcI, h3]; omega), if_neg (fun e => hc (of_decide_eq_true e)), go]
    · rw [if_neg hq', if_pos rfl, if_neg (by rw [Bool.not_eq_true] at hq'; rw [hq', Bool.false_and]; decide), go]
theorem r_ord {pl : Nat} {x3 : Int32} (h : sM G m) (hi : rid J m ids) (ht : rt J m i nr s M) (hi12 : i < 12) (hN : 400 ≤ N) (h1 : x1.toInt = (i : Int)) (h2 : x2.toInt = (x : Int)) (hx : x < 1000) (h3 : x3.toInt = (pl : Int)) : pX7_inOrder_0 N m (mm_w G J) x1 x2 x3 = some (mm_w G J, oI (nth (hq ids nr s x M) (slt J m i) ids.length pl)) := by
  have h12 := hi.2.1
  unfold pX7_inOrder_0 nth
  rw [r_ord_o h hi ht hi12 hN h1 h2 hx h3 ids.length N 0 0 zi_0 (by omega) (by omega)]
  cases fi (fun j => hq ids nr s x M j && decide (cn (fun k => hq ids nr s x M k && slt J m i k j) 0 ids.length = pl)) 0 ids.length with
  | none => rfl
  | some j => rfl
end CNT
