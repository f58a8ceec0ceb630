/-! shifts; the reference's buckets -/
theorem smod32 : ∀ k, k < 32 → ((BitVec.ofNat 32 k).smod 32).toNat = k := by decide
theorem and31 : ∀ k, k < 32 → (Int32.ofNat k &&& 31) = Int32.ofNat k := by decide
theorem zi_and31 {a : Int32} {k : Nat} (ha : a.toInt = (k : Int)) (hk : k < 32) : (a &&& 31).toInt = (k : Int) := by
  rw [zi_eqN ha (by omega), and31 k hk, zi_ofNat (by omega)]
theorem zi_shr {a b : Int32} {n k : Nat} (ha : a.toInt = (n : Int)) (hb : b.toInt = (k : Int)) (hk : k < 32) : (a >>> b).toInt = ((n >>> k : Nat) : Int) := by
  have h1 : (a >>> b).toBitVec = a.toBitVec.sshiftRight' (b.toBitVec.smod 32) := rfl
  have h2 : b.toBitVec = BitVec.ofNat 32 k := by rw [zi_eqN hb (by omega)]; rfl
  have h3 : (a >>> b).toInt = (a.toBitVec.sshiftRight' (b.toBitVec.smod 32)).toInt := rfl
  rw [h3, BitVec.sshiftRight', h2, smod32 k hk, BitVec.toInt_sshiftRight]
  show a.toInt >>> k = _
  rw [ha]
  rfl
theorem zi_shl {a b : Int32} {n k : Nat} (ha : a.toInt = (n : Int)) (hb : b.toInt = (k : Int)) (hk : k < 32) (hn : n <<< k < 2147483648) : (a <<< b).toInt = ((n <<< k : Nat) : Int) := by
  have h2 : b.toBitVec = BitVec.ofNat 32 k := by rw [zi_eqN hb (by omega)]; rfl
  have h1 : (a <<< b).toBitVec = a.toBitVec <<< (b.toBitVec.smod 32) := rfl
  refine zi_of_bv ?_ hn
  have ha' := zi_bv (a := a) (by omega)
  rw [h1, BitVec.shiftLeft_eq', BitVec.toNat_shiftLeft, h2, smod32 k hk, show a.toBitVec.toNat = n by omega]
  exact Nat.mod_eq_of_lt (by omega)
/-- how many upper bits of two numbers are the same -/
def smf (a b : Nat) : Nat → Nat → Nat
  | i, 0 => i
  | i, r + 1 => if a >>> (7 - i) = b >>> (7 - i) then smf a b (i + 1) r else i
def sam (a b : Nat) : Nat := smf a b 0 8
def bo (nr s c : Nat) : Nat := if s ≤ sam nr c then s else sam nr c
def fst' (nr s x : Nat) : Nat := if s ≤ x then (nr >>> (8 - x)) <<< (8 - x) else ((nr >>> (7 - x)) ^^^ 1) <<< (7 - x)
def siz (s x : Nat) : Nat := if s ≤ x then 256 >>> x else 1 <<< (7 - x)
theorem smf_le (a b : Nat) : ∀ r i, smf a b i r ≤ i + r
  | 0, i => Nat.le_refl _
  | r + 1, i => by
    unfold smf
    split
    · have := smf_le a b r (i + 1); omega
    · omega
theorem sam_le (a b : Nat) : sam a b ≤ 8 := smf_le a b 8 0
section RB
variable {G : mm_M} {J : Nat → Nat → Int32} {m N i nr s : Nat}
theorem zi_7' {y : Int32} {k : Nat} (hy : y.toInt = (k : Int)) (hk : k ≤ 7) : (((7 : Int32) - y) &&& 31).toInt = ((7 - k : Nat) : Int) := zi_and31 (by rw [zi_sub zi_7 hy (by omega) (by omega)]; omega) (by omega)
theorem zi_8' {y : Int32} {k : Nat} (hy : y.toInt = (k : Int)) (hk : k ≤ 8) : (((8 : Int32) - y) &&& 31).toInt = ((8 - k : Nat) : Int) := zi_and31 (by rw [zi_sub zi_8 hy (by omega) (by omega)]; omega) (by omega)
theorem r_bo_l {c : Nat} {x y : Int32} {kx : mm_M → Int32 → Int32 → Option (mm_M × Int32)} (h : sM G m) (hi : i < 12) (hx : x.toInt = (i : Int)) (hnr : (J (m + 1) i).toInt = (nr : Int)) (hy : y.toInt = (c : Int)) : ∀ (r n k : Nat) (z : Int32), z.toInt = (k : Int) → k + r = 8 → r < n → pX7_bucketOf_2 N m kx n (mm_w G J) x y z = kx (mm_w G J) x (Int32.ofNat (smf nr c k r)) := by
  intro r
  induction r with
  | zero =>
    intro n k z hz hk hn
    obtain ⟨n, rfl⟩ : ∃ m, n = m + 1 := ⟨n - 1, by omega⟩
    show pX7_bucketOf_2_b N m _ kx _ x y z = _
    unfold pX7_bucketOf_2_b
    rw [if_pos (by rw [zi_le, hz, zi_8]; omega), zi_eqN hz (by omega)]
    rfl
  | succ r ih =>
    intro n k z hz hk hn
    obtain ⟨n, rfl⟩ : ∃ m, n = m + 1 := ⟨n - 1, by omega⟩
    have h7 := zi_7' hz (by omega)
    show pX7_bucketOf_2_b N m _ kx _ x y z = _
    unfold pX7_bucketOf_2_b
    rw [if_neg (by rw [zi_le, hz, zi_8]; omega), gr_id h, w_nn, ai_id h hx hi]
    have hiff : (J (m + 1) i >>> (((7 : Int32) - z) &&& 31) = y >>> (((7 : Int32) - z) &&& 31)) ↔ nr >>> (7 - k) = c >>> (7 - k) := by
      rw [zi_eq, zi_shr hnr h7 (by omega), zi_shr hy h7 (by omega)]
      omega
    show _ = kx _ x (Int32.ofNat (if nr >>> (7 - k) = c >>> (7 - k) then smf nr c (k + 1) r else k))
    by_cases hc : nr >>> (7 - k) = c >>> (7 - k)
    · rw [if_pos (hiff.mpr hc), if_pos hc]
      exact ih n (k + 1) (z + 1) (zi_inc hz (by omega)) (by omega) (by omega)
    · rw [if_neg (fun e => hc (hiff.mp e)), if_neg hc, zi_eqN hz (by omega)]
theorem r_bo {c : Nat} {x y : Int32} (h : sM G m) (hi : i < 12) (hx : x.toInt = (i : Int)) (hnr : (J (m + 1) i).toInt = (nr : Int)) (hs : (J (m + 6) i).toInt = (s : Int)) (hs8 : s ≤ 8) (hy : y.toInt = (c : Int)) (hN : 400 ≤ N) : pX7_bucketOf_0 N m (mm_w G J) x y = some (mm_w G J, Int32.ofNat (bo nr s c)) := by
  unfold pX7_bucketOf_0
  rw [r_bo_l h hi hx hnr hy 8 N 0 0 zi_0 (by omega) (by omega), gr_splits h, w_nn, ai_splits h hx hi]
  have h1 := sam_le nr c
  have h2 := zi_ofNat (n := sam nr c) (by omega)
  show (if J (m + 6) i ≤ Int32.ofNat (sam nr c) then _ else _) = _
  unfold bo
  by_cases hc : s ≤ sam nr c
  · rw [if_pos (by rw [zi_le, hs, h2]; omega), if_pos hc, gr_splits h, w_nn, ai_splits h hx hi, zi_eqN hs (by omega)]
  · rw [if_neg (by rw [zi_le, hs, h2]; omega), if_neg hc]
    rfl
theorem shr_lt {n k : Nat} (h : n < 256) : n >>> k < 256 := by rw [Nat.shiftRight_eq_div_pow]; exact Nat.lt_of_le_of_lt (Nat.div_le_self _ _) h
theorem fst_lt : ∀ k, k ≤ 8 → ∀ n, n < 256 → n <<< k < 2147483648 := by
  intro k hk n hn
  rw [Nat.shiftLeft_eq]
  have : 2 ^ k ≤ 2 ^ 8 := Nat.pow_le_pow_right (by omega) hk
  have h2 : n * 2 ^ k ≤ 256 * 2 ^ 8 := Nat.mul_le_mul (by omega) this
  omega
theorem r_first {k : Nat} {x y : Int32} (h : sM G m) (hi : i < 12) (hx : x.toInt = (i : Int)) (hnr : (J (m + 1) i).toInt = (nr : Int)) (hn : nr < 256) (hs : (J (m + 6) i).toInt = (s : Int)) (hs8 : s ≤ 8) (hy : y.toInt = (k : Int)) (hk : k ≤ s) : ∃ v : Int32, pX7_first_0 N m (mm_w G J) x y = some (mm_w G J, v) ∧ v.toInt = ((fst' nr s k : Nat) : Int) := by
  unfold pX7_first_0 fst'
  rw [gr_splits h, w_nn, ai_splits h hx hi]
  by_cases hc : s ≤ k
  · rw [if_pos (by rw [zi_le, hs, hy]; omega), if_pos hc, gr_id h, w_nn, ai_id h hx hi]
    have h8 := zi_8' hy (by omega)
    exact ⟨_, rfl, zi_shl (zi_shr hnr h8 (by omega)) h8 (by omega) (fst_lt _ (by omega) _ (shr_lt hn))⟩
  · rw [if_neg (by rw [zi_le, hs, hy]; omega), if_neg hc, gr_id h, w_nn, ai_id h hx hi]
    have h8 := zi_7' hy (by omega)
    have hq := shr_lt (k := 7 - k) hn
    have hx1 : (nr >>> (7 - k)) ^^^ 1 < 256 := xor_lt hq (by omega)
    exact ⟨_, rfl, zi_shl (zi_xor (zi_shr hnr h8 (by omega)) zi_1 (by omega) (by omega)) h8 (by omega) (fst_lt _ (by omega) _ hx1)⟩
theorem r_size {k : Nat} {x y : Int32} (h : sM G m) (hi : i < 12) (hx : x.toInt = (i : Int)) (hs : (J (m + 6) i).toInt = (s : Int)) (hs8 : s ≤ 8) (hy : y.toInt = (k : Int)) (hk : k ≤ s) : ∃ v : Int32, pX7_size_0 N m (mm_w G J) x y = some (mm_w G J, v) ∧ v.toInt = ((siz s k : Nat) : Int) := by
  unfold pX7_size_0 siz
  rw [gr_splits h, w_nn, ai_splits h hx hi]
  by_cases hc : s ≤ k
  · rw [if_pos (by rw [zi_le, hs, hy]; omega), if_pos hc]
    exact ⟨_, rfl, zi_shr zi_256 (zi_and31 hy (by omega)) (by omega)⟩
  · rw [if_neg (by rw [zi_le, hs, hy]; omega), if_neg hc]
    exact ⟨_, rfl, zi_shl zi_1 (zi_7' hy (by omega)) (by omega) (fst_lt _ (by omega) _ (by omega))⟩
end RB
