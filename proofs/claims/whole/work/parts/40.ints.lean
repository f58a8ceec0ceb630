/-! ints of 32 bits by their values -/
theorem zi_bm {x : Int} (h1 : -2147483648 ≤ x) (h2 : x < 2147483648) : x.bmod (2 ^ 32) = x := by
  rw [Int.bmod_def]
  split <;> omega
theorem zi_add {a b : Int32} {x y : Int} (ha : a.toInt = x) (hb : b.toInt = y) (h1 : -2147483648 ≤ x + y) (h2 : x + y < 2147483648) : (a + b).toInt = x + y := by
  rw [Int32.toInt_add, ha, hb, zi_bm h1 h2]
theorem zi_sub {a b : Int32} {x y : Int} (ha : a.toInt = x) (hb : b.toInt = y) (h1 : -2147483648 ≤ x - y) (h2 : x - y < 2147483648) : (a - b).toInt = x - y := by
  rw [Int32.toInt_sub, ha, hb, zi_bm h1 h2]
theorem zi_mul {a b : Int32} {x y : Int} (ha : a.toInt = x) (hb : b.toInt = y) (h1 : -2147483648 ≤ x * y) (h2 : x * y < 2147483648) : (a * b).toInt = x * y := by
  rw [Int32.toInt_mul, ha, hb, zi_bm h1 h2]
theorem zi_eq {a b : Int32} : a = b ↔ a.toInt = b.toInt := Int32.toInt_inj.symm
theorem zi_lt {a b : Int32} : a < b ↔ a.toInt < b.toInt := Int32.lt_iff_toInt_lt
theorem zi_le {a b : Int32} : a ≤ b ↔ a.toInt ≤ b.toInt := Int32.le_iff_toInt_le
theorem zi_nat {n : Nat} (h : n < 2147483648) : (Int32.ofNat n).toInt = n := Int32.toInt_ofNat_of_lt h
theorem zi_rng (a : Int32) : -2147483648 ≤ a.toInt ∧ a.toInt < 2147483648 := ⟨Int32.le_toInt a, Int32.toInt_lt a⟩
theorem zi_m1 : (-1 : Int32).toInt = -1 := by decide
theorem zi_0 : (0 : Int32).toInt = 0 := by decide
theorem zi_1 : (1 : Int32).toInt = 1 := by decide
theorem zi_2 : (2 : Int32).toInt = 2 := by decide
theorem zi_3 : (3 : Int32).toInt = 3 := by decide
theorem zi_4 : (4 : Int32).toInt = 4 := by decide
theorem zi_5 : (5 : Int32).toInt = 5 := by decide
theorem zi_6 : (6 : Int32).toInt = 6 := by decide
theorem zi_7 : (7 : Int32).toInt = 7 := by decide
theorem zi_8 : (8 : Int32).toInt = 8 := by decide
theorem zi_9 : (9 : Int32).toInt = 9 := by decide
theorem zi_11 : (11 : Int32).toInt = 11 := by decide
theorem zi_12 : (12 : Int32).toInt = 12 := by decide
theorem zi_16 : (16 : Int32).toInt = 16 := by decide
theorem zi_24 : (24 : Int32).toInt = 24 := by decide
theorem zi_255 : (255 : Int32).toInt = 255 := by decide
theorem zi_256 : (256 : Int32).toInt = 256 := by decide
theorem zi_1024 : (1024 : Int32).toInt = 1024 := by decide
theorem zi_65536 : (65536 : Int32).toInt = 65536 := by decide
theorem zi_bv {a : Int32} (h : 0 ≤ a.toInt) : a.toInt = (a.toBitVec.toNat : Int) := by
  have h2 : a.toInt = a.toBitVec.toInt := rfl
  rw [h2] at h ⊢
  rw [BitVec.toInt_eq_toNat_cond] at h ⊢
  split
  · rfl
  · rename_i h3
    rw [if_neg h3] at h
    have := a.toBitVec.isLt
    omega
theorem zi_of_bv {a : Int32} {n : Nat} (h : a.toBitVec.toNat = n) (hn : n < 2147483648) : a.toInt = n := by
  have h2 : a.toInt = a.toBitVec.toInt := rfl
  rw [h2, BitVec.toInt_eq_toNat_cond, h, if_pos (by omega)]
theorem zi_xor {a b : Int32} {x y : Nat} (ha : a.toInt = x) (hb : b.toInt = y) (hx : x < 2 ^ 31) (hy : y < 2 ^ 31) : (a ^^^ b).toInt = ((x ^^^ y : Nat) : Int) := by
  have h1 := zi_bv (a := a) (by omega)
  have h2 := zi_bv (a := b) (by omega)
  have h3 : (a ^^^ b).toBitVec.toNat = x ^^^ y := by
    rw [Int32.toBitVec_xor, BitVec.toNat_xor]
    congr 1 <;> omega
  have h4 : x ^^^ y < 2 ^ 31 := Nat.xor_lt_two_pow hx hy
  exact zi_of_bv h3 (by omega)
theorem zi_inc {x : Int32} {i : Nat} (h : x.toInt = (i : Int)) (hi : i < 1000000) : (x + 1).toInt = ((i + 1 : Nat) : Int) := by
  rw [zi_add h zi_1 (by omega) (by omega)]; omega
theorem zi_ofNat {n : Nat} (h : n < 1000000) : (Int32.ofNat n).toInt = (n : Int) := zi_nat (by omega)
theorem zi_eqN {x : Int32} {n : Nat} (h : x.toInt = (n : Int)) (hn : n < 1000000) : x = Int32.ofNat n := by
  rw [zi_eq, h, zi_ofNat hn]
/-! the memory with its ints changed -/
def mm_w (G : mm_M) (J : Nat → Nat → Int32) : mm_M := (G.1, G.2.1, G.2.2.1, G.2.2.2.1, J, G.2.2.2.2.2)
def js (J : Nat → Nat → Int32) (a k : Nat) (v : Int32) : Nat → Nat → Int32 := fun b j => if b = a ∧ j = k then v else J b j
theorem mm_w_self (G : mm_M) : mm_w G (mm_I G) = G := rfl
theorem mm_K_w (G : mm_M) (J : Nat → Nat → Int32) (a : Nat) : mm_K (mm_w G J) a = mm_K G a := rfl
theorem mm_ln_w (G : mm_M) (J : Nat → Nat → Int32) (a : Nat) : mm_ln (mm_w G J) a = mm_ln G a := rfl
theorem mm_R_w (G : mm_M) (J : Nat → Nat → Int32) : mm_R (mm_w G J) = mm_R G := rfl
theorem mm_I_w (G : mm_M) (J : Nat → Nat → Int32) : mm_I (mm_w G J) = J := rfl
theorem mm_sI_w (G : mm_M) (J : Nat → Nat → Int32) (a k : Nat) (v : Int32) : mm_sI (mm_w G J) a k v = mm_w G (js J a k v) := rfl
theorem js_same (J : Nat → Nat → Int32) (a k : Nat) (v : Int32) : js J a k v a k = v := by simp [js]
theorem js_ne {J : Nat → Nat → Int32} {a k b j : Nat} (v : Int32) (h : b ≠ a ∨ j ≠ k) : js J a k v b j = J b j := by
  unfold js
  rw [if_neg (by omega)]
/-! the programs' words where they answer -/
section QEQ
variable {α : Type} {G : mm_M} {J : Nat → Nat → Int32} {a kd k : Nat}
theorem w_gI {f : Int32 → Option α} (h : mm_K G a = kd) : q_gI (mm_w G J) a kd k f = f (J a k) := if_pos h
theorem w_gR {f : Option Nat → Option α} (h : mm_K G a = kd) : q_gR (mm_w G J) a kd k f = f (mm_R G a k) := if_pos h
theorem w_pI {v : Int32} {f : mm_M → Option α} (h : mm_K G a = kd) : q_pI (mm_w G J) a kd k v f = f (mm_w G (js J a k v)) := if_pos h
theorem w_is {f : Option α} (h : mm_K G a = kd) : q_is (mm_w G J) a kd f = f := if_pos h
theorem w_aI {x : Int32} {i : Nat} {f : Int32 → Option α} (h : mm_K G a = kd) (hx : x.toInt = (i : Int)) (hi : i < mm_ln G a) : q_aI (mm_w G J) a kd x f = f (J a i) := by
  unfold q_aI
  rw [if_pos ⟨h, by omega, by rw [mm_ln_w]; omega⟩, hx]
  rfl
theorem w_aR {x : Int32} {i : Nat} {f : Option Nat → Option α} (h : mm_K G a = kd) (hx : x.toInt = (i : Int)) (hi : i < mm_ln G a) : q_aR (mm_w G J) a kd x f = f (mm_R G a i) := by
  unfold q_aR
  rw [if_pos ⟨h, by omega, by rw [mm_ln_w]; omega⟩, hx]
  rfl
theorem w_sI {x v : Int32} {i : Nat} {f : mm_M → Option α} (h : mm_K G a = kd) (hx : x.toInt = (i : Int)) (hi : i < mm_ln G a) : q_sI (mm_w G J) a kd x v f = f (mm_w G (js J a i v)) := by
  unfold q_sI
  rw [if_pos ⟨h, by omega, by rw [mm_ln_w]; omega⟩, hx]
  rfl
theorem w_sZ {x v : Int32} {i : Nat} {f : mm_M → Option α} (h : mm_K G a = kd) (hx : x.toInt = (i : Int)) (hi : i < mm_ln G a) (hv : v = 0 ∨ v = 1) : q_sZ (mm_w G J) a kd x v f = f (mm_w G (js J a i v)) := by
  unfold q_sZ
  rw [if_pos ⟨⟨h, by omega, by rw [mm_ln_w]; omega⟩, hv⟩, hx]
  rfl
theorem w_nn {b : Nat} {f : Nat → Option α} : q_nn (some b) f = f b := rfl
theorem w_op {b : Nat} {g : Option α} {f : Nat → Option α} : q_op (some b) g f = f b := rfl
theorem w_op0 {g : Option α} {f : Nat → Option α} : q_op none g f = g := rfl
theorem w_cl {β : Type} {G' : mm_M} {v : β} {f : mm_M → β → Option α} : q_cl (some (G', v)) f = f G' v := rfl
theorem w_nz {y : Int32} {f : Option α} (h : ¬ y = 0) : q_nz y f = f := if_neg h
theorem w_bit {y : Int32} {f : Option α} (h : y = 0 ∨ y = 1) : q_bit y f = f := if_pos h
end QEQ
/-! the first place from i on, of r places, with a property -/
def fi (P : Nat → Bool) : Nat → Nat → Option Nat
  | _, 0 => none
  | i, r + 1 => if P i = true then some i else fi P (i + 1) r
theorem fi_some {P : Nat → Bool} : ∀ {r i j : Nat}, fi P i r = some j → i ≤ j ∧ j < i + r ∧ P j = true ∧ ∀ k, i ≤ k → k < j → P k = false
  | 0, i, j, h => by cases h
  | r + 1, i, j, h => by
    unfold fi at h
    by_cases hp : P i = true
    · rw [if_pos hp] at h
      cases h
      exact ⟨Nat.le_refl _, by omega, hp, fun k h1 h2 => by omega⟩
    · rw [if_neg hp] at h
      obtain ⟨h1, h2, h3, h4⟩ := fi_some h
      refine ⟨by omega, by omega, h3, fun k k1 k2 => ?_⟩
      by_cases hk : k = i
      · subst hk; simpa using hp
      · exact h4 k (by omega) k2
theorem fi_none {P : Nat → Bool} : ∀ {r i : Nat}, fi P i r = none → ∀ k, i ≤ k → k < i + r → P k = false
  | 0, i, h, k, h1, h2 => by omega
  | r + 1, i, h, k, h1, h2 => by
    unfold fi at h
    by_cases hp : P i = true
    · rw [if_pos hp] at h; cases h
    · rw [if_neg hp] at h
      by_cases hk : k = i
      · subst hk; simpa using hp
      · exact fi_none h k (by omega) (by omega)
theorem fi_lt {P : Nat → Bool} {r i j : Nat} (h : fi P i r = some j) : j < i + r := (fi_some h).2.1
