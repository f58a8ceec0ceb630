/-! the law -/
theorem w_is2 {α : Type} {G : mm_M} {a kd : Nat} {f : Option α} (h : mm_K G a = kd) : q_is G a kd f = f := if_pos h
theorem w_sc {α : Type} {L i : Nat} {xs : Nat → Int32} {x : Int32} {f : Int32 → Option α} (hx : x.toInt = (i : Int)) (hi : i < L) : q_sc L xs x f = f (xs i) := by
  unfold q_sc
  rw [if_pos (by omega), hx, Int.toNat_natCast]
theorem IN_K {a n : Nat} {Gm : mm_M} (h : IN a n Gm) : mm_K Gm a = 7 := by
  obtain ⟨G, J, P, now, ser, L, ids, st, rfl, h1, -⟩ := h
  exact h1.1.1
theorem IN_s {a n : Nat} {Gm : mm_M} (h : IN a n Gm) (hn : n + 1 ≤ 512) : IN a (n + 1) Gm := by
  obtain ⟨G, J, P, now, ser, L, ids, st, h0, h1, h2, h3, h4, h5⟩ := h
  exact ⟨G, J, P, now, ser, L, ids, st, h0, h1, h2, h3, h4, IV_n h5 hn⟩
section LAW
variable {a a0 L N : Nat} {xs : Nat → Int32}
theorem law_l (hL : L ≤ 2048) (hN : 400 ≤ N) : ∀ (r n k : Nat) (x3 : Int32) (Gm : mm_M), x3.toInt = ((4 * k : Nat) : Int) → 4 * (k + r) ≤ L → L < 4 * (k + r) + 4 → r < n → IN a k Gm → ∃ res, pL_law_18 N a0 L xs (fun (G : mm_M) => some (G, (1 : Int32))) n Gm (some a) (some (a + 6)) x3 = some res ∧ res.2 = 1 := by
  intro r
  induction r with
  | zero =>
    intro n k x3 Gm hx h1 h2 hn hi
    obtain ⟨n, rfl⟩ : ∃ m, n = m + 1 := ⟨n - 1, by omega⟩
    refine ⟨(Gm, 1), ?_, rfl⟩
    show pL_law_18_b N a0 L xs _ _ Gm (some a) (some (a + 6)) x3 = _
    unfold pL_law_18_b
    rw [if_pos (by rw [zi_lt, hx, zi_sub (zi_ofNat (n := L) (by omega)) zi_4 (by omega) (by omega)]; omega)]
  | succ r ih =>
    intro n k x3 Gm hx h1 h2 hn hi
    obtain ⟨n, rfl⟩ : ∃ m, n = m + 1 := ⟨n - 1, by omega⟩
    have hK := IN_K hi
    have hk : k + 1 ≤ 512 := by omega
    have c1 : (x3 + 1).toInt = ((4 * k + 1 : Nat) : Int) := by rw [zi_add hx zi_1 (by omega) (by omega)]; omega
    have c2 : (x3 + 2).toInt = ((4 * k + 2 : Nat) : Int) := by rw [zi_add hx zi_2 (by omega) (by omega)]; omega
    have c3 : (x3 + 3).toInt = ((4 * k + 3 : Nat) : Int) := by rw [zi_add hx zi_3 (by omega) (by omega)]; omega
    have c4 : (x3 + 4).toInt = ((4 * (k + 1) : Nat) : Int) := by rw [zi_add hx zi_4 (by omega) (by omega)]; omega
    have go := fun (G2 : mm_M) (h : IN a (k + 1) G2) => ih n (k + 1) (x3 + 4) G2 c4 (by omega) (by omega) (by omega) h
    show ∃ res, pL_law_18_b N a0 L xs _ _ Gm (some a) (some (a + 6)) x3 = some res ∧ res.2 = 1
    unfold pL_law_18_b
    rw [if_neg (by rw [zi_lt, hx, zi_sub (zi_ofNat (n := L) (by omega)) zi_4 (by omega) (by omega)]; omega), w_sc hx (by omega)]
    generalize xs (4 * k) &&& 31 = op
    by_cases h0 : op = 0
    · obtain ⟨G1, v, G2, e1, e2, e3, e4⟩ := st_join (N := N) (x := xs (4 * k + 1)) (y := xs (4 * k + 2)) hi hk hN
      dsimp only at e1 e3
      rw [if_pos h0, w_sc c1 (by omega), w_sc c2 (by omega), w_nn, w_is2 hK, e1, w_cl, w_sc c1 (by omega), w_sc c2 (by omega), w_nn, w_is2 e2, e3, w_cl, if_pos rfl]
      exact go G2 e4
    rw [if_neg h0]
    by_cases h1 : op = 1
    · obtain ⟨G1, v, G2, e1, e2, e3, e4⟩ := st_leave (N := N) (x := xs (4 * k + 1)) hi hk hN
      dsimp only at e1 e3
      rw [if_pos h1, w_sc c1 (by omega), w_nn, w_is2 hK, e1, w_cl, w_sc c1 (by omega), w_nn, w_is2 e2, e3, w_cl, if_pos rfl]
      exact go G2 e4
    rw [if_neg h1]
    by_cases h2 : op = 2
    · obtain ⟨G1, v, G2, e1, e2, e3, e4⟩ := st_begin (N := N) (x := xs (4 * k + 1)) (y := xs (4 * k + 2)) (z := xs (4 * k + 3)) hi hk hN
      dsimp only at e1 e3
      rw [if_pos h2, w_sc c1 (by omega), w_sc c2 (by omega), w_sc c3 (by omega), w_nn, w_is2 hK, e1, w_cl, w_sc c1 (by omega), w_sc c2 (by omega), w_sc c3 (by omega), w_nn, w_is2 e2, e3, w_cl, if_pos rfl]
      exact go G2 e4
    rw [if_neg h2]
    by_cases h3 : op = 3
    · obtain ⟨G1, v, G2, e1, e2, e3, e4⟩ := st_refresh (N := N) (x := xs (4 * k + 1)) hi hk hN
      dsimp only at e1 e3
      rw [if_pos h3, w_sc c1 (by omega), w_nn, w_is2 hK, e1, w_cl, w_sc c1 (by omega), w_nn, w_is2 e2, e3, w_cl, if_pos rfl]
      exact go G2 e4
    rw [if_neg h3]
    by_cases h4 : op = 4
    · obtain ⟨G1, v, G2, e1, e2, e3, e4⟩ := st_tick (N := N)  hi hk hN
      dsimp only at e1 e3
      rw [if_pos h4, w_nn, w_is2 hK, e1, w_cl, w_nn, w_is2 e2, e3, w_cl, if_pos rfl]
      exact go G2 e4
    rw [if_neg h4]
    by_cases h5 : op = 5
    · obtain ⟨G1, v, G2, e1, e2, e3, e4⟩ := st_clock (N := N)  hi hk
      dsimp only at e1 e3
      rw [if_pos h5, w_nn, w_is2 hK, e1, w_cl, w_nn, w_is2 e2, e3, w_cl, if_pos rfl]
      exact go G2 e4
    rw [if_neg h5]
    by_cases h6 : op = 6
    · obtain ⟨G1, v, G2, e1, e2, e3, e4⟩ := st_waiting (N := N)  hi hk
      dsimp only at e1 e3
      rw [if_pos h6, w_nn, w_is2 hK, e1, w_cl, w_nn, w_is2 e2, e3, w_cl, if_pos rfl]
      exact go G2 e4
    rw [if_neg h6]
    by_cases h7 : op = 7
    · obtain ⟨G1, v, G2, e1, e2, e3, e4⟩ := st_datagram (N := N) (x := xs (4 * k + 1)) (y := xs (4 * k + 2)) hi hk
      dsimp only at e1 e3
      rw [if_pos h7, w_sc c1 (by omega), w_sc c2 (by omega), w_nn, w_is2 hK, e1, w_cl, w_sc c1 (by omega), w_sc c2 (by omega), w_nn, w_is2 e2, e3, w_cl, if_pos rfl]
      exact go G2 e4
    rw [if_neg h7]
    by_cases h8 : op = 8
    · obtain ⟨G1, v, G2, e1, e2, e3, e4⟩ := st_deliver (N := N) (x := xs (4 * k + 1)) hi hk hN
      dsimp only at e1 e3
      rw [if_pos h8, w_sc c1 (by omega), w_nn, w_is2 hK, e1, w_cl, w_sc c1 (by omega), w_nn, w_is2 e2, e3, w_cl, if_pos rfl]
      exact go G2 e4
    rw [if_neg h8]
    by_cases h9 : op = 9
    · obtain ⟨G1, v, G2, e1, e2, e3, e4⟩ := st_drop (N := N) (x := xs (4 * k + 1)) hi hk hN
      dsimp only at e1 e3
      rw [if_pos h9, w_sc c1 (by omega), w_nn, w_is2 hK, e1, w_cl, w_sc c1 (by omega), w_nn, w_is2 e2, e3, w_cl, if_pos rfl]
      exact go G2 e4
    rw [if_neg h9]
    by_cases h10 : op = 10
    · obtain ⟨G1, v, G2, e1, e2, e3, e4⟩ := st_lookup (N := N) (x := xs (4 * k + 1)) hi hk hN
      dsimp only at e1 e3
      rw [if_pos h10, w_sc c1 (by omega), w_nn, w_is2 hK, e1, w_cl, w_sc c1 (by omega), w_nn, w_is2 e2, e3, w_cl, if_pos rfl]
      exact go G2 e4
    rw [if_neg h10]
    by_cases h11 : op = 11
    · obtain ⟨G1, v, G2, e1, e2, e3, e4⟩ := st_candidate (N := N) (x := xs (4 * k + 1)) (y := xs (4 * k + 2)) hi hk hN
      dsimp only at e1 e3
      rw [if_pos h11, w_sc c1 (by omega), w_sc c2 (by omega), w_nn, w_is2 hK, e1, w_cl, w_sc c1 (by omega), w_sc c2 (by omega), w_nn, w_is2 e2, e3, w_cl, if_pos rfl]
      exact go G2 e4
    rw [if_neg h11]
    by_cases h12 : op = 12
    · obtain ⟨G1, v, G2, e1, e2, e3, e4⟩ := st_found (N := N) (x := xs (4 * k + 1)) (y := xs (4 * k + 2)) hi hk hN
      dsimp only at e1 e3
      rw [if_pos h12, w_sc c1 (by omega), w_sc c2 (by omega), w_nn, w_is2 hK, e1, w_cl, w_sc c1 (by omega), w_sc c2 (by omega), w_nn, w_is2 e2, e3, w_cl, if_pos rfl]
      exact go G2 e4
    rw [if_neg h12]
    by_cases h13 : op = 13
    · obtain ⟨G1, v, G2, e1, e2, e3, e4⟩ := st_buckets (N := N) (x := xs (4 * k + 1)) hi hk hN
      dsimp only at e1 e3
      rw [if_pos h13, w_sc c1 (by omega), w_nn, w_is2 hK, e1, w_cl, w_sc c1 (by omega), w_nn, w_is2 e2, e3, w_cl, if_pos rfl]
      exact go G2 e4
    rw [if_neg h13]
    by_cases h14 : op = 14
    · obtain ⟨G1, v, G2, e1, e2, e3, e4⟩ := st_bucket (N := N) (x := xs (4 * k + 1)) (y := xs (4 * k + 2)) hi hk hN
      dsimp only at e1 e3
      rw [if_pos h14, w_sc c1 (by omega), w_sc c2 (by omega), w_nn, w_is2 hK, e1, w_cl, w_sc c1 (by omega), w_sc c2 (by omega), w_nn, w_is2 e2, e3, w_cl, if_pos rfl]
      exact go G2 e4
    rw [if_neg h14]
    by_cases h15 : op = 15
    · obtain ⟨G1, v, G2, e1, e2, e3, e4⟩ := st_contact (N := N) (x := xs (4 * k + 1)) (y := xs (4 * k + 2)) (z := xs (4 * k + 3)) hi hk hN
      dsimp only at e1 e3
      rw [if_pos h15, w_sc c1 (by omega), w_sc c2 (by omega), w_sc c3 (by omega), w_nn, w_is2 hK, e1, w_cl, w_sc c1 (by omega), w_sc c2 (by omega), w_sc c3 (by omega), w_nn, w_is2 e2, e3, w_cl, if_pos rfl]
      exact go G2 e4
    rw [if_neg h15]
    by_cases h16 : op = 16
    · obtain ⟨G1, v, G2, e1, e2, e3, e4⟩ := st_closest (N := N) (x := xs (4 * k + 1)) (y := xs (4 * k + 2)) (z := xs (4 * k + 3)) hi hk hN
      dsimp only at e1 e3
      rw [if_pos h16, w_sc c1 (by omega), w_sc c2 (by omega), w_sc c3 (by omega), w_nn, w_is2 hK, e1, w_cl, w_sc c1 (by omega), w_sc c2 (by omega), w_sc c3 (by omega), w_nn, w_is2 e2, e3, w_cl, if_pos rfl]
      exact go G2 e4
    rw [if_neg h16]
    by_cases h17 : op = 17
    · obtain ⟨G1, v, G2, e1, e2, e3, e4⟩ := st_entry (N := N) (x := xs (4 * k + 1)) (y := xs (4 * k + 2)) hi hk hN
      dsimp only at e1 e3
      rw [if_pos h17, w_sc c1 (by omega), w_sc c2 (by omega), w_nn, w_is2 hK, e1, w_cl, w_sc c1 (by omega), w_sc c2 (by omega), w_nn, w_is2 e2, e3, w_cl, if_pos rfl]
      exact go G2 e4
    rw [if_neg h17]
    exact go Gm (IN_s hi hk)
end LAW
theorem pure_law (b L : Nat) (xs : Nat → Int32) (lo : Nat) (hL : L ≤ 2048) : ∃ res, pL_law_0 1000 b L xs (mm_0 lo) = some res ∧ res.2 = 1 := by
  obtain ⟨Gm, e1, e2⟩ := IN_0 (lo := lo) (N := 1000) (f := fun G x1 x2 => pL_law_18 1000 b L xs (fun (G : mm_M) => some (G, (1 : Int32))) 513 G x1 x2 (0 : Int32))
  unfold pL_law_0
  rw [e1]
  exact law_l hL (by omega) (L / 4) 513 0 0 Gm zi_0 (by omega) (by omega) (by omega) e2
