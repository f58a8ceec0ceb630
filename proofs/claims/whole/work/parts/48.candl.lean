def shw (J : Nat → Nat → Int32) (q d k i : Nat) : Nat → Nat → Int32 := js J (q + 1 + d) k (J (q + 1 + d) i)
theorem w_mv {α : Type} {G : mm_M} {J : Nat → Nat → Int32} {q d i k : Nat} {y y1 : Int32} {f : mm_M → Option α} (h : sL G q) (hd : d < 5) (hy1 : y1.toInt = (i : Int)) (hy : y.toInt = (k : Int)) (hi : i < 12) (hk : k < 12) : (q_gR (mm_w G J) q 4 d fun r1 => q_gR (mm_w G J) q 4 d fun r2 => q_nn r2 fun b => q_aI (mm_w G J) b 101 y1 fun v => q_nn r1 fun b' => q_sI (mm_w G J) b' 101 y v f) = f (mm_w G (shw J q d k i)) := by
  have r := h.2 d hd
  rw [w_gR h.1, w_gR h.1, r.1, w_nn, w_aI r.2.1 hy1 (by rw [r.2.2]; omega), w_nn, w_sI r.2.1 hy (by rw [r.2.2]; omega)]
  rfl
theorem shw_i (J : Nat → Nat → Int32) (q d i b : Nat) : shw J q d (i + 1) i b i = J b i := js_ne _ (Or.inr (by omega))
theorem shd_all (J : Nat → Nat → Int32) (q c i : Nat) (h : i + 1 ≤ c) : shw (shw (shw (shw (shd J q c (i + 1)) q 0 (i + 1) i) q 1 (i + 1) i) q 2 (i + 1) i) q 3 (i + 1) i = shd J q c i := by
  have ea : ∀ d, shd J q c (i + 1) (q + 1 + d) i = J (q + 1 + d) i := fun d => by unfold shd; rw [if_neg (by omega)]
  have key : ∀ (K : Nat → Nat → Int32) (d : Nat), (∀ b, K b i = shd J q c (i + 1) b i) → shw K q d (i + 1) i = js K (q + 1 + d) (i + 1) (J (q + 1 + d) i) := fun K d hK => by
    unfold shw
    rw [hK, ea]
  rw [key _ 3 (fun b => by rw [shw_i, shw_i, shw_i]), key _ 2 (fun b => by rw [shw_i, shw_i]), key _ 1 (fun b => by rw [shw_i]), key _ 0 (fun b => rfl)]
  exact shd_s J q c i h
set_option maxHeartbeats 400000 in
theorem e_cand_l {G : mm_M} {J : Nat → Nat → Int32} {q st kd tg se N u : Nat} {C : List Cd} {H : List Nat} {x : Int32} {kx : mm_M → Int32 → Int32 → Option (mm_M × Unit)} (h : sL G q) (hl : lk J q st kd tg se C H) (h12 : C.length < 12) (hu : u < 256) (htg : tg < 256) (hC : ∀ c ∈ C, c.1 < 256) (hx : x.toInt = (u : Int)) : ∀ (i n : Nat) (y : Int32), y.toInt = (i : Int) → i ≤ C.length → i < n → ∃ y' : Int32, y'.toInt = ((ipf (kgt C tg u) i : Nat) : Int) ∧ pX3_addCandidate_29 N q kx n (mm_w G (shd J q C.length i)) x y = kx (mm_w G (shd J q C.length (ipf (kgt C tg u) i))) x y' := by
  have r0 := h.2 0 (by omega)
  have r1 := h.2 1 (by omega)
  have r2 := h.2 2 (by omega)
  have r3 := h.2 3 (by omega)
  intro i
  induction i with
  | zero =>
    intro n y hy hi hn
    obtain ⟨n, rfl⟩ : ∃ m, n = m + 1 := ⟨n - 1, by omega⟩
    refine ⟨y, hy, ?_⟩
    show pX3_addCandidate_29_b N q _ kx _ x y = _
    unfold pX3_addCandidate_29_b
    rw [if_pos (by rw [zi_le, hy, zi_0]; omega)]
    rfl
  | succ i ih =>
    intro n y hy hi hn
    obtain ⟨n, rfl⟩ : ∃ m, n = m + 1 := ⟨n - 1, by omega⟩
    have hy1 : (y - 1).toInt = (i : Int) := zi_dec hy (by omega)
    have hlt : i < C.length := by omega
    have hv := (hl.2.2.1 i C[i] (List.getElem?_eq_getElem hlt)).1
    have hv2 := hC _ (List.getElem_mem hlt)
    have e7 : shd J q C.length (i + 1) q 7 = J q 7 := by unfold shd; rw [if_neg (by omega)]
    have ea : ∀ d, shd J q C.length (i + 1) (q + 1 + d) i = J (q + 1 + d) i := fun d => by unfold shd; rw [if_neg (by omega)]
    have hx1 := zi_xor hv hl.1.2.2.1 (by omega) (by omega)
    have hx2 := zi_xor hx hl.1.2.2.1 (by omega) (by omega)
    have hk : kgt C tg u i = decide (u ^^^ tg < C[i].1 ^^^ tg) := by
      unfold kgt
      simp only [List.getD_eq_getElem?_getD, List.getElem?_eq_getElem hlt, Option.getD_some]
    have hunf : pX3_addCandidate_29 N q kx (n + 1) (mm_w G (shd J q C.length (i + 1))) x y = if (J (q + 1) i ^^^ J q 7) ≤ (x ^^^ J q 7) then kx (mm_w G (shd J q C.length (i + 1))) x y else pX3_addCandidate_29 N q kx n (mm_w G (shd J q C.length i)) x (y + (-1 : Int32)) := by
      show pX3_addCandidate_29_b N q _ kx _ x y = _
      unfold pX3_addCandidate_29_b
      rw [if_neg (by rw [zi_le, hy, zi_0]; omega), w_gR h.1, r0.1, w_nn, w_aI r0.2.1 hy1 (by rw [r0.2.2]; omega), w_gI h.1, w_gI h.1, e7, show shd J q C.length (i + 1) (q + 1 + 0) i = J (q + 1) i from ea 0]
      by_cases hcnd : (J (q + 1) i ^^^ J q 7) ≤ (x ^^^ J q 7)
      · rw [if_pos hcnd, if_pos hcnd]
      · rw [if_neg hcnd, if_neg hcnd, w_mv h (d := 0) (by omega) hy1 hy (by omega) (by omega), w_mv h (d := 1) (by omega) hy1 hy (by omega) (by omega), w_mv h (d := 2) (by omega) hy1 hy (by omega) (by omega), w_mv h (d := 3) (by omega) hy1 hy (by omega) (by omega), shd_all J q C.length i (by omega)]
    rw [hunf]
    unfold ipf
    rw [hk]
    by_cases hg : u ^^^ tg < C[i].1 ^^^ tg
    · simp only [hg, decide_true, if_true]
      rw [if_neg (by rw [zi_le, hx1, hx2]; omega)]
      exact ih n _ (zi_dec2 hy (by omega)) (by omega) (by omega)
    · simp only [hg, decide_false, if_false, Bool.false_eq_true]
      rw [if_pos (by rw [zi_le, hx1, hx2]; omega)]
      exact ⟨y, hy, rfl⟩
