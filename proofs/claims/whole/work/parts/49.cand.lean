def cadd (C : List Cd) (t u : Nat) : List Cd := match cpl C u with
  | some _ => C
  | none => cin C t u
theorem cin_len (C : List Cd) (t u : Nat) : (cin C t u).length = C.length + 1 := by
  have := ipf_le (kgt C t u) C.length
  unfold cin
  simp
  omega
theorem cin_at (C : List Cd) (t u j : Nat) : (cin C t u)[j]? = if j < ipf (kgt C t u) C.length then C[j]? else if j = ipf (kgt C t u) C.length then some (u, 0, -1, -1) else C[j - 1]? := by
  have hp := ipf_le (kgt C t u) C.length
  unfold cin
  by_cases h1 : j < ipf (kgt C t u) C.length
  · rw [if_pos h1, List.getElem?_append_left (by simp; omega), List.getElem?_take, if_pos h1]
  · rw [if_neg h1, List.getElem?_append_right (by simp; omega)]
    simp only [List.length_take, Nat.min_eq_left hp]
    by_cases h2 : j = ipf (kgt C t u) C.length
    · rw [if_pos h2, h2, Nat.sub_self]; rfl
    · rw [if_neg h2, show j - ipf (kgt C t u) C.length = (j - 1 - ipf (kgt C t u) C.length) + 1 by omega, List.getElem?_cons_succ, List.getElem?_drop]
      congr 1
      omega
theorem e_cand {G : mm_M} {J : Nat → Nat → Int32} {q st kd tg se N u : Nat} {C : List Cd} {H : List Nat} {x : Int32} (h : sL G q) (hl : lk J q st kd tg se C H) (h12 : C.length ≤ 12) (h12' : cpl C u = none → C.length < 12) (hu : u < 256) (htg : tg < 256) (hC : ∀ c ∈ C, c.1 < 256) (hN : 400 ≤ N) (hx : x.toInt = (u : Int)) : ∃ J', pX3_addCandidate_0 N q (mm_w G J) x = some (mm_w G J', ()) ∧ lk J' q st kd tg se (cadd C tg u) H ∧ frL J J' q := by
  have r0 := h.2 0 (by omega)
  have r1 := h.2 1 (by omega)
  have r2 := h.2 2 (by omega)
  have r3 := h.2 3 (by omega)
  unfold pX3_addCandidate_0 cadd
  rw [if_neg (by rw [zi_eq, hx, zi_m1]; omega), w_gI h.1]
  by_cases hf : C.length < 12
  · rw [if_neg (by rw [zi_le, zi_12, hl.2.1.1]; omega), w_is h.1, e_lplace h hl h12 hN hx, w_cl]
    cases hp : cpl C u with
    | some j =>
      have hj : j < C.length := by
        unfold cpl at hp
        exact (List.findIdx?_eq_some_iff_getElem.mp hp).1
      rw [if_neg (by rw [zi_eq, oI_some (by omega), zi_m1]; omega)]
      exact ⟨J, rfl, hl, fun _ _ _ => rfl⟩
    | none =>
      rw [if_pos (show oI none = -1 from rfl), w_gI h.1]
      obtain ⟨y', hy', e1⟩ := e_cand_l (N := N) (kx := fun (G : mm_M) (x1 : Int32) (x2 : Int32) => pX3_addCandidate_117 N q G x1 x2) h hl hf hu htg hC hx C.length N (J q 9) hl.2.1.1 (Nat.le_refl _) (by omega)
      rw [shd_0] at e1
      rw [e1]
      have hple := ipf_le (kgt C tg u) C.length
      generalize hp0 : ipf (kgt C tg u) C.length = p at hy' hple e1 ⊢
      have e9 : shd J q C.length p q 9 = J q 9 := by unfold shd; rw [if_neg (by omega)]
      refine ⟨js (js (js (js (js (shd J q C.length p) (q + 1) p x) (q + 2) p 0) (q + 3) p (-1)) (q + 4) p (-1)) q 9 (J q 9 + 1), ?_, ⟨⟨?_, ?_, ?_, ?_⟩, ⟨?_, ?_⟩, ?_, ?_⟩, ?_⟩
      · unfold pX3_addCandidate_117
        rw [w_gR h.1, r0.1, w_nn, w_sI r0.2.1 hy' (by rw [r0.2.2]; omega), w_gR h.1, r1.1, w_nn, w_sI r1.2.1 hy' (by rw [r1.2.2]; omega), w_gR h.1, r2.1, w_nn, w_sI r2.2.1 hy' (by rw [r2.2.2]; omega), w_gR h.1, r3.1, w_nn, w_sI r3.2.1 hy' (by rw [r3.2.2]; omega), w_gI h.1, w_pI h.1]
        rw [js_ne (b := q) _ (Or.inl (by omega)), js_ne (b := q) _ (Or.inl (by omega)), js_ne (b := q) _ (Or.inl (by omega)), js_ne (b := q) _ (Or.inl (by omega)), e9]
      · simp [js]; unfold shd; rw [if_neg (by omega)]; exact hl.1.1
      · simp [js]; unfold shd; rw [if_neg (by omega)]; exact hl.1.2.1
      · simp [js]; unfold shd; rw [if_neg (by omega)]; exact hl.1.2.2.1
      · simp [js]; unfold shd; rw [if_neg (by omega)]; exact hl.1.2.2.2
      · rw [js_same, zi_inc hl.2.1.1 (by omega), cin_len]
      · simp [js]; unfold shd; rw [if_neg (by omega)]; exact hl.2.1.2
      · intro j c hc
        rw [cin_at, hp0] at hc
        by_cases h1 : j < p
        · rw [if_pos h1] at hc
          have h9 := hl.2.2.1 j c hc
          simp only [js]
          unfold shd
          simp [Nat.ne_of_lt h1]
          rw [if_neg (by omega), if_neg (by omega), if_neg (by omega), if_neg (by omega)]
          exact h9
        · rw [if_neg h1] at hc
          by_cases h2 : j = p
          · rw [if_pos h2] at hc
            cases hc
            subst h2
            simp [js, hx, zi_0]
          · rw [if_neg h2] at hc
            have hlt : j - 1 < C.length := (List.getElem?_eq_some_iff.mp hc).1
            have h9 := hl.2.2.1 (j - 1) c hc
            simp only [js]
            unfold shd
            simp [h2]
            rw [if_pos (by omega), if_pos (by omega), if_pos (by omega), if_pos (by omega)]
            exact h9
      · intro j y hy
        simp only [js]
        unfold shd
        simp
        exact hl.2.2.2 j y hy
      · intro b j hb
        rw [js_ne _ (Or.inl (by omega)), js_ne _ (Or.inl (by omega)), js_ne _ (Or.inl (by omega)), js_ne _ (Or.inl (by omega)), js_ne _ (Or.inl (by omega))]
        unfold shd
        rw [if_neg (by omega)]
  · rw [if_pos (by rw [zi_le, zi_12, hl.2.1.1]; omega)]
    cases hp : cpl C u with
    | some j => exact ⟨J, rfl, hl, fun _ _ _ => rfl⟩
    | none => exact absurd (h12' hp) hf
