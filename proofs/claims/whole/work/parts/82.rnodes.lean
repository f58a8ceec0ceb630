/-- row i of what collecting and going on change, and the line -/
def frn (J J' : Nat → Nat → Int32) (m i : Nat) : Prop := ∀ z j, z ≠ m + 21 → (z ≠ m ∨ j ≠ 24) → ((z ≠ m + 12 ∧ z ≠ m + 13 ∧ z ≠ m + 14 ∧ z ≠ m + 15 ∧ z ≠ m + 19) ∨ j ≠ i) → ((z ≠ m + 16 ∧ z ≠ m + 17 ∧ z ≠ m + 18 ∧ z ≠ m + 20) ∨ j < 12 * i ∨ 12 * i + 12 ≤ j) → J' z j = J z j
theorem rlv_ans {J : Nat → Nat → Int32} {m i kd tg se j : Nat} {ids : List Nat} {C : List Cd} {H : List Nat} {d : Cd} {v : Int32} {tok : Int} (hn : ids.Nodup) (hok : okC ids tg C) (h : rlv J m i ids kd tg se C H) (hj : C[j]? = some d) (hv : v.toInt = tok) : rlv (js (js J (m + 16) (12 * i + ix ids d.1) 3) (m + 18) (12 * i + ix ids d.1) v) m i ids kd tg se (cans C j tok) H := by
  obtain ⟨⟨h1, h2, h3⟩, h4, h5, h6, h7, h8⟩ := h
  have fr : ∀ z k, z ≠ m + 16 → z ≠ m + 18 → js (js J (m + 16) (12 * i + ix ids d.1) 3) (m + 18) (12 * i + ix ids d.1) v z k = J z k := fun z k z1 z2 => by rw [js_ne _ (Or.inl z2), js_ne _ (Or.inl z1)]
  refine ⟨⟨by rw [fr _ _ (by omega) (by omega)]; exact h1, by rw [fr _ _ (by omega) (by omega)]; exact h2, by rw [fr _ _ (by omega) (by omega)]; exact h3⟩, fun k hk => ?_, fun c hc e => ?_, fun c hc e => ?_, by rw [fr _ _ (by omega) (by omega)]; exact h7, fun k u hk => by rw [fr _ _ (by omega) (by omega)]; exact h8 k u hk⟩
  · unfold cans
    rw [mod_cS (f := fun c => (c.1, 2, c.2.2.1, tok)) hn hok.1 hok.2.1 (fun c => rfl) hj k, js_ne _ (Or.inl (by omega))]
    by_cases hkx : k = ix ids d.1
    · rw [if_pos hkx, hkx, js_same]; rfl
    · rw [if_neg hkx, js_ne _ (Or.inr (by omega))]
      exact h4 k hk
  · unfold cans at hc
    rcases mod_mem hj hc with rfl | ⟨k, hk1, hk⟩
    · dsimp only at e; omega
    · rw [fr _ _ (by omega) (by omega)]
      exact h5 c (List.mem_of_getElem? hk) e
  · unfold cans at hc
    rcases mod_mem hj hc with rfl | ⟨k, hk1, hk⟩
    · dsimp only
      rw [js_same]; exact hv
    · have := mod_ne hok hn hj hk hk1
      rw [js_ne _ (Or.inr (by omega)), js_ne _ (Or.inl (by omega))]
      exact h6 c (List.mem_of_getElem? hk) e
/-- the reference's view of a lookup, if there is one -/
def rlu (J : Nat → Nat → Int32) (m i : Nat) (ids : List Nat) (q : Lu) : Prop := (J (m + 12) i).toInt = (q.1 : Int) ∧ (q.1 ≠ 0 → rlv J m i ids q.2.1 q.2.2.1 q.2.2.2.1 q.2.2.2.2.1 q.2.2.2.2.2)
theorem cpl_at {ids : List Nat} {C : List Cd} {t u j : Nat} (hn : ids.Nodup) (hs : srtC t C) (hui : u ∈ ids) (h : cpl C u = some j) : cS ids C (ix ids u) = (cgt C j).2.1 + 1 := by
  obtain ⟨h1, h2⟩ := cpl_some h
  have hm := List.mem_of_getElem? (cgt_at h1)
  rw [← h2]
  exact cS_ix hn hs hm (by rw [h2]; exact hui)
section RNODES
variable {G : mm_M} {m N i kd tg se now st : Nat} {ids : List Nat} {x1 x2 : Int32}
theorem r_collect {J : Nat → Nat → Int32} {C : List Cd} {H : List Nat} {L : List Dg} {D : Dg} {sn : Nat} (h : sM G m) (hi12 : i < ids.length) (hN : 400 ≤ N) (h1 : x1.toInt = (i : Int)) (h2 : x2.toInt = ((ix ids sn : Nat) : Int)) (hsn : sn ∈ ids) (htg : tg < 256) (hH : H.Nodup ∧ ∀ x ∈ H, x ∈ ids) (hi : rid J m ids) (hl : rlin J m L) (hv : rlu J m i ids (st, kd, tg, se, C, H)) (hok : okC ids tg C) (hc : (J m 0).toInt = (now : Int)) (hD : rnow J m D) (hDi : ∀ c, c < 3 → okI ids (D (6 + c)) ∧ okI ids (D (9 + c))) : ∃ J', pX7_collect_0 N m (mm_w G J) x1 x2 = some (mm_w G J', ()) ∧ rlu J' m i ids ((nodX st kd tg se (idg ids i) now C H L D sn).1, kd, tg, se, (nodX st kd tg se (idg ids i) now C H L D sn).2.1, (nodX st kd tg se (idg ids i) now C H L D sn).2.2.1) ∧ rlin J' m (nodX st kd tg se (idg ids i) now C H L D sn).2.2.2 ∧ okC ids tg (nodX st kd tg se (idg ids i) now C H L D sn).2.1 ∧ ((nodX st kd tg se (idg ids i) now C H L D sn).2.2.1.Nodup ∧ ∀ x ∈ (nodX st kd tg se (idg ids i) now C H L D sn).2.2.1, x ∈ ids) ∧ frn J J' m i := by
  have h12 := hi.2.1
  obtain ⟨s1, s2⟩ := hv
  dsimp only at s1 s2
  have same : nodX st kd tg se (idg ids i) now C H L D sn = (st, C, H, L) → ∀ P, P = some (mm_w G J, ()) → ∃ J', P = some (mm_w G J', ()) ∧ rlu J' m i ids ((nodX st kd tg se (idg ids i) now C H L D sn).1, kd, tg, se, (nodX st kd tg se (idg ids i) now C H L D sn).2.1, (nodX st kd tg se (idg ids i) now C H L D sn).2.2.1) ∧ rlin J' m (nodX st kd tg se (idg ids i) now C H L D sn).2.2.2 ∧ okC ids tg (nodX st kd tg se (idg ids i) now C H L D sn).2.1 ∧ ((nodX st kd tg se (idg ids i) now C H L D sn).2.2.1.Nodup ∧ ∀ x ∈ (nodX st kd tg se (idg ids i) now C H L D sn).2.2.1, x ∈ ids) ∧ frn J J' m i := by
    intro e P hP
    rw [e]
    exact ⟨J, hP, ⟨s1, s2⟩, hl, hok, hH, fun _ _ _ _ _ _ => rfl⟩
  unfold pX7_collect_0
  rw [gr_going h, w_nn, ai_going h h1 (by omega)]
  by_cases hst : st = 1
  · have hv := s2 (by omega)
    rw [if_pos (by rw [zi_eq, s1, zi_1, hst]; rfl), gr_serial h, w_nn, ai_serial h h1 (by omega), gr_now h, w_nn, ai_now (i := 3) h zi_3 (by omega)]
    by_cases hse : (se : Int) = D 3
    · rw [if_pos (by rw [zi_eq, hv.1.2.2, hD 3 (by omega)]; exact hse)]
      obtain ⟨a1, a2, a3⟩ := ix_mem hi.2.2.1 hsn
      have hSx := hv.2.1 (ix ids sn) (by omega)
      rw [gr_state h, w_nn, ai_state h (zi_12i h1 h2 (by omega) (by omega)) (by omega)]
      cases hcp : cpl C sn with
      | none =>
        have hS0 := (cS_0 hi.2.2.1 hsn).mpr (cpl_none hcp)
        rw [if_neg (by rw [zi_eq, hSx, zi_2, hS0]; decide)]
        exact same (by unfold nodX; rw [if_pos ⟨hst, hse⟩, hcp]) _ rfl
      | some j =>
        have hSj := cpl_at hi.2.2.1 hok.1 hsn hcp
        obtain ⟨c1, c2⟩ := cpl_some hcp
        have hcj := cgt_at c1
        by_cases hm1 : (cgt C j).2.1 = 1
        · rw [if_pos (by rw [zi_eq, hSx, zi_2, hSj, hm1]; rfl), gr_state h, w_nn, si_state h (zi_12i h1 h2 (by omega) (by omega)) (by omega), gr_token h, gr_now h, w_nn, ai_now (i := 5) h zi_5 (by omega), js_ne (a := m + 16) (b := m + 22) _ (Or.inl (by omega)), w_nn, si_token h (zi_12i h1 h2 (by omega) (by omega)) (by omega)]
          generalize hJ1 : js (js J (m + 16) (12 * i + ix ids sn) 3) (m + 18) (12 * i + ix ids sn) (J (m + 22) 5) = J1
          have hv1 : rlv J1 m i ids kd tg se (cans C j (D 5)) H := by
            rw [← hJ1, ← c2]
            exact rlv_ans hi.2.2.1 hok hv hcj (hD 5 (by omega))
          have hok1 : okC ids tg (cans C j (D 5)) := okC_mod hok (fun c => rfl) hcj (by dsimp only; omega)
          have f1 : ∀ z k, ((z ≠ m + 16 ∧ z ≠ m + 18) ∨ k < 12 * i ∨ 12 * i + 12 ≤ k) → J1 z k = J z k := fun z k hz => by rw [← hJ1, js_ne _ (by omega), js_ne _ (by omega)]
          have hi1 := rid_congr (J' := J1) hi (f1 _ _ (by omega)) (fun _ => f1 _ _ (by omega))
          have hD1 : rnow J1 m D := fun d hd => by rw [f1 _ _ (by omega)]; exact hD d hd
          obtain ⟨J2, e1, e2, e3, e4⟩ := r_coll_c (N := N) (H := H) (kx := fun (G : mm_M) (x1 : Int32) => pX7_collect_133 N m (fun (G : mm_M) (x1 : Int32) => q_is G m 8 <| q_cl (pX7_goOn_0 N m G x1) fun G _ => some (G, ())) N G x1 (9 : Int32)) h hi12 hN h1 (fun c hc => (hDi c hc).1) 3 N 0 6 J1 _ zi_6 (by omega) (by omega) hi1 hD1 hv1 hok1
          have hi2 := rid_congr (J' := J2) hi1 (e4 _ _ (by omega) (by omega)) (fun _ => e4 _ _ (by omega) (by omega))
          have hD2 : rnow J2 m D := fun d hd => by rw [e4 _ _ (by omega) (by omega)]; exact hD1 d hd
          obtain ⟨J3, g1, g2, g3, g4⟩ := r_coll_h (N := N) (C := cln D tg 3 0 (cans C j (D 5))) (kx := fun (G : mm_M) (x1 : Int32) => q_is G m 8 <| q_cl (pX7_goOn_0 N m G x1) fun G _ => some (G, ())) h hi12 hN h1 (fun c hc => (hDi c hc).2) 3 N 0 9 J2 H zi_9 (by omega) (by omega) hi2 hD2 e2 hH
          have hi3 := rid_congr (J' := J3) hi2 (g4 _ _ (by omega) (by omega)) (fun _ => g4 _ _ (by omega) (by omega))
          have hl3 := rlin_congr (J' := J3) hl (by rw [g4 _ _ (by omega) (by omega), e4 _ _ (by omega) (by omega), f1 _ _ (by omega)]) (fun _ => by rw [g4 _ _ (by omega) (by omega), e4 _ _ (by omega) (by omega), f1 _ _ (by omega)])
          obtain ⟨J4, k1, k2, k3, k4, k5, k6⟩ := r_goon (N := N) (now := now) h hi12 hN h1 htg (Nat.le_trans (pig _ ids g3.1 g3.2) h12) hi3 hl3 (by rw [g4 _ _ (by omega) (by omega), e4 _ _ (by omega) (by omega), f1 _ _ (by omega), s1, hst]; rfl) g2 e3 (by rw [g4 _ _ (by omega) (by omega), e4 _ _ (by omega) (by omega), f1 _ _ (by omega)]; exact hc)
          have hX : nodX st kd tg se (idg ids i) now C H L D sn = (goS 1 (goL kd (idg ids i) se tg now 2 (cln D tg 3 0 (cans C j (D 5))) L).1, (goL kd (idg ids i) se tg now 2 (cln D tg 3 0 (cans C j (D 5))) L).1, hln D 3 0 H, goD kd (idg ids i) se tg (goL kd (idg ids i) se tg now 2 (cln D tg 3 0 (cans C j (D 5))) L).1 (goL kd (idg ids i) se tg now 2 (cln D tg 3 0 (cans C j (D 5))) L).2) := by
            unfold nodX
            rw [if_pos ⟨hst, hse⟩, hcp]
            dsimp only
            rw [if_pos hm1, hst]
          rw [hX]
          refine ⟨J4, ?_, ⟨k2, fun _ => k3⟩, k4, k5, g3, fun z j z1 z2 z3 z4 => ?_⟩
          · rw [e1, g1, w_is h.1, k1, w_cl]
          · rw [k6 z j z1 z2 (by omega) (by omega), g4 z j (by omega) (by omega), e4 z j (by omega) (by omega), f1 z j (by omega)]
        · rw [if_neg (by rw [zi_eq, hSx, zi_2, hSj]; omega)]
          exact same (by unfold nodX; rw [if_pos ⟨hst, hse⟩, hcp]; dsimp only; rw [if_neg hm1]) _ rfl
    · rw [if_neg (by rw [zi_eq, hv.1.2.2, hD 3 (by omega)]; exact hse)]
      exact same (by unfold nodX; rw [if_neg (fun e => hse e.2)]) _ rfl
  · rw [if_neg (by rw [zi_eq, s1, zi_1]; omega)]
    exact same (by unfold nodX; rw [if_neg (fun e => hst e.1)]) _ rfl
end RNODES
