/-! the reference goes on -/
theorem rid_congr {J J' : Nat → Nat → Int32} {m : Nat} {ids : List Nat} (h : rid J m ids) (h0 : J' m 3 = J m 3) (h1 : ∀ j, J' (m + 1) j = J (m + 1) j) : rid J' m ids := ⟨by rw [h0]; exact h.1, h.2.1, h.2.2.1, fun j u hj => by rw [h1]; exact h.2.2.2 j u hj⟩
theorem rlin_congr {J J' : Nat → Nat → Int32} {m : Nat} {L : List Dg} (h : rlin J m L) (h0 : J' m 24 = J m 24) (h1 : ∀ j, J' (m + 21) j = J (m + 21) j) : rlin J' m L := ⟨by rw [h0]; exact h.1, h.2.1, fun k D hD c hc => by rw [h1]; exact h.2.2 k D hD c hc⟩
/-- row i of the seven arrays of a lookup -/
def smL (J J' : Nat → Nat → Int32) (m i : Nat) : Prop := (J' (m + 13) i = J (m + 13) i ∧ J' (m + 14) i = J (m + 14) i ∧ J' (m + 15) i = J (m + 15) i ∧ J' (m + 19) i = J (m + 19) i) ∧ ∀ j, j < 12 → J' (m + 16) (12 * i + j) = J (m + 16) (12 * i + j) ∧ J' (m + 17) (12 * i + j) = J (m + 17) (12 * i + j) ∧ J' (m + 18) (12 * i + j) = J (m + 18) (12 * i + j) ∧ J' (m + 20) (12 * i + j) = J (m + 20) (12 * i + j)
theorem rlv_congr {J J' : Nat → Nat → Int32} {m i kd tg se : Nat} {ids : List Nat} {C : List Cd} {H : List Nat} (hn : ids.Nodup ∧ ids.length ≤ 12) (hC : ∀ c ∈ C, c.1 ∈ ids) (hH : H.length ≤ 12) (h : rlv J m i ids kd tg se C H) (hs : smL J J' m i) : rlv J' m i ids kd tg se C H := by
  obtain ⟨⟨h1, h2, h3⟩, h4, h5, h6, h7, h8⟩ := h
  obtain ⟨⟨s1, s2, s3, s4⟩, s5⟩ := hs
  have hx : ∀ c ∈ C, ix ids c.1 < 12 := fun c hc => by have := (ix_mem hn.1 (hC c hc)).1; omega
  refine ⟨⟨by rw [s1]; exact h1, by rw [s2]; exact h2, by rw [s3]; exact h3⟩, fun j hj => by rw [(s5 j hj).1]; exact h4 j hj, fun c hc e => by rw [(s5 _ (hx c hc)).2.1]; exact h5 c hc e, fun c hc e => by rw [(s5 _ (hx c hc)).2.2.1]; exact h6 c hc e, by rw [s4]; exact h7, fun k v hk => ?_⟩
  have hkl := (List.getElem?_eq_some_iff.mp hk).1
  rw [(s5 k (by omega)).2.2.2]
  exact h8 k v hk
theorem frR.smL {J J' : Nat → Nat → Int32} {m i : Nat} (h : frR J J' m) : smL J J' m i := ⟨⟨h _ _ (by omega) (by omega), h _ _ (by omega) (by omega), h _ _ (by omega) (by omega), h _ _ (by omega) (by omega)⟩, fun j _ => ⟨h _ _ (by omega) (by omega), h _ _ (by omega) (by omega), h _ _ (by omega) (by omega), h _ _ (by omega) (by omega)⟩⟩
theorem srtC_len {t : Nat} {ids : List Nat} {C : List Cd} (hs : srtC t C) (hC : ∀ c ∈ C, c.1 ∈ ids) (h12 : ids.length ≤ 12) : C.length ≤ 12 := inS_len ⟨srtC_nodup hs, hC⟩ h12
theorem okC_mod {ids : List Nat} {tg j : Nat} {C : List Cd} {f : Cd → Cd} {d : Cd} (h : okC ids tg C) (hf : ∀ c, (f c).1 = c.1) (hj : C[j]? = some d) (hm : (f d).2.1 ≤ 3) : okC ids tg (C.modify j f) := by
  refine ⟨mod_srt hf h.1, fun c hc => ?_, fun c hc => ?_⟩
  · rcases mod_mem hj hc with rfl | ⟨k, -, hk⟩
    · rw [hf]; exact h.2.1 d (List.mem_of_getElem? hj)
    · exact h.2.1 c (List.mem_of_getElem? hk)
  · rcases mod_mem hj hc with rfl | ⟨k, -, hk⟩
    · exact hm
    · exact h.2.2 c (List.mem_of_getElem? hk)
theorem mod_ne {ids : List Nat} {tg j k : Nat} {C : List Cd} {c d : Cd} (h : okC ids tg C) (hn : ids.Nodup) (hj : C[j]? = some d) (hk : C[k]? = some c) (hne : k ≠ j) : ix ids c.1 ≠ ix ids d.1 := fun e => hne (srtC_at h.1 hk hj (ix_inj hn (h.2.1 c (List.mem_of_getElem? hk)) (h.2.1 d (List.mem_of_getElem? hj)) e))
theorem rlv_ask {J : Nat → Nat → Int32} {m i kd tg se now j : Nat} {ids : List Nat} {C : List Cd} {H : List Nat} {d : Cd} {v : Int32} (hn : ids.Nodup) (hok : okC ids tg C) (h : rlv J m i ids kd tg se C H) (hj : C[j]? = some d) (hv : v.toInt = (now : Int)) : rlv (js (js J (m + 16) (12 * i + ix ids d.1) 2) (m + 17) (12 * i + ix ids d.1) v) m i ids kd tg se (cask C j now) H := by
  obtain ⟨⟨h1, h2, h3⟩, h4, h5, h6, h7, h8⟩ := h
  have fr : ∀ z k, z ≠ m + 16 → z ≠ m + 17 → js (js J (m + 16) (12 * i + ix ids d.1) 2) (m + 17) (12 * i + ix ids d.1) v z k = J z k := fun z k z1 z2 => by rw [js_ne _ (Or.inl z2), js_ne _ (Or.inl z1)]
  refine ⟨⟨by rw [fr _ _ (by omega) (by omega)]; exact h1, by rw [fr _ _ (by omega) (by omega)]; exact h2, by rw [fr _ _ (by omega) (by omega)]; exact h3⟩, fun k hk => ?_, fun c hc e => ?_, fun c hc e => ?_, by rw [fr _ _ (by omega) (by omega)]; exact h7, fun k u hk => by rw [fr _ _ (by omega) (by omega)]; exact h8 k u hk⟩
  · unfold cask
    rw [mod_cS (f := fun c => (c.1, 1, (now : Int), c.2.2.2)) hn hok.1 hok.2.1 (fun c => rfl) hj k, js_ne _ (Or.inl (by omega))]
    by_cases hkx : k = ix ids d.1
    · rw [if_pos hkx, hkx, js_same]; rfl
    · rw [if_neg hkx, js_ne _ (Or.inr (by omega))]
      exact h4 k hk
  · unfold cask at hc
    rcases mod_mem hj hc with rfl | ⟨k, hk1, hk⟩
    · dsimp only
      rw [js_same]; exact hv
    · have := mod_ne hok hn hj hk hk1
      rw [js_ne _ (Or.inr (by omega)), js_ne _ (Or.inl (by omega))]
      exact h5 c (List.mem_of_getElem? hk) e
  · unfold cask at hc
    rcases mod_mem hj hc with rfl | ⟨k, hk1, hk⟩
    · dsimp only at e; omega
    · rw [fr _ _ (by omega) (by omega)]
      exact h6 c (List.mem_of_getElem? hk) e
theorem ntk_new : ∀ (C : List Cd) (p i j : Nat), ntk C p i = some j → (cgt C (j - i)).2.1 = 0
  | [], p, i, j, h => by cases h
  | c :: C, p, i, j, h => by
    have hlt := ntk_lt (c :: C) p i j h
    unfold ntk at h
    split at h
    · cases h
    · split at h
      · rename_i h0
        cases h
        rw [Nat.sub_self]; exact h0
      · have key : ∀ q, ntk C q (i + 1) = some j → (cgt (c :: C) (j - i)).2.1 = 0 := by
          intro q hq
          have h1 := (ntk_lt C q (i + 1) j hq).1
          have h2 := ntk_new C q (i + 1) j hq
          unfold cgt at h2 ⊢
          rw [show j - i = (j - (i + 1)) + 1 by omega]
          exact h2
        split at h
        · exact key _ h
        · exact key _ h
theorem cask_cnt {C : List Cd} {j now : Nat} {d : Cd} (hj : C[j]? = some d) (h0 : d.2.1 = 0) : (cask C j now).countP isA = C.countP isA + 1 := by
  unfold cask
  induction C generalizing j with
  | nil => cases hj
  | cons c C ih =>
    cases j with
    | zero =>
      cases hj
      simp [isA, h0]
    | succ j =>
      rw [List.modify_succ_cons, List.countP_cons, List.countP_cons, ih hj]
      omega
/-- row i of two arrays, and the line -/
def frh (J J' : Nat → Nat → Int32) (m i : Nat) : Prop := ∀ z j, z ≠ m + 21 → (z ≠ m ∨ j ≠ 24) → ((z ≠ m + 16 ∧ z ≠ m + 17) ∨ j < 12 * i ∨ 12 * i + 12 ≤ j) → J' z j = J z j
section RGO
variable {G : mm_M} {m N i kd tg se now : Nat} {ids : List Nat} {H : List Nat} {x1 : Int32}
theorem r_go_l {kx : mm_M → Int32 → Option (mm_M × Unit)} (h : sM G m) (hi12 : i < ids.length) (hN : 400 ≤ N) (h1 : x1.toInt = (i : Int)) (htg : tg < 256) (hH : H.length ≤ 12) : ∀ (r n t : Nat) (z : Int32) (J : Nat → Nat → Int32) (C : List Cd) (L : List Dg), z.toInt = (t : Int) → t + r < 12 → r < n → 2 ≤ C.countP isA + r → rid J m ids → rlin J m L → rlv J m i ids kd tg se C H → okC ids tg C → (J m 0).toInt = (now : Int) → ∃ J', pX7_goOn_8 N m kx n (mm_w G J) x1 (oI ((ntk C 0 0).map (fun j => ix ids (cgt C j).1))) z = kx (mm_w G J') x1 ∧ rlv J' m i ids kd tg se (goL kd (idg ids i) se tg now r C L).1 H ∧ rlin J' m (goL kd (idg ids i) se tg now r C L).2 ∧ okC ids tg (goL kd (idg ids i) se tg now r C L).1 ∧ nta (goL kd (idg ids i) se tg now r C L).1 = none ∧ frh J J' m i := by
  intro r
  induction r with
  | zero =>
    intro n t z J C L hz ht hn h2 hi hl hv hok hc
    obtain ⟨n, rfl⟩ : ∃ m, n = m + 1 := ⟨n - 1, by omega⟩
    have h12 := hi.2.1
    have hcl := srtC_len hok.1 hok.2.1 h12
    have hle := List.countP_le_length (p := isA) (l := C)
    refine ⟨J, ?_, hv, hl, hok, by show nta C = none; unfold nta; rw [if_neg (by omega)], fun _ _ _ _ _ => rfl⟩
    show pX7_goOn_8_b N m _ kx _ x1 _ z = _
    unfold pX7_goOn_8_b
    rw [if_neg (by rw [zi_le, zi_12, hz]; omega), w_is h.1, r_asked (S := cS ids C) h hi hv.2.1 (by omega) hN h1, asked_eq hi.2.2.1 hok.1 hok.2.1, w_cl]
    by_cases hlt : oI (Option.map (fun j => ix ids (cgt C j).1) (ntk C 0 0)) < 0
    · rw [if_pos hlt]
    · rw [if_neg hlt, if_pos (by rw [zi_le, zi_2, zi_ofNat (by omega)]; omega)]
  | succ r ih =>
    intro n t z J C L hz ht hn h2 hi hl hv hok hc
    obtain ⟨n, rfl⟩ : ∃ m, n = m + 1 := ⟨n - 1, by omega⟩
    have h12 := hi.2.1
    have hcl := srtC_len hok.1 hok.2.1 h12
    have hle := List.countP_le_length (p := isA) (l := C)
    have hcI := zi_ofNat (n := C.countP isA) (by omega)
    have stay : nta C = none → ∀ P, P = kx (mm_w G J) x1 → ∃ J', P = kx (mm_w G J') x1 ∧ rlv J' m i ids kd tg se (goL kd (idg ids i) se tg now (r + 1) C L).1 H ∧ rlin J' m (goL kd (idg ids i) se tg now (r + 1) C L).2 ∧ okC ids tg (goL kd (idg ids i) se tg now (r + 1) C L).1 ∧ nta (goL kd (idg ids i) se tg now (r + 1) C L).1 = none ∧ frh J J' m i := by
      intro e P hP
      have hg : goL kd (idg ids i) se tg now (r + 1) C L = (C, L) := by unfold goL; rw [e]
      rw [hg]
      exact ⟨J, hP, hv, hl, hok, e, fun _ _ _ _ _ => rfl⟩
    cases hk : ntk C 0 0 with
    | none =>
      refine stay (by unfold nta; split; exact hk; rfl) _ ?_
      show pX7_goOn_8_b N m _ kx _ x1 _ z = _
      unfold pX7_goOn_8_b
      rw [if_neg (by rw [zi_le, zi_12, hz]; omega), if_pos (by rw [Option.map_none, zi_lt, oI_none, zi_0]; decide)]
    | some j =>
      have hjl := ntk_lt C 0 0 j hk
      have hj := cgt_at (C := C) (j := j) (by omega)
      have hm0 := ntk_new C 0 0 j hk
      rw [Nat.sub_zero] at hm0
      have hdm := List.mem_of_getElem? hj
      obtain ⟨a1, a2, a3⟩ := ix_mem hi.2.2.1 (hok.2.1 _ hdm)
      have hIx := oI_some (n := ix ids (cgt C j).1) (by omega)
      by_cases hA : C.countP isA < 2
      · have hnt : nta C = some j := by unfold nta; rw [if_pos hA]; exact hk
        have hg : goL kd (idg ids i) se tg now (r + 1) C L = goL kd (idg ids i) se tg now r (cask C j now) (ladd L (mkD (if kd = 1 then 1 else 0) (idg ids i) (cgt C j).1 se tg (-1))) := by
          conv => lhs; unfold goL
          rw [hnt]
        rw [hg]
        generalize hJ1 : js (js J (m + 16) (12 * i + ix ids (cgt C j).1) 2) (m + 17) (12 * i + ix ids (cgt C j).1) (J m 0) = J1
        have hv1 : rlv J1 m i ids kd tg se (cask C j now) H := by rw [← hJ1]; exact rlv_ask hi.2.2.1 hok hv hj hc
        have f1 : ∀ z k, ((z ≠ m + 16 ∧ z ≠ m + 17) ∨ k < 12 * i ∨ 12 * i + 12 ≤ k) → J1 z k = J z k := fun z k hz => by rw [← hJ1, js_ne _ (by omega), js_ne _ (by omega)]
        have hi1 := rid_congr (J' := J1) hi (f1 _ _ (by omega)) (fun _ => f1 _ _ (by omega))
        have hl1 := rlin_congr (J' := J1) hl (f1 _ _ (by omega)) (fun _ => f1 _ _ (by omega))
        have hok1 : okC ids tg (cask C j now) := okC_mod hok (fun c => rfl) hj (by dsimp only; omega)
        obtain ⟨J2, e1, e2, e3⟩ := r_send (N := N) (ids := ids) (i := i) (j := ix ids (cgt C j).1) (x1 := if kd = 1 then 1 else 0) (x2 := x1) (x3 := oI (some (ix ids (cgt C j).1))) (x4 := J1 (m + 15) i) (x5 := J1 (m + 14) i) (x6 := -1) h hi1 hl1 hN h1 hIx hi12 a1
        rw [hv1.1.2.2, hv1.1.2.1, zi_m1, a2] at e2
        have hkd : (if kd = 1 then (1 : Int32) else 0).toInt = if kd = 1 then 1 else 0 := by split <;> rfl
        rw [hkd] at e2
        have hi2 := rid_congr (J' := J2) hi1 (e3 _ _ (by omega) (by omega)) (fun _ => e3 _ _ (by omega) (by omega))
        have hv2 := rlv_congr ⟨hi.2.2.1, h12⟩ hok1.2.1 hH hv1 e3.smL
        obtain ⟨J3, g1, g2, g3, g4, g5, g6⟩ := ih n (t + 1) (z + 1) J2 (cask C j now) _ (zi_inc hz (by omega)) (by omega) (by omega) (by rw [cask_cnt hj hm0]; omega) hi2 e2 hv2 hok1 (by rw [e3 _ _ (by omega) (by omega), f1 _ _ (by omega)]; exact hc)
        refine ⟨J3, ?_, g2, g3, g4, g5, fun z k z1 z2 z3 => by rw [g6 z k z1 z2 z3, e3 z k z1 z2, f1 z k z3]⟩
        rw [← g1]
        show pX7_goOn_8_b N m _ kx _ x1 _ z = _
        unfold pX7_goOn_8_b
        rw [Option.map_some, if_neg (by rw [zi_le, zi_12, hz]; omega), if_neg (by rw [zi_lt, hIx, zi_0]; omega), w_is h.1, r_asked (S := cS ids C) h hi hv.2.1 (by omega) hN h1, asked_eq hi.2.2.1 hok.1 hok.2.1, w_cl, if_neg (by rw [zi_le, zi_2, hcI]; omega), gr_state h, w_nn, si_state h (zi_12i h1 hIx (by omega) (by omega)) (by omega), gr_asked h, w_gI h.1, js_ne (a := m + 16) (b := m) _ (Or.inl (by omega)), w_nn, si_asked h (zi_12i h1 hIx (by omega) (by omega)) (by omega), hJ1, gr_kind h, w_nn, ai_kind h h1 (by omega)]
        have e70 : ∀ s : Int32, s = (if kd = 1 then 1 else 0) → pX7_goOn_70 N m (pX7_goOn_8 N m kx n) kx (mm_w G J1) x1 (oI (some (ix ids (cgt C j).1))) z (some m) s = pX7_goOn_8 N m kx n (mm_w G J2) x1 (oI ((ntk (cask C j now) 0 0).map (fun k => ix ids (cgt (cask C j now) k).1))) (z + 1) := by
          intro s hs
          unfold pX7_goOn_70
          rw [gr_serial h, w_nn, ai_serial h h1 (by omega), gr_goal h, w_nn, ai_goal h h1 (by omega), w_nn, w_is h.1, hs, e1, w_cl, w_is h.1, r_next h hi2 hv2.2.1 hok1.1 hok1.2.1 (by omega) hN h1 hv2.1.2.1 htg (srtC_len hok1.1 hok1.2.1 h12), w_cl]
        by_cases hk1 : kd = 1
        · rw [if_pos (by rw [zi_eq, hv1.1.1, zi_1, hk1]; rfl)]
          exact e70 1 (by rw [if_pos hk1])
        · rw [if_neg (by rw [zi_eq, hv1.1.1, zi_1]; omega)]
          exact e70 0 (by rw [if_neg hk1])
      · refine stay (by unfold nta; rw [if_neg hA]) _ ?_
        show pX7_goOn_8_b N m _ kx _ x1 _ z = _
        unfold pX7_goOn_8_b
        rw [Option.map_some, if_neg (by rw [zi_le, zi_12, hz]; omega), if_neg (by rw [zi_lt, hIx, zi_0]; omega), w_is h.1, r_asked (S := cS ids C) h hi hv.2.1 (by omega) hN h1, asked_eq hi.2.2.1 hok.1 hok.2.1, w_cl, if_pos (by rw [zi_le, zi_2, hcI]; omega)]
end RGO
