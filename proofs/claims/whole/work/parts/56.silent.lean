/-! those who were silent too long have failed -/
def sil (now : Nat) (c : Cd) : Bool := decide (c.2.1 = 1) && decide (4 ≤ (now : Int) - c.2.2.1)
def gv1 (now : Nat) (c : Cd) : Cd := if sil now c = true then (c.1, 3, c.2.2.1, c.2.2.2) else c
def misB (bs : List Bk) (u : Nat) : List Bk := bs.set (rng bs u) ((bg bs (rng bs u)).1, (bg bs (rng bs u)).2.1, (bg bs (rng bs u)).2.2.1, addm (bg bs (rng bs u)).2.2.2 u)
def gvB (now : Nat) (bs : List Bk) (c : Cd) : List Bk := if sil now c = true then misB bs c.1 else bs
theorem addm_len (L : List (Nat × Nat)) (u : Nat) : (addm L u).length = L.length := by
  unfold addm
  cases pl L u with
  | none => rfl
  | some j => simp
theorem addm_fst (L : List (Nat × Nat)) (u : Nat) : (addm L u).map Prod.fst = L.map Prod.fst := by
  unfold addm
  cases pl L u with
  | none => rfl
  | some j =>
    dsimp only
    apply List.ext_getElem?
    intro i
    rw [List.getElem?_map, List.getElem?_map, List.getElem?_modify]
    cases L[i]? with
    | none => rfl
    | some p => by_cases h : j = i <;> simp [h]
theorem addm_le {L : List (Nat × Nat)} {u M : Nat} (h : ∀ p ∈ L, p.2 ≤ M) : ∀ p ∈ addm L u, p.2 ≤ M + 1 := by
  intro p hp
  unfold addm at hp
  cases hj : pl L u with
  | none => rw [hj] at hp; have := h p hp; omega
  | some j =>
    rw [hj] at hp
    dsimp only at hp
    obtain ⟨i, hi⟩ := List.getElem?_of_mem hp
    rw [List.getElem?_modify] at hi
    cases hl : L[i]? with
    | none => rw [hl] at hi; cases hi
    | some c =>
      rw [hl] at hi
      have := h c (List.mem_of_getElem? hl)
      by_cases hji : j = i
      · simp [hji] at hi; subst hi; dsimp only; omega
      · simp [hji] at hi; subst hi; omega
theorem misB_len (bs : List Bk) (u : Nat) : (misB bs u).length = bs.length := by unfold misB; simp
def mcB (bs : List Bk) (M : Nat) : Prop := ∀ b ∈ bs, ∀ p ∈ b.2.2.2, p.2 ≤ M
theorem misB_ok {bs : List Bk} {u M : Nat} (h0 : 0 < bs.length) (hok : okB bs) (hm : mcB bs M) : okB (misB bs u) ∧ mcB (misB bs u) (M + 1) := by
  have hlt := rng_lt u h0
  have hq := hok.at (bg_at hlt)
  have hmem := List.mem_of_getElem? (bg_at hlt)
  refine ⟨okB_set hok ⟨by dsimp only; rw [addm_len]; exact hq.1, hq.2⟩, fun b hb p hp => ?_⟩
  rcases List.mem_or_eq_of_mem_set hb with h1 | h1
  · have := hm b h1 p hp; omega
  · rw [h1] at hp
    exact addm_le (hm _ hmem) p hp
theorem gvB_ok {bs : List Bk} {M now : Nat} {c : Cd} (h0 : 0 < bs.length) (hok : okB bs) (hm : mcB bs M) : okB (gvB now bs c) ∧ mcB (gvB now bs c) (M + 1) ∧ (gvB now bs c).length = bs.length := by
  unfold gvB
  split
  · obtain ⟨a, b⟩ := misB_ok (u := c.1) h0 hok hm
    exact ⟨a, b, misB_len bs c.1⟩
  · exact ⟨hok, fun b hb p hp => by have := hm b hb p hp; omega, rfl⟩
theorem e_silent_l {G : mm_M} {J0 : Nat → Nat → Int32} {a b N st kd tg se now nr M : Nat} {w : Nat → Nat} {C : List Cd} {H : List Nat} {kx : mm_M → Option Nat → Int32 → Option (mm_M × Int32)} (h : sO G a) (hp : sP G b) (hT : sT G (b + 1) w) (hb : a + 6 ≤ b) (h12 : C.length ≤ 12) (hC : ∀ c ∈ C, c.1 < 256 ∧ -1 ≤ c.2.2.1 ∧ c.2.2.1 ≤ 100000) (hnow0 : (J0 a 5).toInt = (now : Int)) (hnow : now < 100000) (hM : M ≤ 50000) (hN : 400 ≤ N) : ∀ (r n i s : Nat) (x y : Int32) (J : Nat → Nat → Int32) (bs : List Bk), y.toInt = (i : Int) → x.toInt = (s : Int) → s ≤ i → i + r = C.length → r < n → tv J (b + 1) w nr bs → okB bs → mcB bs (M + i) → 0 < bs.length → bs.length ≤ 9 → lk J (b + 30) st kd tg se ((C.take i).map (gv1 now) ++ C.drop i) H → frP J0 J a b → (J a 6 = J0 a 6 ∧ ∀ d, d ≤ 2 → ∀ j, J (a + 2 + d) j = J0 (a + 2 + d) j) → ∃ J' x', pX6_giveUpOnSilent_19 N a kx n (mm_w G J) (some b) (some (b + 30)) x y = kx (mm_w G J') (some b) x' ∧ x'.toInt = ((s + (C.drop i).countP (sil now) : Nat) : Int) ∧ tv J' (b + 1) w nr ((C.drop i).foldl (gvB now) bs) ∧ okB ((C.drop i).foldl (gvB now) bs) ∧ ((C.drop i).foldl (gvB now) bs).length = bs.length ∧ lk J' (b + 30) st kd tg se (C.map (gv1 now)) H ∧ frP J0 J' a b ∧ (J' a 6 = J0 a 6 ∧ ∀ d, d ≤ 2 → ∀ j, J' (a + 2 + d) j = J0 (a + 2 + d) j) := by
  obtain ⟨p0, ⟨p1, p2, -⟩, pL, -⟩ := hp
  have r0 := pL.2 0 (by omega)
  have r1 := pL.2 1 (by omega)
  have r2 := pL.2 2 (by omega)
  intro r
  induction r with
  | zero =>
    intro n i s x y J bs hy hx hs hi hn ht hok hm h0 h9 hk hf hf2
    obtain ⟨n, rfl⟩ : ∃ m, n = m + 1 := ⟨n - 1, by omega⟩
    have hi2 : i = C.length := by omega
    subst hi2
    rw [List.take_length, List.drop_length, List.append_nil] at hk
    rw [List.drop_length]
    refine ⟨J, x, ?_, by simpa using hx, ht, hok, rfl, hk, hf, hf2⟩
    show pX6_giveUpOnSilent_19_b N a _ kx _ _ _ x y = _
    unfold pX6_giveUpOnSilent_19_b
    rw [w_nn, w_gI pL.1, if_pos (by rw [zi_le, hk.2.1.1, hy]; simp)]
  | succ r ih =>
    intro n i s x y J bs hy hx hs hi hn ht hok hm h0 h9 hk hf hf2
    obtain ⟨n, rfl⟩ : ∃ m, n = m + 1 := ⟨n - 1, by omega⟩
    have hlt : i < C.length := by omega
    have hlen : ((C.take i).map (gv1 now) ++ C.drop i).length = C.length := by simp; omega
    have hat : ((C.take i).map (gv1 now) ++ C.drop i)[i]? = some C[i] := by
      rw [List.getElem?_append_right (by simp; omega)]
      simp [Nat.min_eq_left (Nat.le_of_lt hlt), hlt]
    obtain ⟨g1, g2, g3, g4⟩ := hk.2.2.1 i C[i] hat
    have g1 : (J (b + 30 + 1 + 0) i).toInt = (C[i].1 : Int) := g1
    have g2 : (J (b + 30 + 1 + 1) i).toInt = (C[i].2.1 : Int) := g2
    have g3 : (J (b + 30 + 1 + 2) i).toInt = C[i].2.2.1 := g3
    obtain ⟨c1, c2, c3⟩ := hC _ (List.getElem_mem hlt)
    have hnw : (J a 5).toInt = (now : Int) := by rw [hf _ _ (by omega) (by omega) (by omega) (by omega) (Or.inr (by omega))]; exact hnow0
    have hsub : (J a 5 - J (b + 30 + 1 + 2) i).toInt = (now : Int) - C[i].2.2.1 := zi_sub hnw g3 (by omega) (by omega)
    have hy1 := zi_inc hy (by omega)
    have hsplit : ∀ c', gv1 now C[i] = c' → (C.take (i + 1)).map (gv1 now) ++ C.drop (i + 1) = ((C.take i).map (gv1 now) ++ C.drop i).set i c' := by
      intro c' hc'
      rw [take_s2 hlt, List.map_append, List.append_assoc, List.drop_eq_getElem_cons hlt, List.set_append_right _ _ (by simp; omega)]
      simp [Nat.min_eq_left (Nat.le_of_lt hlt), hc']
      rw [List.drop_eq_getElem_cons hlt]
      rfl
    rw [List.drop_eq_getElem_cons hlt, List.countP_cons, List.foldl_cons]
    have hgv := gvB_ok (now := now) (c := C[i]) h0 hok hm
    by_cases hsl : sil now C[i] = true
    · have hmk : C[i].2.1 = 1 ∧ 4 ≤ (now : Int) - C[i].2.2.1 := by simpa [sil] using hsl
      generalize hJ1 : js J (b + 30 + 1 + 1) i 3 = J1
      have e1 : ∀ z j, z ≠ b + 30 + 1 + 1 → J1 z j = J z j := fun z j hz => by subst hJ1; exact js_ne _ (Or.inl hz)
      have hk1 : lk J1 (b + 30) st kd tg se (((C.take i).map (gv1 now) ++ C.drop i).set i (C[i].1, 3, C[i].2.2.1, C[i].2.2.2)) H := by
        obtain ⟨⟨a1, a2, a3, a4⟩, ⟨a5, a6⟩, a7, a8⟩ := hk
        refine ⟨⟨?_, ?_, ?_, ?_⟩, ⟨?_, ?_⟩, ?_, ?_⟩
        · rw [e1 _ _ (by omega)]; exact a1
        · rw [e1 _ _ (by omega)]; exact a2
        · rw [e1 _ _ (by omega)]; exact a3
        · rw [e1 _ _ (by omega)]; exact a4
        · rw [e1 _ _ (by omega), List.length_set]; exact a5
        · rw [e1 _ _ (by omega)]; exact a6
        · intro k c hc
          rw [e1 _ _ (by omega), e1 (b + 30 + 3) _ (by omega), e1 (b + 30 + 4) _ (by omega)]
          by_cases hik : i = k
          · subst hik
            rw [List.getElem?_set_self (by omega)] at hc
            cases hc
            obtain ⟨t1, t2, t3, t4⟩ := a7 i C[i] hat
            refine ⟨t1, ?_, t3, t4⟩
            subst hJ1
            rw [show b + 30 + 2 = b + 30 + 1 + 1 from rfl, js_same]
            exact zi_3
          · rw [List.getElem?_set_ne hik] at hc
            obtain ⟨t1, t2, t3, t4⟩ := a7 k c hc
            refine ⟨t1, ?_, t3, t4⟩
            subst hJ1
            rw [js_ne _ (Or.inr (by omega))]
            exact t2
        · intro k z hz
          rw [e1 _ _ (by omega)]
          exact a8 k z hz
      have ht1 : tv J1 (b + 1) w nr bs := tv_congr hT h9 ht (fun z z1 z2 j => e1 z j (by omega))
      have g1' : (J1 (b + 30 + 1 + 0) i).toInt = (C[i].1 : Int) := by rw [e1 _ _ (by omega)]; exact g1
      have hltb := rng_lt C[i].1 h0
      obtain ⟨J2, f1, f2, f3⟩ := e_miss (N := N) hT ht1 h9 hN g1' (bg_at hltb) (hok.at (bg_at hltb)).1 (fun p hp' => by have := hm _ (List.mem_of_getElem? (bg_at hltb)) p hp'; omega)
      have hgB : gvB now bs C[i] = misB bs C[i].1 := by unfold gvB; rw [if_pos hsl]
      have f2 : tv J2 (b + 1) w nr (gvB now bs C[i]) := by rw [hgB]; exact f2
      have hunf : pX6_giveUpOnSilent_19 N a kx (n + 1) (mm_w G J) (some b) (some (b + 30)) x y = pX6_giveUpOnSilent_19 N a kx n (mm_w G J2) (some b) (some (b + 30)) (x + 1) (y + 1) := by
        show pX6_giveUpOnSilent_19_b N a _ kx _ _ _ x y = _
        unfold pX6_giveUpOnSilent_19_b
        rw [w_nn, w_gI pL.1, if_neg (by rw [zi_le, hk.2.1.1, hy, hlen]; omega), w_gR pL.1, r1.1, w_nn, w_aI r1.2.1 hy (by rw [r1.2.2]; omega), if_pos (by rw [zi_eq, g2, zi_1]; omega), w_gI h.1, w_gR pL.1, r2.1, w_nn, w_aI r2.2.1 hy (by rw [r2.2.2]; omega), if_neg (by rw [zi_lt, hsub, zi_4]; omega), w_gR pL.1, r1.1, w_nn, w_sI r1.2.1 hy (by rw [r1.2.2]; omega), hJ1, w_nn, w_gR p0, w_gR pL.1, r0.1, w_nn, w_aI r0.2.1 hy (by rw [r0.2.2]; omega), p1, w_nn, w_is hT.1, f1, w_cl]
      have hk2 : lk J2 (b + 30) st kd tg se ((C.take (i + 1)).map (gv1 now) ++ C.drop (i + 1)) H := by
        rw [hsplit (C[i].1, 3, C[i].2.2.1, C[i].2.2.2) (by unfold gv1; rw [if_pos hsl])]
        exact lk_congr hk1 (fun z z1 z2 j => f3 z j (by omega))
      obtain ⟨J3, x3, k1, k2, k3, k4, k5, k6, k7, k8⟩ := ih n (i + 1) (s + 1) (x + 1) (y + 1) J2 (gvB now bs C[i]) hy1 (zi_inc hx (by omega)) (by omega) (by omega) (by omega) f2 hgv.1 hgv.2.1 (by omega) (by omega) hk2 (hf.trans (fun z j z1 z2 z3 z4 z5 => by rw [f3 z j (by omega), e1 z j (by omega)])) ⟨by rw [f3 _ _ (by omega), e1 _ _ (by omega)]; exact hf2.1, fun d hd j => by rw [f3 _ _ (by omega), e1 _ _ (by omega)]; exact hf2.2 d hd j⟩
      rw [hunf]
      refine ⟨J3, x3, k1, ?_, k3, k4, by omega, k6, k7, k8⟩
      rw [k2, if_pos hsl]
      omega
    · have hgB : gvB now bs C[i] = bs := by unfold gvB; rw [if_neg hsl]
      have hns : ¬ (C[i].2.1 = 1 ∧ 4 ≤ (now : Int) - C[i].2.2.1) := by simpa [sil] using hsl
      have hunf : pX6_giveUpOnSilent_19 N a kx (n + 1) (mm_w G J) (some b) (some (b + 30)) x y = pX6_giveUpOnSilent_19 N a kx n (mm_w G J) (some b) (some (b + 30)) x (y + 1) := by
        show pX6_giveUpOnSilent_19_b N a _ kx _ _ _ x y = _
        unfold pX6_giveUpOnSilent_19_b
        rw [w_nn, w_gI pL.1, if_neg (by rw [zi_le, hk.2.1.1, hy, hlen]; omega), w_gR pL.1, r1.1, w_nn, w_aI r1.2.1 hy (by rw [r1.2.2]; omega)]
        by_cases h1 : C[i].2.1 = 1
        · rw [if_pos (by rw [zi_eq, g2, zi_1]; omega), w_gI h.1, w_gR pL.1, r2.1, w_nn, w_aI r2.2.1 hy (by rw [r2.2.2]; omega), if_pos (by rw [zi_lt, hsub, zi_4]; omega)]
        · rw [if_neg (by rw [zi_eq, g2, zi_1]; omega)]
      have hk2 : lk J (b + 30) st kd tg se ((C.take (i + 1)).map (gv1 now) ++ C.drop (i + 1)) H := by
        rw [hsplit C[i] (by unfold gv1; rw [if_neg hsl])]
        have : ((C.take i).map (gv1 now) ++ C.drop i).set i C[i] = (C.take i).map (gv1 now) ++ C.drop i := by
          apply List.ext_getElem?
          intro k
          by_cases hik : i = k
          · subst hik; rw [List.getElem?_set_self (by omega), hat]
          · rw [List.getElem?_set_ne hik]
        rw [this]
        exact hk
      obtain ⟨J3, x3, k1, k2, k3, k4, k5, k6, k7, k8⟩ := ih n (i + 1) s x (y + 1) J bs hy1 hx (by omega) (by omega) (by omega) ht hok (fun b hb p hp => by have := hm b hb p hp; omega) h0 h9 hk2 hf hf2
      rw [hunf, hgB]
      refine ⟨J3, x3, k1, ?_, k3, k4, k5, k6, k7, k8⟩
      rw [k2, if_neg hsl]
      omega
theorem e_silent {G : mm_M} {J : Nat → Nat → Int32} {a b N st kd tg se now nr M : Nat} {w : Nat → Nat} {bs : List Bk} {C : List Cd} {H : List Nat} {L : List Dg} (h : sO G a) (hp : sP G b) (hT : sT G (b + 1) w) (hb : a + 6 ≤ b) (ht : tv J (b + 1) w nr bs) (hok : okB bs) (hm : mcB bs M) (h0 : 0 < bs.length) (h9 : bs.length ≤ 9) (hk : lk J (b + 30) st kd tg se C H) (h12 : C.length ≤ 12) (hC : ∀ c ∈ C, c.1 < 256 ∧ -1 ≤ c.2.2.1 ∧ c.2.2.1 ≤ 100000) (hl : lin J (a + 2) L) (h24 : L.length ≤ 24) (hnow0 : (J a 5).toInt = (now : Int)) (hnow : now < 100000) (hnr : (J b 0).toInt = (nr : Int)) (hM : M ≤ 50000) (hN : 400 ≤ N) (hst : st = 1) :
    let CL := goL kd nr se tg now 2 (C.map (gv1 now)) L
    ∃ J' x', pX6_giveUpOnSilent_0 N a (mm_w G J) (some b) = some (mm_w G J', x') ∧ x'.toInt = ((C.countP (sil now) : Nat) : Int) ∧ tv J' (b + 1) w nr (C.foldl (gvB now) bs) ∧ lk J' (b + 30) (goS 1 CL.1) kd tg se CL.1 H ∧ lin J' (a + 2) (goD kd nr se tg CL.1 CL.2) ∧ J' a 6 = J a 6 ∧ frP J J' a b := by
  intro CL
  obtain ⟨J1, x1, e1, e2, e3, e4, e5, e6, e7, e8⟩ := e_silent_l (N := N) (J0 := J) (M := M) (C := C) (nr := nr) (kx := fun (G : mm_M) (x1 : Option Nat) (x3 : Int32) => q_is G a 7 <| q_cl (pX6_goOn_0 N a G x1) fun G _ => some (G, x3)) h hp hT hb h12 hC hnow0 hnow hM hN C.length N 0 0 0 0 J bs zi_0 zi_0 (by omega) (by omega) (by omega) ht hok hm h0 h9 (by simpa using hk) (fun _ _ _ _ _ _ _ => rfl) ⟨rfl, fun _ _ _ => rfl⟩
  rw [List.drop_zero] at e2 e3 e4 e5
  have hl1 : lin J1 (a + 2) L := ⟨by rw [show J1 (a + 2) 1 = J (a + 2) 1 from e8.2 0 (by omega) 1]; exact hl.1, fun k D hk' c hc => by rw [show ∀ z, J1 (a + 2 + 1) z = J (a + 2 + 1) z from e8.2 1 (by omega)]; exact hl.2 k D hk' c hc⟩
  obtain ⟨J2, f1, f2, f3, f4⟩ := e_goon (N := N) (now := now) (nr := nr) h hp hb e6 (by simpa using h12) hl1 h24 (by rw [e7 _ _ (by omega) (by omega) (by omega) (by omega) (Or.inr (by omega))]; exact hnow0) (by rw [e7 _ _ (by omega) (by omega) (by omega) (by omega) (Or.inl (by omega))]; exact hnr) hN
  subst hst
  refine ⟨J2, x1, ?_, by rw [e2]; simp, ?_, f2, f3, ?_, e7.trans f4.P⟩
  · unfold pX6_giveUpOnSilent_0
    rw [w_nn, w_gR hp.1, hp.2.1.2.1, w_nn, w_is hp.2.2.1.1, e_running hp.2.2.1 hk, w_cl, if_neg (by simp), e1, w_is h.1, f1, w_cl]
  · exact tv_congr hT (by omega) e3 (fun z z1 z2 j => f4 z j (by omega) (by omega) (by omega) (by omega))
  · rw [f4 _ _ (by omega) (by omega) (by omega) (by omega)]; exact e8.1
theorem e_silent0 {G : mm_M} {J : Nat → Nat → Int32} {a b N st kd tg se : Nat} {C : List Cd} {H : List Nat} (hp : sP G b) (hk : lk J (b + 30) st kd tg se C H) (hst : st ≠ 1) : pX6_giveUpOnSilent_0 N a (mm_w G J) (some b) = some (mm_w G J, 0) := by
  unfold pX6_giveUpOnSilent_0
  rw [w_nn, w_gR hp.1, hp.2.1.2.1, w_nn, w_is hp.2.2.1.1, e_running hp.2.2.1 hk, w_cl, if_pos (by simp [hst])]
