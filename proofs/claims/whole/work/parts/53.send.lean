/-! the overlay: the object at a; a peer at b -/
def sO (G : mm_M) (a : Nat) : Prop := mm_K G a = 7 ∧ (mm_R G a 0 = some (a + 1) ∧ mm_R G a 1 = some (a + 2) ∧ mm_R G a 2 = some (a + 4) ∧ mm_R G a 3 = some (a + 5)) ∧ (mm_K G (a + 1) = 103 ∧ mm_ln G (a + 1) = 12) ∧ sN G (a + 2) ∧ sW G (a + 4) ∧ sW G (a + 5)
def sP (G : mm_M) (b : Nat) : Prop := mm_K G b = 5 ∧ (mm_R G b 1 = some (b + 1) ∧ mm_R G b 2 = some (b + 30) ∧ mm_R G b 3 = some (b + 36)) ∧ sL G (b + 30) ∧ sE G (b + 36)
def mkD (k s r e t o : Int) : Dg := fun c => if c = 0 then k else if c = 1 then s else if c = 2 then r else if c = 3 then e else if c = 4 then t else if c = 5 then o else -1
theorem e_write {G : mm_M} {J : Nat → Nat → Int32} {a N : Nat} {x1 x2 x3 x4 x5 x6 : Int32} (h : sO G a) (hN : 400 ≤ N) : ∃ J', pX6_write_0 N a (mm_w G J) x1 x2 x3 x4 x5 x6 = some (mm_w G J', ()) ∧ rw12 J' (a + 4) (mkD x1.toInt x2.toInt x3.toInt x4.toInt x5.toInt x6.toInt) ∧ ∀ b j, b ≠ a + 4 → J' b j = J b j := by
  obtain ⟨h0, ⟨-, -, h1, -⟩, -, -, h2, -⟩ := h
  obtain ⟨J1, e1, e2, e3⟩ := e_fill (N := N) (J := J) (v := -1) h2 hN
  refine ⟨js (js (js (js (js (js J1 (a + 4) 0 x1) (a + 4) 1 x2) (a + 4) 2 x3) (a + 4) 3 x4) (a + 4) 4 x5) (a + 4) 5 x6, ?_, ?_, ?_⟩
  · unfold pX6_write_0
    have l := h2.2
    rw [w_gR h0, h1, e1, w_cl, w_gR h0, h1, w_nn, w_sI (i := 0) h2.1 zi_0 (by omega), w_gR h0, h1, w_nn, w_sI (i := 1) h2.1 zi_1 (by omega), w_gR h0, h1, w_nn, w_sI (i := 2) h2.1 zi_2 (by omega), w_gR h0, h1, w_nn, w_sI (i := 3) h2.1 zi_3 (by omega), w_gR h0, h1, w_nn, w_sI (i := 4) h2.1 zi_4 (by omega), w_gR h0, h1, w_nn, w_sI (i := 5) h2.1 zi_5 (by omega)]
  · intro c hc
    unfold mkD
    rcases (show c = 0 ∨ c = 1 ∨ c = 2 ∨ c = 3 ∨ c = 4 ∨ c = 5 ∨ 5 < c by omega) with rfl | rfl | rfl | rfl | rfl | rfl | h6
    · simp [js]
    · simp [js]
    · simp [js]
    · simp [js]
    · simp [js]
    · simp [js]
    · rw [if_neg (by omega), if_neg (by omega), if_neg (by omega), if_neg (by omega), if_neg (by omega), if_neg (by omega), js_ne _ (Or.inr (by omega)), js_ne _ (Or.inr (by omega)), js_ne _ (Or.inr (by omega)), js_ne _ (Or.inr (by omega)), js_ne _ (Or.inr (by omega)), js_ne _ (Or.inr (by omega)), e2 c hc]
      exact zi_m1
  · intro b j hb
    rw [js_ne _ (Or.inl hb), js_ne _ (Or.inl hb), js_ne _ (Or.inl hb), js_ne _ (Or.inl hb), js_ne _ (Or.inl hb), js_ne _ (Or.inl hb), e3 b j hb]
def frS (J J' : Nat → Nat → Int32) (a : Nat) : Prop := ∀ b j, b ≠ a + 2 → b ≠ a + 3 → b ≠ a + 4 → J' b j = J b j
/-- a datagram is written and put into the line, or lost -/
theorem e_send {α : Type} {G : mm_M} {J : Nat → Nat → Int32} {a N : Nat} {x1 x2 x3 x4 x5 x6 : Int32} {L : List Dg} {f : mm_M → Option α} (h : sO G a) (hl : lin J (a + 2) L) (h24 : L.length ≤ 24) (hN : 400 ≤ N) : ∃ J', (q_is (mm_w G J) a 7 <| q_cl (pX6_write_0 N a (mm_w G J) x1 x2 x3 x4 x5 x6) fun G _ => q_gR G a 7 1 fun r1 => q_gR G a 7 2 fun r2 => q_nn r1 fun b1 => q_is G b1 3 <| q_cl (pX2_addOrLose_0 N b1 G r2) fun G _ => f G) = f (mm_w G J') ∧ lin J' (a + 2) (ladd L (mkD x1.toInt x2.toInt x3.toInt x4.toInt x5.toInt x6.toInt)) ∧ frS J J' a := by
  obtain ⟨J1, e1, e2, e3⟩ := e_write (N := N) (J := J) (x1 := x1) (x2 := x2) (x3 := x3) (x4 := x4) (x5 := x5) (x6 := x6) h hN
  have hl1 : lin J1 (a + 2) L := ⟨by rw [e3 _ _ (by omega)]; exact hl.1, fun k D hk c hc => by rw [e3 _ _ (by omega)]; exact hl.2 k D hk c hc⟩
  obtain ⟨J2, f1, f2, f3⟩ := e_addrow (N := N) h.2.2.2.1 h.2.2.2.2.1 (by omega) hl1 h24 e2
  refine ⟨J2, ?_, f2, fun b j g2 g3 g4 => by rw [f3 b j g2 (by omega), e3 b j g4]⟩
  rw [w_is h.1, e1, w_cl, w_gR h.1, w_gR h.1, h.2.1.2.1, h.2.1.2.2.1, w_nn, w_is h.2.2.2.1.1, f1, w_cl]
theorem ladd_len {L : List Dg} {D : Dg} (h : L.length ≤ 24) : (ladd L D).length ≤ 24 := by
  unfold ladd
  split
  · simp; omega
  · exact h
/-! one candidate is asked -/
def cask (C : List Cd) (j now : Nat) : List Cd := C.modify j (fun c => (c.1, 1, (now : Int), c.2.2.2))
theorem cask_at {C : List Cd} {j i now : Nat} {c : Cd} (h : (cask C j now)[i]? = some c) : ∃ d, C[i]? = some d ∧ c = if j = i then (d.1, 1, (now : Int), d.2.2.2) else d := by
  unfold cask at h
  rw [List.getElem?_modify] at h
  cases hd : C[i]? with
  | none => rw [hd] at h; cases h
  | some d =>
    rw [hd] at h
    by_cases hji : j = i
    · simp [hji] at h
      exact ⟨d, rfl, by rw [if_pos hji, h]⟩
    · simp [hji] at h
      exact ⟨d, rfl, by rw [if_neg hji, h]⟩
/-- nothing but a lookup's cells and the line has changed -/
def frK (J J' : Nat → Nat → Int32) (a q : Nat) : Prop := ∀ b j, (b < q ∨ q + 6 ≤ b) → b ≠ a + 2 → b ≠ a + 3 → b ≠ a + 4 → J' b j = J b j
theorem frK.trans {J J' J'' : Nat → Nat → Int32} {a q : Nat} (h1 : frK J J' a q) (h2 : frK J' J'' a q) : frK J J'' a q := fun b j w x y z => (h2 b j w x y z).trans (h1 b j w x y z)
theorem frS.K {J J' : Nat → Nat → Int32} {a : Nat} (q : Nat) (h : frS J J' a) : frK J J' a q := fun b j _ x y z => h b j x y z
theorem e_ask {G : mm_M} {J : Nat → Nat → Int32} {a b N st kd tg se now nr j : Nat} {C : List Cd} {H : List Nat} {L : List Dg} {x : Int32} {c : Cd} (h : sO G a) (hp : sP G b) (hb : a + 6 ≤ b) (hk : lk J (b + 30) st kd tg se C H) (h12 : C.length ≤ 12) (hl : lin J (a + 2) L) (h24 : L.length ≤ 24) (hnow : (J a 5).toInt = (now : Int)) (hnr : (J b 0).toInt = (nr : Int)) (hN : 400 ≤ N) (hx : x.toInt = (j : Int)) (hc : C[j]? = some c) : ∃ J', pX6_ask_0 N a (mm_w G J) (some b) x = some (mm_w G J', ()) ∧ lk J' (b + 30) st kd tg se (cask C j now) H ∧ lin J' (a + 2) (ladd L (mkD (if kd = 1 then 1 else 0) nr c.1 se tg (-1))) ∧ frK J J' a (b + 30) := by
  have hlt : j < C.length := (List.getElem?_eq_some_iff.mp hc).1
  obtain ⟨p0, ⟨-, p2, -⟩, pL, -⟩ := hp
  have r0 := pL.2 0 (by omega)
  have r1 := pL.2 1 (by omega)
  have r2 := pL.2 2 (by omega)
  generalize hJ1 : js (js J (b + 30 + 1 + 1) j 1) (b + 30 + 1 + 2) j (J a 5) = J1
  have k1 : lk J1 (b + 30) st kd tg se (cask C j now) H := by
    subst hJ1
    obtain ⟨⟨a1, a2, a3, a4⟩, ⟨a5, a6⟩, a7, a8⟩ := hk
    refine ⟨⟨?_, ?_, ?_, ?_⟩, ⟨?_, ?_⟩, ?_, ?_⟩
    · rw [js_ne _ (Or.inl (by omega)), js_ne _ (Or.inl (by omega))]; exact a1
    · rw [js_ne _ (Or.inl (by omega)), js_ne _ (Or.inl (by omega))]; exact a2
    · rw [js_ne _ (Or.inl (by omega)), js_ne _ (Or.inl (by omega))]; exact a3
    · rw [js_ne _ (Or.inl (by omega)), js_ne _ (Or.inl (by omega))]; exact a4
    · rw [js_ne _ (Or.inl (by omega)), js_ne _ (Or.inl (by omega)), a5]; unfold cask; simp
    · rw [js_ne _ (Or.inl (by omega)), js_ne _ (Or.inl (by omega))]; exact a6
    · intro i d hd
      obtain ⟨e, he, rfl⟩ := cask_at hd
      obtain ⟨g1, g2, g3, g4⟩ := a7 i e he
      rw [js_ne (b := b + 30 + 1) _ (Or.inl (by omega)), js_ne (b := b + 30 + 1) _ (Or.inl (by omega)), js_ne (b := b + 30 + 2) _ (Or.inl (by omega)), js_ne (b := b + 30 + 4) _ (Or.inl (by omega)), js_ne (b := b + 30 + 4) _ (Or.inl (by omega))]
      by_cases hji : j = i
      · subst hji
        rw [if_pos rfl, show b + 30 + 2 = b + 30 + 1 + 1 from rfl, js_same, show b + 30 + 3 = b + 30 + 1 + 2 from rfl, js_same]
        exact ⟨g1, by rw [zi_1]; rfl, hnow, g4⟩
      · rw [if_neg hji, js_ne _ (Or.inr (by omega)), js_ne _ (Or.inr (by omega)), js_ne _ (Or.inr (by omega))]
        exact ⟨g1, g2, g3, g4⟩
    · intro i y hy
      rw [js_ne _ (Or.inl (by omega)), js_ne _ (Or.inl (by omega))]
      exact a8 i y hy
  have fr1 : frK J J1 a (b + 30) := by
    subst hJ1
    intro x i w1 _ _ _
    rw [js_ne _ (Or.inl (by omega)), js_ne _ (Or.inl (by omega))]
  have hl1 : lin J1 (a + 2) L := ⟨by rw [show J1 (a + 2) 1 = J (a + 2) 1 by subst hJ1; rw [js_ne _ (Or.inl (by omega)), js_ne _ (Or.inl (by omega))]]; exact hl.1, fun k D hk' i hi => by rw [show ∀ z, J1 (a + 2 + 1) z = J (a + 2 + 1) z by subst hJ1; intro z; rw [js_ne _ (Or.inl (by omega)), js_ne _ (Or.inl (by omega))]]; exact hl.2 k D hk' i hi⟩
  have hnr1 : (J1 b 0).toInt = (nr : Int) := by rw [fr1 _ _ (by omega) (by omega) (by omega) (by omega)]; exact hnr
  have hnum : (J1 (b + 30 + 1 + 0) j).toInt = (c.1 : Int) := by
    subst hJ1
    rw [js_ne _ (Or.inl (by omega)), js_ne _ (Or.inl (by omega))]
    exact (hk.2.2.1 j c hc).1
  have body : ∀ (s0 : Int32) (k0 : Int), s0.toInt = k0 → ∃ J', pX6_ask_35 N a (mm_w G J1) (some b) x (some (b + 30)) s0 = some (mm_w G J', ()) ∧ lk J' (b + 30) st kd tg se (cask C j now) H ∧ lin J' (a + 2) (ladd L (mkD k0 nr c.1 se tg (-1))) ∧ frK J J' a (b + 30) := by
    intro s0 k0 hs0
    obtain ⟨J2, e1, e2, e3⟩ := e_send (N := N) (J := J1) (x1 := s0) (x2 := J1 b 0) (x3 := J1 (b + 30 + 1 + 0) j) (x4 := J1 (b + 30) 8) (x5 := J1 (b + 30) 7) (x6 := -1) (f := fun G => some (G, ())) h hl1 h24 hN
    refine ⟨J2, ?_, lk_congr k1 (fun y y1 y2 i => e3 y i (by omega) (by omega) (by omega)), ?_, fr1.trans (e3.K _)⟩
    · unfold pX6_ask_35
      rw [w_nn, w_gI p0, w_nn, w_gR pL.1, r0.1, w_nn, w_aI r0.2.1 hx (by rw [r0.2.2]; omega), w_gI pL.1, w_gI pL.1]
      exact e1
    · rw [hs0, hnr1, hnum, k1.1.2.2.2, k1.1.2.2.1, zi_m1] at e2
      exact e2
  have hpre : pX6_ask_0 N a (mm_w G J) (some b) x = if J1 (b + 30) 6 = (1 : Int32) then pX6_ask_35 N a (mm_w G J1) (some b) x (some (b + 30)) (1 : Int32) else pX6_ask_35 N a (mm_w G J1) (some b) x (some (b + 30)) (0 : Int32) := by
    unfold pX6_ask_0
    rw [w_nn, w_gR p0, p2, w_nn, w_gR pL.1, r1.1, w_nn, w_sI r1.2.1 hx (by rw [r1.2.2]; omega), w_gR pL.1, r2.1, w_gI h.1, w_nn, w_sI r2.2.1 hx (by rw [r2.2.2]; omega), w_gI pL.1, js_ne (b := a) _ (Or.inl (by omega)), hJ1]
  rw [hpre]
  by_cases hkd : kd = 1
  · rw [if_pos (by rw [zi_eq, k1.1.2.1, zi_1]; omega), if_pos hkd]
    exact body 1 1 zi_1
  · rw [if_neg (by rw [zi_eq, k1.1.2.1, zi_1]; omega), if_neg hkd]
    exact body 0 0 zi_0
