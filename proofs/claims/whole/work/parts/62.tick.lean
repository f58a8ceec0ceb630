/-! a tick -/
def tkP (now : Nat) (p : Pe) (L : List Dg) : Pe × List Dg × Nat :=
  if p.2.1 = true then
    if p.2.2.2.1.1 = 1 then
      let CL := goL p.2.2.2.1.2.1 p.1 p.2.2.2.1.2.2.2.1 p.2.2.2.1.2.2.1 now 2 (p.2.2.2.1.2.2.2.2.1.map (gv1 now)) L
      ((p.1, p.2.1, p.2.2.2.1.2.2.2.2.1.foldl (gvB now) p.2.2.1, (goS 1 CL.1, p.2.2.2.1.2.1, p.2.2.2.1.2.2.1, p.2.2.2.1.2.2.2.1, CL.1, p.2.2.2.1.2.2.2.2.2), p.2.2.2.2.filter (live now)), goD p.2.2.2.1.2.1 p.1 p.2.2.2.1.2.2.2.1 p.2.2.2.1.2.2.1 CL.1 CL.2, p.2.2.2.1.2.2.2.2.1.countP (sil now))
    else ((p.1, p.2.1, p.2.2.1, p.2.2.2.1, p.2.2.2.2.filter (live now)), L, 0)
  else (p, L, 0)
def tckF (now : Nat) : List (Nat × Pe) → List Dg → List (Nat × Pe) × List Dg × Nat
  | [], L => ([], L, 0)
  | p :: P, L =>
    let R := tckF now P (tkP now p.2 L).2.1
    ((p.1, (tkP now p.2 L).1) :: R.1, R.2.1, (tkP now p.2 L).2.2 + R.2.2)
theorem gvF_len {now : Nat} : ∀ (C : List Cd) (bs : List Bk), (C.foldl (gvB now) bs).length = bs.length
  | [], bs => rfl
  | c :: C, bs => by
    rw [List.foldl_cons, gvF_len C]
    unfold gvB
    split
    · exact misB_len bs c.1
    · rfl
theorem tkP_9 {now : Nat} {p : Pe} {L : List Dg} (h : pe9 p) : pe9 (tkP now p L).1 := by
  unfold tkP
  split
  · split
    · show (List.foldl (gvB now) p.2.2.1 p.2.2.2.1.2.2.2.2.1).length ≤ 9
      rw [gvF_len]; exact h
    · exact h
  · exact h
theorem tkP_len {now : Nat} {p : Pe} {L : List Dg} (h : L.length ≤ 24) : (tkP now p L).2.1.length ≤ 24 := by
  unfold tkP
  split
  · split
    · exact goD_len ((goL_len 2 _ L).2 h)
    · exact h
  · exact h
theorem e_tick_l {G : mm_M} {a now ser N : Nat} {P : List (Nat × Pe)} {S : List Nat} {kx : mm_M → Int32 → Option (mm_M × Int32)} (hS : S.length ≤ 12 ∧ ∀ x ∈ S, x < 256) (hw : ∀ p ∈ P, wfp S p.2) (hN : 400 ≤ N) (hnow : now < 100000) : ∀ (r n i s : Nat) (x y : Int32) (J : Nat → Nat → Int32) (Q : List (Nat × Pe)) (L : List Dg), y.toInt = (i : Int) → x.toInt = (s : Int) → s ≤ 100 * i → i + r = P.length → P.length ≤ 12 → r < n → Q.length = i → (∀ q ∈ Q, pe9 q.2) → CW G J a (Q ++ P.drop i) now ser L → ∃ J' x', pX6_tick_14 N a kx n (mm_w G J) x y = kx (mm_w G J') x' ∧ x'.toInt = ((s + (tckF now (P.drop i) L).2.2 : Nat) : Int) ∧ CW G J' a (Q ++ (tckF now (P.drop i) L).1) now ser (tckF now (P.drop i) L).2.1 ∧ frC J J' a := by
  intro r
  induction r with
  | zero =>
    intro n i s x y J Q L hy hx hs hi h12 hn hQ hQ9 h
    obtain ⟨n, rfl⟩ : ∃ m, n = m + 1 := ⟨n - 1, by omega⟩
    have hd : P.drop i = [] := List.drop_eq_nil_of_le (by omega)
    rw [hd] at h ⊢
    refine ⟨J, x, ?_, by simpa [tckF] using hx, h, fun _ _ _ => rfl⟩
    show pX6_tick_14_b N a _ kx _ x y = _
    unfold pX6_tick_14_b
    rw [w_gI h.1.1, if_pos (by rw [zi_le, h.2.2.1.1, hy]; simp; omega)]
  | succ r ih =>
    intro n i s x y J Q L hy hx hs hi h12 hn hQ hQ9 h
    obtain ⟨n, rfl⟩ : ∃ m, n = m + 1 := ⟨n - 1, by omega⟩
    have hlt : i < P.length := by omega
    rw [List.drop_eq_getElem_cons hlt] at h ⊢
    generalize hp0 : P[i] = bp at h ⊢
    have hwp := hw P[i] (List.getElem_mem hlt)
    rw [hp0] at hwp
    obtain ⟨b, p⟩ := bp
    have hat : (Q ++ (b, p) :: P.drop (i + 1))[i]? = some (b, p) := by
      rw [List.getElem?_append_right (by omega), hQ, Nat.sub_self]; rfl
    obtain ⟨q1, q2, q3⟩ := h.2.2.2.2.1 i _ hat
    dsimp only at q1 q2 q3 hwp
    obtain ⟨w0, ⟨w1, w2, w3, w4, w5, w6⟩, ⟨w7, w8, w9, w10⟩, w11⟩ := hwp
    have h9 : ∀ q ∈ Q ++ (b, p) :: P.drop (i + 1), pe9 q.2 := by
      intro q hq
      rcases List.mem_append.mp hq with hq | hq
      · exact hQ9 q hq
      · rcases List.mem_cons.mp hq with rfl | hq
        · exact w2
        · exact (hw q (List.mem_of_mem_drop hq)).2.1.2.1
    have hset : ∀ p', (Q ++ (b, p) :: P.drop (i + 1)).set i (b, p') = (Q ++ [(b, p')]) ++ P.drop (i + 1) := by
      intro p'
      rw [List.set_append_right _ _ (by omega), hQ, Nat.sub_self]
      simp
    have hy1 := zi_inc hy (by omega)
    obtain ⟨h0, ⟨h1, h2⟩, ⟨w, hT, htv⟩, hk', he⟩ := q3
    have step : ∀ (J1 : Nat → Nat → Int32) (x1 : Int32), pX6_tick_14 N a kx (n + 1) (mm_w G J) x y = pX6_tick_14 N a kx n (mm_w G J1) x1 (y + 1) → x1.toInt = ((s + (tkP now p L).2.2 : Nat) : Int) → (tkP now p L).2.2 ≤ 12 → CW G J1 a ((Q ++ [(b, (tkP now p L).1)]) ++ P.drop (i + 1)) now ser (tkP now p L).2.1 → frC J J1 a → ∃ J' x', pX6_tick_14 N a kx (n + 1) (mm_w G J) x y = kx (mm_w G J') x' ∧ x'.toInt = ((s + (tckF now ((b, p) :: P.drop (i + 1)) L).2.2 : Nat) : Int) ∧ CW G J' a (Q ++ (tckF now ((b, p) :: P.drop (i + 1)) L).1) now ser (tckF now ((b, p) :: P.drop (i + 1)) L).2.1 ∧ frC J J' a := by
      intro J1 x1 s1 s2 s3 s4 s5
      obtain ⟨J2, x2, f1, f2, f3, f4⟩ := ih n (i + 1) (s + (tkP now p L).2.2) x1 (y + 1) J1 (Q ++ [(b, (tkP now p L).1)]) (tkP now p L).2.1 hy1 s2 (by omega) (by omega) h12 (by omega) (by simp; omega) (by
        intro q hq
        rcases List.mem_append.mp hq with hq | hq
        · exact hQ9 q hq
        · simp at hq; rw [hq]; exact tkP_9 w2) s4
      refine ⟨J2, x2, s1.trans f1, ?_, ?_, fun z j hz => (f4 z j hz).trans (s5 z j hz)⟩
      · rw [f2]
        show _ = ((s + ((tkP now p L).2.2 + (tckF now (P.drop (i + 1)) (tkP now p L).2.1).2.2) : Nat) : Int)
        rw [Nat.add_assoc]
      · have : Q ++ (tckF now ((b, p) :: P.drop (i + 1)) L).1 = (Q ++ [(b, (tkP now p L).1)]) ++ (tckF now (P.drop (i + 1)) (tkP now p L).2.1).1 := by
          rw [List.append_assoc]; rfl
        rw [this]
        exact f3
    have pre : pX6_tick_14 N a kx (n + 1) (mm_w G J) x y = if J b 4 = 0 then pX6_tick_14 N a kx n (mm_w G J) x (y + 1) else q_cl (pX1_removeEnded_0 N (b + 36) (mm_w G J) (J a 5)) fun G _ => q_is G a 7 <| q_cl (pX6_giveUpOnSilent_0 N a G (some b)) fun G v54_13 => pX6_tick_14 N a kx n G (x + v54_13) (y + 1) := by
      show pX6_tick_14_b N a _ kx _ x y = _
      unfold pX6_tick_14_b
      rw [w_gI h.1.1, if_neg (by rw [zi_le, h.2.2.1.1, hy]; simp; omega), w_gR h.1.1, h.1.2.1.1, w_nn, w_aR h.1.2.2.1.1 hy (by rw [h.1.2.2.1.2]; omega), q1, w_op, w_gI h0.1, w_gR h0.1, w_gI h.1.1, h0.2.1.2.2, w_nn, w_is h0.2.2.2.1]
    cases hup : p.2.1 with
    | false =>
      have ht : tkP now p L = (p, L, 0) := by unfold tkP; rw [if_neg (by rw [hup]; decide)]
      rw [hup] at h2
      refine step J x ?_ (by rw [ht]; simpa using hx) (by rw [ht]; exact Nat.zero_le _) (by rw [ht]; simpa using h) (fun _ _ _ => rfl)
      rw [pre, if_pos (by rw [zi_eq, h2, zi_0]; decide)]
    | true =>
      rw [hup] at h2
      obtain ⟨J1, e1, e2, e3⟩ := e_ended (N := N) h0.2.2.2 he w11 hN h.2.2.1.2.1
      have fr1 : ∀ z j, z < b + 36 ∨ b + 40 ≤ z → J1 z j = J z j := fun z j hz => e3 z j (by omega)
      have htv1 : tv J1 (b + 1) w p.1 p.2.2.1 := tv_congr hT w2 htv (fun z z1 z2 j => fr1 z j (by omega))
      have hk1 := lk_congr hk' (fun z z1 z2 j => fr1 z j (by omega))
      have hl1 : lin J1 (a + 2) L := ⟨by rw [fr1 _ _ (by omega)]; exact h.2.2.2.1.1, fun k D hD c hc => by rw [fr1 _ _ (by omega)]; exact h.2.2.2.1.2 k D hD c hc⟩
      rw [if_neg (by rw [zi_eq, h2, zi_0]; decide), e1, w_cl, w_is h.1.1] at pre
      by_cases hst : p.2.2.2.1.1 = 1
      · have h12' := inS_len w7 hS.1
        have ht : tkP now p L = ((p.1, p.2.1, p.2.2.2.1.2.2.2.2.1.foldl (gvB now) p.2.2.1, (goS 1 (goL p.2.2.2.1.2.1 p.1 p.2.2.2.1.2.2.2.1 p.2.2.2.1.2.2.1 now 2 (p.2.2.2.1.2.2.2.2.1.map (gv1 now)) L).1, p.2.2.2.1.2.1, p.2.2.2.1.2.2.1, p.2.2.2.1.2.2.2.1, (goL p.2.2.2.1.2.1 p.1 p.2.2.2.1.2.2.2.1 p.2.2.2.1.2.2.1 now 2 (p.2.2.2.1.2.2.2.2.1.map (gv1 now)) L).1, p.2.2.2.1.2.2.2.2.2), p.2.2.2.2.filter (live now)), goD p.2.2.2.1.2.1 p.1 p.2.2.2.1.2.2.2.1 p.2.2.2.1.2.2.1 (goL p.2.2.2.1.2.1 p.1 p.2.2.2.1.2.2.2.1 p.2.2.2.1.2.2.1 now 2 (p.2.2.2.1.2.2.2.2.1.map (gv1 now)) L).1 (goL p.2.2.2.1.2.1 p.1 p.2.2.2.1.2.2.2.1 p.2.2.2.1.2.2.1 now 2 (p.2.2.2.1.2.2.2.2.1.map (gv1 now)) L).2, p.2.2.2.1.2.2.2.2.1.countP (sil now)) := by unfold tkP; rw [if_pos hup, if_pos hst]
        have hcle := List.countP_le_length (p := sil now) (l := p.2.2.2.1.2.2.2.2.1)
        obtain ⟨J2, v, f1, f2, f3, f4, f5, f6, f7⟩ := e_silent (N := N) (M := 40000) h.1 h0 hT (by omega) htv1 w3 w5 w1 w2 hk1 h12' (fun c hc => ⟨hS.2 _ (w7.2 c hc), w10 c hc⟩) hl1 h.2.1.2 (by rw [fr1 _ _ (by omega)]; exact h.2.2.1.2.1) hnow (by rw [fr1 _ _ (by omega)]; exact h1) (by omega) hN hst
        have hp' : pv (mm_rw G (b + 2) (mm_R G (b + 2))) J2 b (tkP now p L).1 := by
          rw [mm_rwR, ht]
          exact ⟨h0, ⟨by rw [f7 _ _ (by omega) (by omega) (by omega) (by omega) (Or.inl (by omega)), fr1 _ _ (by omega)]; exact h1, by rw [f7 _ _ (by omega) (by omega) (by omega) (by omega) (Or.inl (by omega)), fr1 _ _ (by omega)]; dsimp only; rw [hup]; exact h2⟩, ⟨w, hT, f3⟩, f4, en_congr e2 (fun z z1 z2 j => f7 z j (by omega) (by omega) (by omega) (by omega) (Or.inl (by omega)))⟩
        have hC := CW.upd (now' := now) (ser' := ser) (L' := (tkP now p L).2.1) h h9 hat hp' (by rw [ht]; exact f5) (tkP_len h.2.1.2) (by rw [f7 _ _ (by omega) (by omega) (by omega) (by omega) (Or.inr (by omega)), fr1 _ _ (by omega)]) (by rw [f7 _ _ (by omega) (by omega) (by omega) (by omega) (Or.inr (by omega)), fr1 _ _ (by omega)]; exact h.2.2.1.2.1) (by rw [f6, fr1 _ _ (by omega)]; exact h.2.2.1.2.2) (fun z j z1 z2 => by rw [f7 z j (by omega) (by omega) (by omega) (by omega) (Or.inl (by omega)), fr1 z j (by omega)])
        rw [mm_rwR, hset] at hC
        refine step J2 (x + v) (by rw [pre, f1, w_cl]) ?_ (by rw [ht]; dsimp only; omega) hC (fun z j hz => by rw [f7.C q2 z j hz, fr1 z j (by omega)])
        rw [ht]
        dsimp only
        rw [zi_add hx f2 (by omega) (by omega)]
        omega
      · have ht : tkP now p L = ((p.1, p.2.1, p.2.2.1, p.2.2.2.1, p.2.2.2.2.filter (live now)), L, 0) := by unfold tkP; rw [if_pos hup, if_neg hst]
        have hp' : pv (mm_rw G (b + 2) (mm_R G (b + 2))) J1 b (tkP now p L).1 := by
          rw [mm_rwR, ht]
          exact ⟨h0, ⟨by rw [fr1 _ _ (by omega)]; exact h1, by rw [fr1 _ _ (by omega)]; dsimp only; rw [hup]; exact h2⟩, ⟨w, hT, htv1⟩, hk1, e2⟩
        have hC := CW.upd (now' := now) (ser' := ser) (L' := (tkP now p L).2.1) h h9 hat hp' (by rw [ht]; exact hl1) (tkP_len h.2.1.2) (by rw [fr1 _ _ (by omega)]) (by rw [fr1 _ _ (by omega)]; exact h.2.2.1.2.1) (by rw [fr1 _ _ (by omega)]; exact h.2.2.1.2.2) (fun z j z1 z2 => fr1 z j (by omega))
        rw [mm_rwR, hset] at hC
        refine step J1 (x + 0) (by rw [pre, e_silent0 h0 hk1 hst, w_cl]) ?_ (by rw [ht]; exact Nat.zero_le _) hC (fun z j hz => fr1 z j (by omega))
        rw [ht]
        dsimp only
        rw [zi_add hx zi_0 (by omega) (by omega)]
        omega
theorem e_tick {G : mm_M} {J : Nat → Nat → Int32} {a now ser N : Nat} {P : List (Nat × Pe)} {L : List Dg} (h : CW G J a P now ser L) (hw : WF P now ser) (hN : 400 ≤ N) : ∃ J' v, pX6_tick_0 N a (mm_w G J) = some (mm_w G J', v) ∧ v.toInt = ((tckF (now + 1) P L).2.2 : Int) ∧ CW G J' a (tckF (now + 1) P L).1 (now + 1) ser (tckF (now + 1) P L).2.1 ∧ frC J J' a := by
  have h12 := h.2.1.1
  have hn := hw.1.1
  have h1 : CW G (js J a 5 (J a 5 + 1)) a P (now + 1) ser L := by
    obtain ⟨c0, ⟨c1, c2⟩, ⟨c3, c4, c5⟩, c6, c7, c8⟩ := h
    refine ⟨c0, ⟨c1, c2⟩, ⟨by rw [js_ne _ (Or.inr (by omega))]; exact c3, by rw [js_same, zi_inc c4 (by omega)], by rw [js_ne _ (Or.inr (by omega))]; exact c5⟩, ⟨by rw [js_ne _ (Or.inl (by omega))]; exact c6.1, fun k D hD c hc => by rw [js_ne _ (Or.inl (by omega))]; exact c6.2 k D hD c hc⟩, fun k p hk => ?_, c8⟩
    obtain ⟨r1, r2, r3⟩ := c7 k p hk
    refine ⟨r1, r2, ?_⟩
    have := pv_keep (c := a + 1) (g := mm_R G (a + 1)) r3 (hw.pe9 p (List.mem_of_getElem? hk)) (by omega) (fun z z1 z2 j => js_ne (J := J) (a := a) (k := 5) (J a 5 + 1) (Or.inl (by omega)))
    rw [mm_rwR] at this
    exact this
  obtain ⟨J', v, e1, e2, e3, e4⟩ := e_tick_l (N := N) (G := G) (a := a) (now := now + 1) (ser := ser) (kx := fun (G : mm_M) (x1 : Int32) => some (G, x1)) (hw.S h12) hw.2 hN (by omega) P.length N 0 0 0 0 (js J a 5 (J a 5 + 1)) [] L zi_0 zi_0 (by omega) (by omega) h12 (by omega) rfl (fun q hq => by cases hq) (by simpa using h1)
  refine ⟨J', v, ?_, by simpa using e2, by simpa using e3, fun z j hz => by rw [e4 z j hz, js_ne _ (Or.inl (by omega))]⟩
  unfold pX6_tick_0
  rw [w_gI h.1.1, w_pI h.1.1]
  exact e1
