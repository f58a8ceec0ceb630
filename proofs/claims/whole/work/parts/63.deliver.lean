/-! a datagram is delivered -/
def qB (M T : Nat) (b : Bk) : Prop := b.2.2.2.length ≤ 3 ∧ b.1 + b.2.1 < 1000000 ∧ (∀ c ∈ b.2.2.2, c.1 < 256 ∧ c.2 ≤ M) ∧ b.2.2.1 ≤ T
theorem qB_bsp {M T : Nat} {bs : List Bk} {k : Nat} {b : Bk} (h : ∀ b ∈ bs, qB M T b) (hb : bs[k]? = some b) : ∀ c ∈ bsp bs k b, qB M T c := by
  obtain ⟨h0, h1, h2, h3⟩ := h b (List.mem_of_getElem? hb)
  intro c hc
  unfold bsp at hc
  rcases List.mem_append.mp hc with hc | hc
  · exact h c (List.mem_of_mem_take hc)
  · rcases List.mem_cons.mp hc with rfl | hc
    · refine ⟨Nat.le_trans (List.length_filter_le _ _) h0, ?_, fun d hd => h2 d ((List.mem_filter.mp hd).1), h3⟩
      dsimp only; omega
    · rcases List.mem_cons.mp hc with rfl | hc
      · refine ⟨Nat.le_trans (List.length_filter_le _ _) h0, ?_, fun d hd => h2 d ((List.mem_filter.mp hd).1), h3⟩
        dsimp only; omega
      · exact h c (List.mem_of_mem_drop hc)
theorem spl_q {M T u o : Nat} : ∀ (r : Nat) (bs : List Bk), (∀ b ∈ bs, qB M T b) → 0 < bs.length → bs.length + r ≤ 9 → (∀ b ∈ spl r bs u o, qB M T b) ∧ 0 < (spl r bs u o).length ∧ (spl r bs u o).length ≤ 9
  | 0, bs, h, h0, h9 => ⟨h, h0, by simpa [spl] using h9⟩
  | r + 1, bs, h, h0, h9 => by
    have hb := bg_at (rng_lt u h0)
    unfold spl
    rw [hb]
    dsimp only
    split
    · have hl := bsp_len (b := bg bs (rng bs u)) (rng_lt u h0)
      exact spl_q r _ (qB_bsp h hb) (by omega) (by omega)
    · exact ⟨h, h0, by omega⟩
theorem qB_set {M T k : Nat} {bs : List Bk} {b : Bk} (h : ∀ b ∈ bs, qB M T b) (hb : qB M T b) : ∀ c ∈ bs.set k b, qB M T c := fun c hc => by
  rcases List.mem_or_eq_of_mem_set hc with h1 | h1
  · exact h c h1
  · rw [h1]; exact hb
theorem mkr_sub (L : List (Nat × Nat)) : (mkr L).Sublist L := by
  unfold mkr
  split
  · exact List.Sublist.refl L
  · cases L.findIdx? (fun p => decide (2 ≤ p.2)) with
    | none => exact List.Sublist.refl L
    | some j => exact List.eraseIdx_sublist L j
theorem seeB_q {M T u o t : Nat} {bs : List Bk} (h : ∀ b ∈ bs, qB M T b) (h0 : 0 < bs.length) (h9 : bs.length ≤ 9) (hu : u < 256) (ht : t ≤ T) : (∀ b ∈ seeB bs o u t, qB M T b) ∧ 0 < (seeB bs o u t).length ∧ (seeB bs o u t).length ≤ 9 := by
  unfold seeB
  split
  · exact ⟨h, h0, h9⟩
  · cases hp : pl (bg bs (rng bs u)).2.2.2 u with
    | some j =>
      dsimp only
      obtain ⟨q1, q2, q3, q4⟩ := h _ (List.mem_of_getElem? (bg_at (rng_lt u h0)))
      have hj := pl_lt hp
      refine ⟨qB_set h ⟨?_, q2, fun c hc => ?_, ht⟩, by simpa using h0, by simpa using h9⟩
      · dsimp only
        rw [List.length_append, List.length_eraseIdx_of_lt hj]
        simp only [List.length_cons, List.length_nil]
        omega
      · rcases List.mem_append.mp hc with hc | hc
        · exact q3 c (List.mem_of_mem_eraseIdx hc)
        · simp at hc; subst hc; exact ⟨hu, by simp⟩
    | none =>
      dsimp only
      obtain ⟨s1, s2, s3⟩ := spl_q (u := u) (o := o) (9 - bs.length) bs h h0 (by omega)
      generalize spl (9 - bs.length) bs u o = cs at s1 s2 s3 ⊢
      obtain ⟨q1, q2, q3, q4⟩ := s1 _ (List.mem_of_getElem? (bg_at (rng_lt u s2)))
      have hs := mkr_sub (bg cs (rng cs u)).2.2.2
      split
      · rename_i hl
        refine ⟨qB_set s1 ⟨?_, q2, fun c hc => ?_, ht⟩, by simpa using s2, by simpa using s3⟩
        · dsimp only
          rw [List.length_append]
          simp only [List.length_cons, List.length_nil]
          omega
        · rcases List.mem_append.mp hc with hc | hc
          · exact q3 c (hs.subset hc)
          · simp at hc; subst hc; exact ⟨hu, by simp⟩
      · exact ⟨qB_set s1 ⟨Nat.le_trans hs.length_le q1, q2, fun c hc => q3 c (hs.subset hc), q4⟩, by simpa using s2, by simpa using s3⟩
theorem qB_ok {M T : Nat} {bs : List Bk} (h : ∀ b ∈ bs, qB M T b) : okB bs ∧ (∀ n ∈ cns bs, n < 256) ∧ mcB bs M := by
  refine ⟨fun b hb => ⟨(h b hb).1, (h b hb).2.1⟩, fun n hn => ?_, fun b hb p hp => ((h b hb).2.2.1 p hp).2⟩
  unfold cns at hn
  obtain ⟨b, hb, hn⟩ := List.mem_flatMap.mp hn
  obtain ⟨c, hc, rfl⟩ := List.mem_map.mp hn
  exact ((h b hb).2.2.1 c hc).1
/-- what every datagram of the line is -/
def okD (S : List Nat) (D : Dg) : Prop := (0 ≤ D 0 ∧ D 0 ≤ 3) ∧ (∃ sn : Nat, D 1 = (sn : Int) ∧ sn ∈ S) ∧ (∃ rc : Nat, D 2 = (rc : Int) ∧ rc ∈ S) ∧ D 1 ≠ D 2 ∧ 0 ≤ D 3 ∧ (D 0 ≠ 2 → 0 ≤ D 4 ∧ D 4 < 256) ∧ ∀ i, i < 3 → okI S (D (6 + i)) ∧ okI S (D (9 + i)) ∧ D (6 + i) ≠ D 2
def dlvP (now : Nat) (p : Pe) (L : List Dg) (D : Dg) : Pe × List Dg :=
  let bs1 := seeB p.2.2.1 p.1 (D 1).toNat now
  if D 0 = 0 ∨ D 0 = 1 then
    ((p.1, p.2.1, bs1, p.2.2.2), ladd L (ansD p.1 (D 1).toNat (D 3).toNat (tk p.1 (D 1).toNat (1 + now / 8)) bs1 (D 4).toNat p.2.2.2.2 (decide (D 0 = 1))))
  else if D 0 = 2 then
    let X := nodX p.2.2.2.1.1 p.2.2.2.1.2.1 p.2.2.2.1.2.2.1 p.2.2.2.1.2.2.2.1 p.1 now p.2.2.2.1.2.2.2.2.1 p.2.2.2.1.2.2.2.2.2 L D (D 1).toNat
    ((p.1, p.2.1, bs1, (X.1, p.2.2.2.1.2.1, p.2.2.2.1.2.2.1, p.2.2.2.1.2.2.2.1, X.2.1, X.2.2.1), p.2.2.2.2), X.2.2.2)
  else ((p.1, p.2.1, bs1, p.2.2.2.1, stoE p.1 (D 1).toNat now (D 5) (D 4).toNat p.2.2.2.2), L)
theorem dlvP_q {now : Nat} {p : Pe} {L : List Dg} {D : Dg} (h : D 0 = 0 ∨ D 0 = 1) : dlvP now p L D = ((p.1, p.2.1, seeB p.2.2.1 p.1 (D 1).toNat now, p.2.2.2), ladd L (ansD p.1 (D 1).toNat (D 3).toNat (tk p.1 (D 1).toNat (1 + now / 8)) (seeB p.2.2.1 p.1 (D 1).toNat now) (D 4).toNat p.2.2.2.2 (decide (D 0 = 1)))) := by
  unfold dlvP
  rw [if_pos h]
theorem dlvP_n {now : Nat} {p : Pe} {L : List Dg} {D : Dg} (h : D 0 = 2) : dlvP now p L D = ((p.1, p.2.1, seeB p.2.2.1 p.1 (D 1).toNat now, ((nodX p.2.2.2.1.1 p.2.2.2.1.2.1 p.2.2.2.1.2.2.1 p.2.2.2.1.2.2.2.1 p.1 now p.2.2.2.1.2.2.2.2.1 p.2.2.2.1.2.2.2.2.2 L D (D 1).toNat).1, p.2.2.2.1.2.1, p.2.2.2.1.2.2.1, p.2.2.2.1.2.2.2.1, (nodX p.2.2.2.1.1 p.2.2.2.1.2.1 p.2.2.2.1.2.2.1 p.2.2.2.1.2.2.2.1 p.1 now p.2.2.2.1.2.2.2.2.1 p.2.2.2.1.2.2.2.2.2 L D (D 1).toNat).2.1, (nodX p.2.2.2.1.1 p.2.2.2.1.2.1 p.2.2.2.1.2.2.1 p.2.2.2.1.2.2.2.1 p.1 now p.2.2.2.1.2.2.2.2.1 p.2.2.2.1.2.2.2.2.2 L D (D 1).toNat).2.2.1), p.2.2.2.2), (nodX p.2.2.2.1.1 p.2.2.2.1.2.1 p.2.2.2.1.2.2.1 p.2.2.2.1.2.2.2.1 p.1 now p.2.2.2.1.2.2.2.2.1 p.2.2.2.1.2.2.2.2.2 L D (D 1).toNat).2.2.2) := by
  unfold dlvP
  rw [if_neg (by omega), if_pos h]
theorem dlvP_s {now : Nat} {p : Pe} {L : List Dg} {D : Dg} (h : D 0 = 3) : dlvP now p L D = ((p.1, p.2.1, seeB p.2.2.1 p.1 (D 1).toNat now, p.2.2.2.1, stoE p.1 (D 1).toNat now (D 5) (D 4).toNat p.2.2.2.2), L) := by
  unfold dlvP
  rw [if_neg (by omega), if_neg (by omega)]
theorem nodX_len {st kd tg se nr now sn : Nat} {C : List Cd} {H : List Nat} {L : List Dg} {D : Dg} (h : L.length ≤ 24) : (nodX st kd tg se nr now C H L D sn).2.2.2.length ≤ 24 := by
  unfold nodX
  split
  · cases cpl C sn with
    | none => exact h
    | some j =>
      dsimp only
      split
      · exact goD_len ((goL_len 2 _ L).2 h)
      · exact h
  · exact h
section DLV
variable {G : mm_M} {J : Nat → Nat → Int32} {a now ser N : Nat} {P : List (Nat × Pe)} {L : List Dg}
theorem CW.line {J' : Nat → Nat → Int32} {L' : List Dg} (h : CW G J a P now ser L) (hw : WF P now ser) (hl : lin J' (a + 2) L') (h24 : L'.length ≤ 24) (fr : ∀ z j, z ≠ a + 2 → z ≠ a + 3 → z ≠ a + 4 → z ≠ a + 5 → J' z j = J z j) : CW G J' a P now ser L' := by
  obtain ⟨c0, ⟨c1, c2⟩, ⟨c3, c4, c5⟩, c6, c7, c8⟩ := h
  refine ⟨c0, ⟨c1, h24⟩, ⟨by rw [fr _ _ (by omega) (by omega) (by omega) (by omega)]; exact c3, by rw [fr _ _ (by omega) (by omega) (by omega) (by omega)]; exact c4, by rw [fr _ _ (by omega) (by omega) (by omega) (by omega)]; exact c5⟩, hl, fun k p hk => ?_, c8⟩
  obtain ⟨r1, r2, r3⟩ := c7 k p hk
  refine ⟨r1, r2, ?_⟩
  have := pv_keep (c := a + 1) (g := mm_R G (a + 1)) r3 (hw.pe9 p (List.mem_of_getElem? hk)) (by omega) (fun z z1 z2 j => fr z j (by omega) (by omega) (by omega) (by omega))
  rw [mm_rwR] at this
  exact this
theorem e_deliver {x : Int32} {M : Nat} (h : CW G J a P now ser L) (hw : WF P now ser) (hq : ∀ p ∈ P, ∀ b ∈ p.2.2.2.1, qB M now b) (hM : M ≤ 40000) (hD : ∀ D ∈ L, okD (P.map (fun p => p.2.1)) D) (hN : 400 ≤ N) : (¬ (0 ≤ x.toInt ∧ x.toInt < L.length) ∧ pX6_deliver_0 N a (mm_w G J) x = some (mm_w G J, -1)) ∨ ((0 ≤ x.toInt ∧ x.toInt < L.length) ∧ ∃ D, L[x.toInt.toNat]? = some D ∧ ((ups P (D 2) = none ∧ ∃ J', pX6_deliver_0 N a (mm_w G J) x = some (mm_w G J', 0) ∧ CW G J' a P now ser (L.eraseIdx x.toInt.toNat) ∧ frC J J' a) ∨ ∃ i p g J', P[i]? = some p ∧ ups P (D 2) = some p ∧ a + 29 ≤ p.1 ∧ pX6_deliver_0 N a (mm_w G J) x = some (mm_w (mm_rw G (p.1 + 2) g) J', 1) ∧ CW (mm_rw G (p.1 + 2) g) J' a (P.set i (p.1, (dlvP now p.2 (L.eraseIdx x.toInt.toNat) D).1)) now ser (dlvP now p.2 (L.eraseIdx x.toInt.toNat) D).2 ∧ frC J J' a)) := by
  by_cases hx : 0 ≤ x.toInt ∧ x.toInt < L.length
  case neg =>
    refine Or.inl ⟨hx, ?_⟩
    unfold pX6_deliver_0
    rw [w_gR h.1.1, h.1.2.1.2.1, w_nn, w_is h.1.2.2.2.1.1, e_has h.1.2.2.2.1 h.2.2.2.1, w_cl, if_neg hx, if_pos rfl]
  refine Or.inr ⟨hx, ?_⟩
  obtain ⟨D, hk⟩ : ∃ D, L[x.toInt.toNat]? = some D := ⟨_, List.getElem?_eq_getElem (by omega)⟩
  refine ⟨D, hk, ?_⟩
  obtain ⟨⟨d0, d0'⟩, ⟨sn, d1, sS⟩, ⟨rc, d2, rS⟩, dne, d3, d4, d6⟩ := hD D (List.mem_of_getElem? hk)
  have hxk : x.toInt = (x.toInt.toNat : Int) := by omega
  have hklt : x.toInt.toNat < L.length := by omega
  generalize x.toInt.toNat = k at hk hxk hklt ⊢
  obtain ⟨J1, e1, e2, e3⟩ := e_copyout (N := N) h.1.2.2.2.1 h.1.2.2.2.2.2 h.2.2.2.1 h.2.1.2 hxk hk
  have h1 := CW.line (L' := L) (J' := J1) h hw ⟨by rw [e3 _ _ (by omega)]; exact h.2.2.2.1.1, fun k D hD c hc => by rw [e3 _ _ (by omega)]; exact h.2.2.2.1.2 k D hD c hc⟩ h.2.1.2 (fun z j _ _ _ z4 => e3 z j z4)
  obtain ⟨J2, f1, f2, f3⟩ := e_lremove (N := N) h1.1.2.2.2.1 h1.2.2.2.1 h.2.1.2 hxk hklt
  have hLe : (L.eraseIdx k).length ≤ 24 := by have := List.length_eraseIdx_le L k; have := h.2.1.2; omega
  have h2 := CW.line (L' := L.eraseIdx k) (J' := J2) h1 hw f2 hLe (fun z j z1 z2 _ _ => f3 z j z1 (by omega))
  have hD2 : rw12 J2 (a + 5) D := fun c hc => by rw [f3 _ _ (by omega) (by omega)]; exact e2 c hc
  have fr2 : frC J J2 a := fun z j hz => by rw [f3 z j (by omega) (by omega), e3 z j (by omega)]
  obtain ⟨tK, tl⟩ := h.1.2.2.2.2.2
  have pre : pX6_deliver_0 N a (mm_w G J) x = q_op ((ups P (D 2)).map Prod.fst) (some (mm_w G J2, (0 : Int32))) fun b45_17 =>
    q_gR (mm_w G J2) b45_17 5 1 fun r51_18 => q_nn r51_18 fun b64_23 => q_is (mm_w G J2) b64_23 6 <| q_cl (pX5_see_0 N b64_23 (mm_w G J2) (J2 (a + 5) 1) (J2 a 5)) fun G _ =>
    q_gR G a 7 3 fun r68_25 => q_nn r68_25 fun b72_26 => q_aI G b72_26 101 (0 : Int32) fun v72_27 =>
    if v72_27 = 0 then q_is G a 7 <| q_cl (pX6_answerQuery_0 N a G (some b45_17)) fun G _ => some (G, (1 : Int32))
    else if v72_27 = 1 then q_is G a 7 <| q_cl (pX6_answerQuery_0 N a G (some b45_17)) fun G _ => some (G, (1 : Int32))
    else if v72_27 = 2 then q_is G a 7 <| q_cl (pX6_takeNodes_0 N a G (some b45_17)) fun G _ => some (G, (1 : Int32))
    else q_is G a 7 <| q_cl (pX6_takeStore_0 N a G (some b45_17)) fun G _ => some (G, (1 : Int32)) := by
    unfold pX6_deliver_0
    rw [w_gR h.1.1, h.1.2.1.2.1, w_nn, w_is h.1.2.2.2.1.1, e_has h.1.2.2.2.1 h.2.2.2.1, w_cl, if_pos hx, if_neg (by decide), w_gR h.1.1, w_gR h.1.1, h.1.2.1.2.1, h.1.2.1.2.2.2, w_nn, w_is h.1.2.2.2.1.1, e1, w_cl, w_gR h.1.1, h.1.2.1.2.1, w_nn, w_is h.1.2.2.2.1.1, f1, w_cl, w_gR h.1.1, h.1.2.1.2.2.2, w_nn, w_aI (i := 2) tK zi_2 (by omega), w_is h.1.1, e_up h2 hN, w_cl, hD2 2 (by omega)]
    cases hu0 : ups P (D 2) with
    | none => rfl
    | some p =>
      simp only [Option.map_some]
      rw [w_op, w_op, w_gR (ups_pv h2 hu0).2.1.1.1, w_gR (ups_pv h2 hu0).2.1.1.1, w_gR h.1.1, h.1.2.1.2.2.2, w_nn, w_aI (i := 1) tK zi_1 (by omega), w_gI h.1.1]
  cases hu : ups P (D 2) with
  | none => exact Or.inl ⟨rfl, J2, by rw [pre, hu]; rfl, h2, fr2⟩
  | some p =>
    refine Or.inr ?_
    obtain ⟨hb, q, i, hi⟩ := ups_pv h2 hu
    have hpm := List.mem_of_getElem? hi
    obtain ⟨w0, ⟨w1, w2, w3, w4, w5, w6⟩, ⟨w7, w8, w9, w10⟩, w11⟩ := hw.2 _ hpm
    have hqp := hq _ hpm
    obtain ⟨b, p⟩ := p
    dsimp only at hb q w0 w1 w2 w3 w4 w5 w6 w7 w8 w9 w10 w11 hqp ⊢
    have hS := hw.S h.2.1.1
    have hs256 := hS.2 sn sS
    obtain ⟨h0, ⟨g1, g2⟩, ⟨w, hT, htv⟩, hk', he⟩ := q
    have d1I := hD2 1 (by omega)
    rw [d1] at d1I
    obtain ⟨g, J3, w', s1, s2, s3, s4⟩ := e_see (N := N) (x := J2 (a + 5) 1) (y := J2 a 5) hT htv w3 w1 w2 hN d1I h2.2.2.1.2.1
    obtain ⟨o1, o2, o3⟩ := seeB_q (o := p.1) (t := now) hqp w1 w2 hs256 (Nat.le_refl _)
    obtain ⟨k1, k2, k3⟩ := qB_ok o1
    have fr3 : ∀ z j, z < b + 1 ∨ b + 30 ≤ z → J3 z j = J2 z j := fun z j hz => s4 z j (by omega)
    have hO : sO (mm_rw G (b + 1 + 1) g) a := sO_rw h.1 (by omega)
    have hP : sP (mm_rw G (b + 1 + 1) g) b := sP_rw h0 (by omega)
    have hl3 : lin J3 (a + 2) (L.eraseIdx k) := ⟨by rw [fr3 _ _ (by omega)]; exact f2.1, fun i D hD c hc => by rw [fr3 _ _ (by omega)]; exact f2.2 i D hD c hc⟩
    have hD3 : rw12 J3 (a + 5) D := fun c hc => by rw [fr3 _ _ (by omega)]; exact hD2 c hc
    have hk3 := lk_congr hk' (fun z z1 z2 j => fr3 z j (by omega))
    have he3 := en_congr he (fun z z1 z2 j => fr3 z j (by omega))
    have hn3 : (J3 a 5).toInt = (now : Int) := by rw [fr3 _ _ (by omega)]; exact h2.2.2.1.2.1
    have hs3 : (J3 a 6).toInt = (ser : Int) := by rw [fr3 _ _ (by omega)]; exact h2.2.2.1.2.2
    have h43 : J3 a 4 = J2 a 4 := fr3 _ _ (by omega)
    have g13 : (J3 b 0).toInt = (p.1 : Int) := by rw [fr3 _ _ (by omega)]; exact g1
    have g23 : (J3 b 4).toInt = (if p.2.1 = true then 1 else 0) := by rw [fr3 _ _ (by omega)]; exact g2
    have hnow : now < 100000 := by have := hw.1.1; omega
    have pre2 : pX6_deliver_0 N a (mm_w G J) x = 
      if J3 (a + 5) 0 = 0 then q_cl (pX6_answerQuery_0 N a (mm_w (mm_rw G (b + 1 + 1) g) J3) (some b)) fun G _ => some (G, (1 : Int32))
      else if J3 (a + 5) 0 = 1 then q_cl (pX6_answerQuery_0 N a (mm_w (mm_rw G (b + 1 + 1) g) J3) (some b)) fun G _ => some (G, (1 : Int32))
      else if J3 (a + 5) 0 = 2 then q_cl (pX6_takeNodes_0 N a (mm_w (mm_rw G (b + 1 + 1) g) J3) (some b)) fun G _ => some (G, (1 : Int32))
      else q_cl (pX6_takeStore_0 N a (mm_w (mm_rw G (b + 1 + 1) g) J3) (some b)) fun G _ => some (G, (1 : Int32)) := by
      rw [pre, hu]
      simp only [Option.map_some]
      rw [w_op, w_gR h0.1, h0.2.1.1, w_nn, w_is hT.1, s1, w_cl, w_gR hO.1, hO.2.1.2.2.2, w_nn, w_aI (i := 0) hO.2.2.2.2.2.1 zi_0 (by rw [hO.2.2.2.2.2.2]; omega), w_is hO.1, w_is hO.1, w_is hO.1]
    have d0I := hD3 0 (by omega)
    have hsn : (D 1).toNat = sn := by omega
    have fin : ∀ J4 p' L', pX6_deliver_0 N a (mm_w G J) x = some (mm_w (mm_rw G (b + 2) g) J4, 1) → dlvP now p (L.eraseIdx k) D = (p', L') → pv (mm_rw G (b + 2) g) J4 b p' → lin J4 (a + 2) L' → L'.length ≤ 24 → (∀ z j, (z < b + 30 ∨ b + 40 ≤ z) → z ≠ a + 2 → z ≠ a + 3 → z ≠ a + 4 → J4 z j = J3 z j) → ∃ i p0 g J', P[i]? = some p0 ∧ some (b, p) = some p0 ∧ a + 29 ≤ p0.1 ∧ pX6_deliver_0 N a (mm_w G J) x = some (mm_w (mm_rw G (p0.1 + 2) g) J', 1) ∧ CW (mm_rw G (p0.1 + 2) g) J' a (P.set i (p0.1, (dlvP now p0.2 (L.eraseIdx k) D).1)) now ser (dlvP now p0.2 (L.eraseIdx k) D).2 ∧ frC J J' a := by
      intro J4 p' L' t1 t2 t3 t4 t5 t6
      refine ⟨i, (b, p), g, J4, hi, rfl, hb, t1, ?_, fun z j hz => by rw [t6 z j (by omega) (by omega) (by omega) (by omega), fr3 z j (by omega)]; exact fr2 z j hz⟩
      dsimp only
      rw [t2]
      exact CW.upd (now' := now) (ser' := ser) h2 hw.pe9 hi t3 t4 t5 (by rw [t6 _ _ (by omega) (by omega) (by omega) (by omega)]; exact h43) (by rw [t6 _ _ (by omega) (by omega) (by omega) (by omega)]; exact hn3) (by rw [t6 _ _ (by omega) (by omega) (by omega) (by omega)]; exact hs3) (fun z j z1 z2 => by rw [t6 z j (by omega) (by omega) (by omega) (by omega), fr3 z j (by omega)])
    by_cases hc2 : D 0 = 2
    · -- nodes
      have hd := dlvP_n (now := now) (p := p) (L := L.eraseIdx k) hc2
      obtain ⟨J4, n1, n2, n3, n4⟩ := e_nodes (N := N) (sn := sn) hO hP (by omega) hk3 w7 w8 hS w9 hl3 hLe hn3 g13 hD3 d1 (fun i hi => ⟨(d6 i hi).1, (d6 i hi).2.1⟩) hN
      rw [if_neg (by rw [zi_eq, d0I, zi_0]; omega), if_neg (by rw [zi_eq, d0I, zi_1]; omega), if_pos (by rw [zi_eq, d0I, zi_2]; omega), n1, w_cl] at pre2
      have fr4 : ∀ z j, (z < b + 30 ∨ b + 40 ≤ z) → z ≠ a + 2 → z ≠ a + 3 → z ≠ a + 4 → J4 z j = J3 z j := fun z j z1 z2 z3 z4 => n4 z j (by omega) z2 z3 z4
      refine fin J4 _ _ pre2 hd ?_ (by rw [hsn]; exact n3) (nodX_len hLe) fr4
      refine ⟨hP, ⟨by rw [fr4 _ _ (by omega) (by omega) (by omega) (by omega)]; exact g13, by rw [fr4 _ _ (by omega) (by omega) (by omega) (by omega)]; exact g23⟩, ⟨w', s2, ?_⟩, by rw [hsn]; exact n2, en_congr he3 (fun z z1 z2 j => n4 z j (by omega) (by omega) (by omega) (by omega))⟩
      rw [hsn]
      exact tv_congr s2 o3 s3 (fun z z1 z2 j => fr4 z j (by omega) (by omega) (by omega) (by omega))
    · obtain ⟨t0, t256⟩ := d4 hc2
      have d4N : D 4 = (((D 4).toNat : Nat) : Int) := by omega
      by_cases hc3 : D 0 = 3
      · have hd := dlvP_s (now := now) (p := p) (L := L.eraseIdx k) hc3
        obtain ⟨J4, n1, n2, n3⟩ := e_store (N := N) (sn := sn) (t := (D 4).toNat) hO hP (by omega) he3 w11 hn3 hnow g13 w0 hD3 d1 d4N hs256 hN
        rw [if_neg (by rw [zi_eq, d0I, zi_0]; omega), if_neg (by rw [zi_eq, d0I, zi_1]; omega), if_neg (by rw [zi_eq, d0I, zi_2]; omega), n1, w_cl] at pre2
        have fr4 : ∀ z j, (z < b + 30 ∨ b + 40 ≤ z) → z ≠ a + 2 → z ≠ a + 3 → z ≠ a + 4 → J4 z j = J3 z j := fun z j z1 z2 z3 z4 => n3 z j (by omega)
        refine fin J4 _ _ pre2 hd ?_ ⟨by rw [n3 _ _ (by omega)]; exact hl3.1, fun i D hD c hc => by rw [n3 _ _ (by omega)]; exact hl3.2 i D hD c hc⟩ hLe fr4
        refine ⟨hP, ⟨by rw [fr4 _ _ (by omega) (by omega) (by omega) (by omega)]; exact g13, by rw [fr4 _ _ (by omega) (by omega) (by omega) (by omega)]; exact g23⟩, ⟨w', s2, ?_⟩, lk_congr hk3 (fun z z1 z2 j => n3 z j (by omega)), by rw [hsn]; exact n2⟩
        rw [hsn]
        exact tv_congr s2 o3 s3 (fun z z1 z2 j => fr4 z j (by omega) (by omega) (by omega) (by omega))
      · have hd := dlvP_q (now := now) (p := p) (L := L.eraseIdx k) (D := D) (by omega)
        obtain ⟨J4, n1, n2, n3⟩ := e_answer (N := N) (sn := sn) (t := (D 4).toNat) (ser := (D 3).toNat) (kq := (D 0).toNat) hO hP s2 (by omega) s3 k1 o3 k2 he3 w11 hl3 hLe hn3 hnow g13 w0 hD3 (by omega) d1 (by omega) d4N (by omega) hs256 hN
        have hpre3 : pX6_deliver_0 N a (mm_w G J) x = some (mm_w (mm_rw G (b + 1 + 1) g) J4, 1) := by
          rw [pre2, n1, w_cl]
          by_cases hz : D 0 = 0
          · rw [if_pos (by rw [zi_eq, d0I, zi_0]; omega)]
          · rw [if_neg (by rw [zi_eq, d0I, zi_0]; omega), if_pos (by rw [zi_eq, d0I, zi_1]; omega)]
        have fr4 : ∀ z j, (z < b + 30 ∨ b + 40 ≤ z) → z ≠ a + 2 → z ≠ a + 3 → z ≠ a + 4 → J4 z j = J3 z j := fun z j z1 z2 z3 z4 => n3 z j z2 z3 z4
        have hdec : decide ((D 0).toNat = 1) = decide (D 0 = 1) := decide_eq_decide.mpr (by omega)
        rw [hdec] at n2
        refine fin J4 _ _ hpre3 hd ?_ (by rw [hsn]; exact n2) (ladd_len hLe) fr4
        refine ⟨hP, ⟨by rw [fr4 _ _ (by omega) (by omega) (by omega) (by omega)]; exact g13, by rw [fr4 _ _ (by omega) (by omega) (by omega) (by omega)]; exact g23⟩, ⟨w', s2, ?_⟩, lk_congr hk3 (fun z z1 z2 j => n3 z j (by omega) (by omega) (by omega)), en_congr he3 (fun z z1 z2 j => n3 z j (by omega) (by omega) (by omega))⟩
        rw [hsn]
        exact tv_congr s2 o3 s3 (fun z z1 z2 j => fr4 z j (by omega) (by omega) (by omega) (by omega))
end DLV
