/-! joining -/
def anw (now : Nat) (p : Pe) : Pe := (p.1, true, [(0, 256, now, [])], (0, p.2.2.2.1.2.1, p.2.2.2.1.2.2.1, p.2.2.2.1.2.2.2.1, [], []), [])
theorem e_anew {G : mm_M} {J : Nat → Nat → Int32} {a b i now ser N : Nat} {p : Pe} {P : List (Nat × Pe)} {L : List Dg} {x : Int32} (h : CW G J a P now ser L) (h9 : ∀ q ∈ P, pe9 q.2) (hi : P[i]? = some (b, p)) (hx : x.toInt = (now : Int)) : ∃ J', pX4_startAnew_0 N b (mm_w G J) x = some (mm_w G J', ()) ∧ CW G J' a (P.set i (b, anw now p)) now ser L ∧ frC J J' a := by
  obtain ⟨q1, q2, q3⟩ := h.2.2.2.2.1 i _ hi
  dsimp only at q1 q2 q3
  obtain ⟨h0, ⟨h1, h2⟩, ⟨w, hT, htv⟩, hk, he⟩ := q3
  have f0 : ∀ z j, z ≠ b → js J b 4 1 z j = J z j := fun z j hz => js_ne _ (Or.inl hz)
  obtain ⟨J1, e1, e2, e3⟩ := e_reset (N := N) (J := js J b 4 1) (o := p.1) (t := now) hT (by rw [f0 _ _ (by omega)]; exact htv.1) hx
  have f1 : ∀ z j, z < b + 1 ∨ b + 30 ≤ z → J1 z j = js J b 4 1 z j := fun z j hz => e3 z j (by omega)
  have hk1 := lk_congr (J' := J1) hk (fun z z1 z2 j => by rw [f1 z j (by omega), f0 z j (by omega)])
  obtain ⟨J2, g1, g2, g3⟩ := e_forget (N := N) h0.2.2.1 hk1
  have f2 : ∀ z j, z < b + 30 ∨ b + 36 ≤ z → J2 z j = J1 z j := fun z j hz => g3 z j (by omega)
  have f3 : ∀ z j, z ≠ b + 36 → js J2 (b + 36) 3 0 z j = J2 z j := fun z j hz => js_ne _ (Or.inl hz)
  have fr : ∀ z j, z < b ∨ b + 40 ≤ z → js J2 (b + 36) 3 0 z j = J z j := fun z j hz => by rw [f3 z j (by omega), f2 z j (by omega), f1 z j (by omega), f0 z j (by omega)]
  refine ⟨js J2 (b + 36) 3 0, ?_, ?_, fun z j hz => fr z j (by omega)⟩
  · unfold pX4_startAnew_0
    rw [w_pI h0.1, w_gR h0.1, h0.2.1.1, w_nn, w_is hT.1, e1, w_cl, w_gR h0.1, h0.2.1.2.1, w_nn, w_is h0.2.2.1.1, g1, w_cl, w_gR h0.1, h0.2.1.2.2, w_nn, w_pI h0.2.2.2.1]
  · have hp' : pv (mm_rw G (b + 2) (mm_R G (b + 2))) (js J2 (b + 36) 3 0) b (anw now p) := by
      rw [mm_rwR]
      refine ⟨h0, ⟨?_, ?_⟩, ⟨w, hT, tv_congr hT (Nat.le_of_ble_eq_true rfl) e2 (fun z z1 z2 j => by rw [f3 z j (by omega), f2 z j (by omega)])⟩, lk_congr g2 (fun z z1 z2 j => f3 z j (by omega)), ⟨by rw [js_same]; rfl, fun j c hj => by cases hj⟩⟩
      · rw [f3 _ _ (by omega), f2 _ _ (by omega), f1 _ _ (by omega), js_ne _ (Or.inr (by omega))]; exact h1
      · rw [f3 _ _ (by omega), f2 _ _ (by omega), f1 _ _ (by omega), js_same]; rfl
    have := CW.upd (now' := now) (ser' := ser) (L' := L) h h9 hi hp' (lin_congr h.2.2.2.1 (fun j => fr _ _ (by omega)) (fun j => fr _ _ (by omega))) h.2.1.2 (fr _ _ (by omega)) (by rw [fr _ _ (by omega)]; exact h.2.2.1.2.1) (by rw [fr _ _ (by omega)]; exact h.2.2.1.2.2) (fun z j _ hz => fr z j hz)
    rw [mm_rwR] at this
    exact this
def viaP (now : Nat) (p : Pe) (v : Nat) : Pe := (p.1, true, seeB [(0, 256, now, [])] p.1 v now, (0, p.2.2.2.1.2.1, p.2.2.2.1.2.2.1, p.2.2.2.1.2.2.2.1, [], []), [])
def jnX (now ser : Nat) (p : Pe) (v : Int) (L : List Dg) : Pe × Nat × List Dg := if v = -1 then (anw now p, ser, L) else ((strP now ser (viaP now p v.toNat) 0 p.1 L).1, ser + 1, (strP now ser (viaP now p v.toNat) 0 p.1 L).2)
theorem bs1_q {now : Nat} : ∀ b ∈ [((0 : Nat), (256 : Nat), now, ([] : List (Nat × Nat)))], qB 0 now b := fun b hb => by
  rw [List.mem_singleton] at hb
  subst hb
  exact ⟨Nat.zero_le _, Nat.le_of_ble_eq_true rfl, fun c hc => (by cases hc), Nat.le_refl _⟩
theorem viaP_wf {S : List Nat} {now v : Nat} {p : Pe} (hn : now < 10000) (hp : p.1 < 256) (hv : v < 256) (ht : p.2.2.2.1.2.2.1 < 256) : wfp S (viaP now p v) := by
  obtain ⟨o1, o2, o3⟩ := seeB_q (o := p.1) (t := now) (bs1_q (now := now)) (Nat.le_refl 1) (Nat.le_of_ble_eq_true rfl) hv (Nat.le_refl _)
  obtain ⟨k1, k2, k3⟩ := qB_ok o1
  refine ⟨hp, ⟨o2, o3, k1, k2, fun b hb c hc => Nat.le_trans (k3 b hb c hc) (Nat.zero_le _), fun b hb => ?_⟩, ⟨⟨List.nodup_nil, fun c hc => (by cases hc)⟩, ⟨List.nodup_nil, fun c hc => (by cases hc)⟩, ht, fun c hc => (by cases hc)⟩, Nat.zero_le _⟩
  have := (o1 b hb).2.2.2
  omega
theorem e_join_core {G : mm_M} {J : Nat → Nat → Int32} {a b i now ser N : Nat} {p : Pe} {P : List (Nat × Pe)} {L : List Dg} {x y z : Int32} (h : CW G J a P now ser L) (h9 : ∀ q ∈ P, pe9 q.2) (hi : P[i]? = some (b, p)) (hx : x.toInt = (p.1 : Int)) (hp : p.1 < 256) (hz : z.toInt = (now : Int)) (hN : 400 ≤ N) (hy : y.toInt = -1 ∨ 0 ≤ y.toInt ∧ y.toInt < 256) (hwf : WF (P.set i (b, viaP now p y.toInt.toNat)) now ser) : ∃ G' J', (q_cl (pX4_startAnew_0 N b (mm_w G J) z) fun G _ => if y = (-1 : Int32) then some (G, (1 : Int32)) else q_gR G b 5 1 fun r58_11 => q_gI G a 7 5 fun v63_12 => q_nn r58_11 fun b66_13 => q_is G b66_13 6 <| q_cl (pX5_see_0 N b66_13 G y v63_12) fun G _ => q_is G a 7 <| q_cl (pX6_startLookup_0 N a G (some b) (0 : Int32) x) fun G _ => some (G, (1 : Int32))) = some (mm_w G' J', 1) ∧ CW G' J' a (P.set i (b, (jnX now ser p y.toInt L).1)) now (jnX now ser p y.toInt L).2.1 (jnX now ser p y.toInt L).2.2 ∧ (lok G' = lok G ∧ mm_nx G' = mm_nx G) ∧ ∀ z, a + 6 ≤ z → z < a + 29 → sme (mm_w G J) (mm_w G' J') z := by
  obtain ⟨J1, e1, e2, e3⟩ := e_anew (N := N) h h9 hi hz
  rw [e1, w_cl]
  have hil := (List.getElem?_eq_some_iff.mp hi).1
  have hi1 : (P.set i (b, anw now p))[i]? = some (b, anw now p) := List.getElem?_set_self hil
  by_cases hy1 : y.toInt = -1
  · rw [if_pos (by rw [zi_eq, hy1, zi_m1])]
    refine ⟨G, J1, rfl, ?_, ⟨rfl, rfl⟩, fun z z1 z2 => ⟨rfl, rfl, fun _ => rfl, fun j => e3 z j (Or.inr ⟨z1, z2⟩)⟩⟩
    unfold jnX
    rw [if_pos hy1]
    exact e2
  · rw [if_neg (by rw [zi_eq, zi_m1]; exact hy1)]
    obtain ⟨y0, y256⟩ := hy.resolve_left hy1
    obtain ⟨q1, q2, q3⟩ := e2.2.2.2.2.1 i _ hi1
    dsimp only at q1 q2 q3
    obtain ⟨h0, ⟨g1, g2⟩, ⟨w, hT, htv⟩, hk, he⟩ := q3
    obtain ⟨o1, o2, o3⟩ := seeB_q (o := p.1) (t := now) (u := y.toInt.toNat) (bs1_q (now := now)) (Nat.le_refl 1) (Nat.le_of_ble_eq_true rfl) (by omega) (Nat.le_refl _)
    obtain ⟨b1, -, -⟩ := qB_ok (bs1_q (now := now))
    obtain ⟨g, J2, w', s1, s2, s3, s4⟩ := e_see (N := N) (u := y.toInt.toNat) (t := now) (x := y) (y := J1 a 5) hT htv b1 (Nat.le_refl 1) (Nat.le_of_ble_eq_true rfl) hN (by omega) e2.2.2.1.2.1
    have fr2 : ∀ z j, z < b + 1 ∨ b + 30 ≤ z → J2 z j = J1 z j := fun z j hz => s4 z j (by omega)
    have h91 : ∀ q ∈ P.set i (b, anw now p), pe9 q.2 := fun q hq => by
      rcases List.mem_or_eq_of_mem_set hq with hq | hq
      · exact h9 q hq
      · rw [hq]; show 1 ≤ 9; decide
    have hp' : pv (mm_rw G (b + 2) g) J2 b (viaP now p y.toInt.toNat) := by
      refine ⟨sP_rw h0 (by omega), ⟨by rw [fr2 _ _ (by omega)]; exact g1, by rw [fr2 _ _ (by omega)]; exact g2⟩, ⟨w', s2, s3⟩, lk_congr hk (fun z z1 z2 j => fr2 z j (by omega)), en_congr he (fun z z1 z2 j => fr2 z j (by omega))⟩
    have hC := CW.upd (now' := now) (ser' := ser) (L' := L) e2 h91 hi1 hp' (lin_congr e2.2.2.2.1 (fun j => fr2 _ _ (by omega)) (fun j => fr2 _ _ (by omega))) h.2.1.2 (fr2 _ _ (by omega)) (by rw [fr2 _ _ (by omega)]; exact e2.2.2.1.2.1) (by rw [fr2 _ _ (by omega)]; exact e2.2.2.1.2.2) (fun z j _ hz => fr2 z j (by omega))
    rw [List.set_set] at hC
    have hi2 : (P.set i (b, viaP now p y.toInt.toNat))[i]? = some (b, viaP now p y.toInt.toNat) := List.getElem?_set_self hil
    obtain ⟨J3, t1, t2, t3⟩ := e_startW (N := N) (x := 0) (y := x) (k := 0) (t := p.1) hC hwf hN hi2 zi_0 hx hp
    rw [List.set_set] at t2
    refine ⟨mm_rw G (b + 2) g, J3, ?_, ?_, ⟨rfl, rfl⟩, fun z z1 z2 => ⟨rfl, rfl, fun j => mm_rw_ne _ _ _ (by omega), fun j => ?_⟩⟩
    · rw [w_gR h0.1, w_gI e2.1.1, h0.2.1.1, w_nn, w_is hT.1, s1, w_cl, w_is (show mm_K (mm_rw G (b + 1 + 1) g) a = 7 from e2.1.1), t1, w_cl]
    · unfold jnX
      rw [if_neg hy1]
      exact t2
    · rw [mm_I_w, t3 z j (Or.inr ⟨z1, z2⟩), fr2 z j (by omega)]
      exact e3 z j (Or.inr ⟨z1, z2⟩)
