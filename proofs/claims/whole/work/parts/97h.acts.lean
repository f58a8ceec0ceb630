/-! the calls that change something, side by side -/
section STEPS2
variable {a n N : Nat} {Gm : mm_M} {x y z : Int32}
theorem act_fin {G : mm_M} {J J' : Nat → Nat → Int32} {P : List (Nat × Pe)} {now ser st : Nat} {L : List Dg} {ids : List Nat} (h1 : CW G J a P now ser L) (h2 : lok G ∧ a + 29 ≤ mm_nx G) (h3 : sM G (a + 6)) (h4 : RW J' (a + 6) ids P now ser L st) (h5 : IV ids P now ser L st n) (hf : frM J J' (a + 6)) : IN a n (mm_w G J') := ⟨G, J', P, now, ser, L, ids, st, rfl, CW_cong h1 (pk_pe9 h5) hf, h2, h3, h4, h5⟩
theorem st_leave (hi : IN a n Gm) (hn : n + 1 ≤ 512) (hN : 400 ≤ N) : OKs a n (fun G => pX6_leave_0 N a G x) (fun G => pX7_leave_0 N (a + 6) G x) Gm := by
  obtain ⟨G, J, P, now, ser, L, ids, st, rfl, h1, h2, h3, h4, h5⟩ := hi
  obtain ⟨w1, w2, w3, w4⟩ := pok_IV h5
  rcases e_leave (x := x) h1 w1 hN with ⟨e1, e2⟩ | ⟨k, p, J1, e1, e2, e3, e4, e5⟩
  · exact ⟨_, _, _, e2, h3.1, (r_leave h3 h4 h5 hN).1 e1, G, J, P, now, ser, L, ids, st, rfl, h1, h2, h3, h4, IV_n h5 hn⟩
  · have h4' := RW_cong (J' := J1) h4 h5.2.2.2.2.1 (fun z j z1 z2 => e5 z j (by omega))
    obtain ⟨J2, g1, g2, g3⟩ := (r_leave (N := N) (x := x) h3 h4' h5 hN).2 k p e1 e2
    have pk := h5.2.2.2.2.1 p (List.mem_of_getElem? e1)
    have hI : IV ids (leaveP P k) now ser L st (n + 1) := by
      unfold leaveP
      rw [modify_set _ e1]
      exact IV_set h5 hn e1 rfl ⟨pk.1, pk.2.1, pk.2.2.1, pk.2.2.2.1, fun e he => ⟨(pk.2.2.2.2 e he).1, (pk.2.2.2.2 e he).2.1, (pk.2.2.2.2 e he).2.2.1, (fun e => by cases e)⟩⟩ h5.2.2.2.2.2 (by have := h5.1; omega) (by have := h5.1; omega)
    exact ⟨_, _, _, e3, h3.1, g1, act_fin e4 h2 h3 g2 hI g3⟩
theorem st_begin (hi : IN a n Gm) (hn : n + 1 ≤ 512) (hN : 400 ≤ N) : OKs a n (fun G => pX6_begin_0 N a G x y z) (fun G => pX7_begin_0 N (a + 6) G x y z) Gm := by
  obtain ⟨G, J, P, now, ser, L, ids, st, rfl, h1, h2, h3, h4, h5⟩ := hi
  obtain ⟨w1, w2, w3, w4⟩ := pok_IV h5
  have hb := h5.1
  rcases e_begin (x := x) (y := y) (z := z) h1 w1 hN with ⟨e1, e2⟩ | ⟨k, p, J1, e1, e2, e3, e4, e5⟩
  · exact ⟨_, _, _, e2, h3.1, (r_begin h3 h4 h5 hN).1 e1, G, J, P, now, ser, L, ids, st, rfl, h1, h2, h3, h4, IV_n h5 hn⟩
  · have h4' := RW_cong (J' := J1) h4 h5.2.2.2.2.1 (fun z j z1 z2 => e5 z j (by omega))
    obtain ⟨J2, g1, g2, g3⟩ := (r_begin (N := N) (x := x) (y := y) (z := z) h3 h4' h5 hN).2 k p e1 e2
    have pk := h5.2.2.2.2.1 p (List.mem_of_getElem? e1)
    have hz : z.toInt.toNat < 256 := by
      unfold bgn at e2
      cases hu : ups P x.toInt with
      | none => rw [hu] at e2; cases e2
      | some q =>
        rw [hu] at e2
        dsimp only at e2
        split at e2
        · rename_i hc; omega
        · cases e2
    obtain ⟨s1, s2⟩ := strP_ok (ser := ser) (k := y.toInt.toNat) pk hz h5.2.2.2.2.2
    exact ⟨_, _, _, e3, h3.1, g1, act_fin e4 h2 h3 g2 (IV_set h5 hn e1 rfl s1 s2 (by omega) (by omega)) g3⟩
theorem st_refresh (hi : IN a n Gm) (hn : n + 1 ≤ 512) (hN : 400 ≤ N) : OKs a n (fun G => pX6_refresh_0 N a G x) (fun G => pX7_refresh_0 N (a + 6) G x) Gm := by
  obtain ⟨G, J, P, now, ser, L, ids, st, rfl, h1, h2, h3, h4, h5⟩ := hi
  obtain ⟨w1, w2, w3, w4⟩ := pok_IV h5
  have hb := h5.1
  rcases e_refresh (x := x) h1 w1 w3 hN with ⟨e1, e2⟩ | ⟨k, p, t, J1, e1, e2, e3, e4, e5, e6⟩
  · exact ⟨_, _, _, e2, h3.1, (r_refresh h3 h4 h5 hN).1 e1, G, J, P, now, ser, L, ids, st, rfl, h1, h2, h3, h4, IV_n h5 hn⟩
  · have h4' := RW_cong (J' := J1) h4 h5.2.2.2.2.1 (fun z j z1 z2 => e6 z j (by omega))
    obtain ⟨J2, g1, g2, g3⟩ := (r_refresh (N := N) (x := x) h3 h4' h5 hN).2 k p t e1 e2
    have pk := h5.2.2.2.2.1 p (List.mem_of_getElem? e1)
    obtain ⟨s1, s2⟩ := strP_ok (ser := ser) (k := 0) pk e4 h5.2.2.2.2.2
    exact ⟨_, _, _, e3, h3.1, g1, act_fin e5 h2 h3 g2 (IV_set h5 hn e1 rfl s1 s2 (by omega) (by omega)) g3⟩
theorem st_drop (hi : IN a n Gm) (hn : n + 1 ≤ 512) (hN : 400 ≤ N) : OKs a n (fun G => pX6_drop_0 N a G x) (fun G => pX7_drop_0 N (a + 6) G x) Gm := by
  obtain ⟨G, J, P, now, ser, L, ids, st, rfl, h1, h2, h3, h4, h5⟩ := hi
  obtain ⟨w1, w2, w3, w4⟩ := pok_IV h5
  rcases e_drop (N := N) (x := x) h1 w1 with ⟨e1, e2⟩ | ⟨e1, J1, e2, e3, e4⟩
  · exact ⟨_, _, _, e2, h3.1, (r_drop h3 h4 h5 hN).1 e1, G, J, P, now, ser, L, ids, st, rfl, h1, h2, h3, h4, IV_n h5 hn⟩
  · have h4' := RW_cong (J' := J1) h4 h5.2.2.2.2.1 (fun z j z1 z2 => e4 z j (by omega))
    obtain ⟨J2, g1, g2, g3⟩ := (r_drop (N := N) (x := x) h3 h4' h5 hN).2 e1
    exact ⟨_, _, _, e2, h3.1, g1, act_fin e3 h2 h3 g2 (IV_L (IV_n h5 hn) (fun D hD => h5.2.2.2.2.2 D ((List.eraseIdx_sublist _ _).subset hD))) g3⟩
theorem st_tick (hi : IN a n Gm) (hn : n + 1 ≤ 512) (hN : 400 ≤ N) : OKs a n (fun G => pX6_tick_0 N a G) (fun G => pX7_tick_0 N (a + 6) G) Gm := by
  obtain ⟨G, J, P, now, ser, L, ids, st, rfl, h1, h2, h3, h4, h5⟩ := hi
  obtain ⟨w1, w2, w3, w4⟩ := pok_IV h5
  obtain ⟨J1, v1, e1, e2, e3, e4⟩ := e_tick (N := N) h1 w1 hN
  have h4' := RW_cong (J' := J1) h4 h5.2.2.2.2.1 (fun z j z1 z2 => e4 z j (by omega))
  obtain ⟨J2, v2, g1, g2, g3, g4⟩ := r_tick (N := N) h3 hN h4' h5
  have hv : v2 = v1 := by rw [zi_eq, g2, e2]
  subst hv
  obtain ⟨t1, t2, t3⟩ := tckF_ok (now := now) h5.2.1.2.1 P L h5.2.2.2.2.1 h5.2.2.2.2.2
  have hI : IV ids (tckF (now + 1) P L).1 (now + 1) ser (tckF (now + 1) P L).2.1 st (n + 1) := by
    obtain ⟨⟨b1, b2, b3, b4⟩, b5, b6, b7, b8, b9⟩ := h5
    refine ⟨⟨by omega, by omega, by omega, hn⟩, b5, fun u => by rw [t3]; exact b6 u, ?_, fun p hp => pok_mono (t1 p hp) (fun u hu => hu) (by omega), t2⟩
    have h1 : (P.map (fun p => p.2.1)).Pairwise (· < ·) := by rw [List.pairwise_map]; exact b7
    rw [← t3, List.pairwise_map] at h1
    exact h1
  exact ⟨_, _, _, e1, h3.1, g1, act_fin e3 h2 h3 g3 hI g4⟩
theorem st_deliver (hi : IN a n Gm) (hn : n + 1 ≤ 512) (hN : 400 ≤ N) : OKs a n (fun G => pX6_deliver_0 N a G x) (fun G => pX7_deliver_0 N (a + 6) G x) Gm := by
  obtain ⟨G, J, P, now, ser, L, ids, st, rfl, h1, h2, h3, h4, h5⟩ := hi
  obtain ⟨w1, w2, w3, w4⟩ := pok_IV h5
  have hb := h5.1
  rcases e_deliver (N := N) (x := x) (M := 12 * n) h1 w1 w2 (by omega) w4 hN with ⟨e1, e2⟩ | ⟨e1, D, e2, ⟨e3, J1, e4, e5, e6⟩ | ⟨k, p, g, J1, e3, e4, e5, e6, e7, e8⟩⟩
  · exact ⟨_, _, _, e2, h3.1, (r_deliver h3 h4 h5 hN).1 e1, G, J, P, now, ser, L, ids, st, rfl, h1, h2, h3, h4, IV_n h5 hn⟩
  · have h4' := RW_cong (J' := J1) h4 h5.2.2.2.2.1 (fun z j z1 z2 => e6 z j (by omega))
    obtain ⟨J2, g1, g2, g3⟩ := ((r_deliver (N := N) (x := x) h3 h4' h5 hN).2 e1 D e2).1 e3
    exact ⟨_, _, _, e4, h3.1, g1, act_fin e5 h2 h3 g2 (IV_L (IV_n h5 hn) (fun D hD => h5.2.2.2.2.2 D ((List.eraseIdx_sublist _ _).subset hD))) g3⟩
  · have h4' := RW_cong (J' := J1) h4 h5.2.2.2.2.1 (fun z j z1 z2 => e8 z j (by omega))
    have h3' : sM (mm_rw G (p.1 + 2) g) (a + 6) := sM_sme h3 (fun z z1 z2 => ⟨rfl, rfl, fun j => mm_rw_ne G j g (by omega)⟩)
    obtain ⟨J2, st2, g1, g2, g3, g4, g5⟩ := ((r_deliver (N := N) (x := x) h3' h4' h5 hN).2 e1 D e2).2 k p e3 e4
    have pk := h5.2.2.2.2.1 p (List.mem_of_getElem? e3)
    obtain ⟨-, -, pv, -⟩ := up_some h4 h5 e4
    have hL1 : ∀ E ∈ L.eraseIdx x.toInt.toNat, okD ids E := fun E hE => h5.2.2.2.2.2 E ((List.eraseIdx_sublist _ _).subset hE)
    obtain ⟨d1, d2⟩ := dlvP_ok h5.2.1.2.2 pk hL1 (h5.2.2.2.2.2 D (List.mem_of_getElem? e2)) pv.symm g4
    have hnum : (dlvP now p.2 (L.eraseIdx x.toInt.toNat) D).1.1 = p.2.1 := by
      unfold dlvP
      dsimp only
      split
      · rfl
      · split <;> rfl
    exact ⟨_, _, _, e6, h3'.1, g1, act_fin e7 h2 h3' g2 (IV_set h5 hn e3 hnum d1 d2 (by omega) (by omega)) g5⟩
theorem st_join (hi : IN a n Gm) (hn : n + 1 ≤ 512) (hN : 400 ≤ N) : OKs a n (fun G => pX6_join_0 N a G x y) (fun G => pX7_join_0 N (a + 6) G x y) Gm := by
  obtain ⟨G, J, P, now, ser, L, ids, st, rfl, h1, h2, h3, h4, h5⟩ := hi
  obtain ⟨w1, w2, w3, w4⟩ := pok_IV h5
  rcases e_join (N := N) (x := x) (y := y) h1 w1 h2.1 h2.2 hN with ⟨e1, e2⟩ | ⟨e1, k, b, p, G1, J1, e2, e3, e4, e5, e6, e7, e8⟩
  · exact ⟨_, _, _, e2, h3.1, (r_join h3 h4 h5 hN hn).1 e1, G, J, P, now, ser, L, ids, st, rfl, h1, h2, h3, h4, IV_n h5 hn⟩
  · have h4' := RW_cong (J' := J1) h4 h5.2.2.2.2.1 (fun z j z1 z2 => (e8 z z1 (by omega)).2.2.2 j)
    have h3' : sM G1 (a + 6) := sM_sme h3 (fun z z1 z2 => ⟨(e8 z z1 (by omega)).1, (e8 z z1 (by omega)).2.1, (e8 z z1 (by omega)).2.2.1⟩)
    obtain ⟨J2, ids2, st2, g1, g2, g3, g4⟩ := (r_join (N := N) (x := x) (y := y) h3' h4' h5 hN hn).2 e1 (mm_nx G) k b p e2 e3
    exact ⟨_, _, _, e4, h3'.1, g1, act_fin e5 ⟨e6, Nat.le_trans h2.2 e7⟩ h3' g2 g3 g4⟩
end STEPS2
