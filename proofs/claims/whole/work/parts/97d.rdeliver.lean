/-! the reference delivers -/
section RDLV
variable {G : mm_M} {J : Nat → Nat → Int32} {m N now ser st n : Nat} {ids : List Nat} {P : List (Nat × Pe)} {L : List Dg} {x y z : Int32}
theorem frs_p {J' : Nat → Nat → Int32} {p : Pe} {M s st' : Nat} {bs : List Bk} (hn : ids.Nodup ∧ ids.length ≤ 12) (pk : pok ids now M p) (pr : rpe J m ids st p) (f : frs J J' m (ix ids p.1)) (hb : rtb J' m (ix ids p.1) ids p.1 s bs st') : rpe J' m ids st' (p.1, p.2.1, bs, p.2.2.2) := by
  obtain ⟨r1, -, r3, r4⟩ := pr
  refine ⟨?_, ⟨s, hb⟩, ?_, ?_⟩
  · dsimp only
    rw [f _ _ (by omega) (by omega) (by omega) (by omega)]
    exact r1
  · refine ⟨?_, fun h0 => rlv_congr hn pk.2.2.1.2.2.1.2.1 (Nat.le_trans (pig _ ids pk.2.2.1.2.2.2.2.1 pk.2.2.1.2.2.2.2.2) hn.2) (r3.2 h0) ⟨⟨f _ _ (by omega) (by omega) (by omega) (by omega), f _ _ (by omega) (by omega) (by omega) (by omega), f _ _ (by omega) (by omega) (by omega) (by omega), f _ _ (by omega) (by omega) (by omega) (by omega)⟩, fun j _ => ⟨f _ _ (by omega) (by omega) (by omega) (by omega), f _ _ (by omega) (by omega) (by omega) (by omega), f _ _ (by omega) (by omega) (by omega) (by omega), f _ _ (by omega) (by omega) (by omega) (by omega)⟩⟩⟩
    dsimp only
    rw [f _ _ (by omega) (by omega) (by omega) (by omega)]
    exact r3.1
  · dsimp only
    refine ⟨by rw [f _ _ (by omega) (by omega) (by omega) (by omega)]; exact r4.1, fun j e hj => ?_⟩
    rw [f _ _ (by omega) (by omega) (by omega) (by omega), f _ _ (by omega) (by omega) (by omega) (by omega), f _ _ (by omega) (by omega) (by omega) (by omega)]
    exact r4.2 j e hj
theorem r_deliver (h : sM G m) (hw : RW J m ids P now ser L st) (hI : IV ids P now ser L st n) (hN : 400 ≤ N) : (¬ (0 ≤ x.toInt ∧ x.toInt < L.length) → pX7_deliver_0 N m (mm_w G J) x = some (mm_w G J, -1)) ∧ ((0 ≤ x.toInt ∧ x.toInt < L.length) → ∀ D, L[x.toInt.toNat]? = some D → (ups P (D 2) = none → ∃ J', pX7_deliver_0 N m (mm_w G J) x = some (mm_w G J', 0) ∧ RW J' m ids P now ser (L.eraseIdx x.toInt.toNat) st ∧ frM J J' m) ∧ ∀ (k : Nat) (p : Nat × Pe), P[k]? = some p → ups P (D 2) = some p → ∃ J' st', pX7_deliver_0 N m (mm_w G J) x = some (mm_w G J', 1) ∧ RW J' m ids (P.set k (p.1, (dlvP now p.2 (L.eraseIdx x.toInt.toNat) D).1)) now ser (dlvP now p.2 (L.eraseIdx x.toInt.toNat) D).2 st' ∧ (st ≤ st' ∧ st' ≤ st + 1) ∧ (∃ s, tbk ids p.2.1 s (seeB p.2.2.2.1 p.2.1 (D 1).toNat now)) ∧ frM J J' m) := by
  have h12 := hw.1.2.1
  have hIb := hI.1
  unfold pX7_deliver_0
  rw [w_is h.1, r_inline h hw.2.2.1, w_cl]
  refine ⟨fun hc => ?_, fun hc D hD => ?_⟩
  · rw [if_neg hc, if_pos rfl]
  · have hlt : x.toInt.toNat < L.length := by omega
    have hDm := List.mem_of_getElem? hD
    have hok := hI.2.2.2.2.2 D hDm
    obtain ⟨J1, g1, g2, g3, g4⟩ := r_out (N := N) (k := x.toInt.toNat) (x := x) h hw.2.2.1 hN (by omega) hD
    have hw1 : RW J1 m ids P now ser (L.eraseIdx x.toInt.toNat) st := by
      refine ⟨rid_congr hw.1 (g4 _ _ (by omega) (by omega) (by omega)) (fun _ => g4 _ _ (by omega) (by omega) (by omega)), ⟨by rw [g4 _ _ (by omega) (by omega) (by omega)]; exact hw.2.1.1, by rw [g4 _ _ (by omega) (by omega) (by omega)]; exact hw.2.1.2.1, by rw [g4 _ _ (by omega) (by omega) (by omega)]; exact hw.2.1.2.2⟩, g2, fun p hp => ?_⟩
      exact rpe_congr ⟨hw.1.2.2.1, hw.1.2.1⟩ (hI.2.2.2.2.1 p hp) (hw.2.2.2 p hp) ⟨fun z hz => g4 _ _ (by omega) (by omega) (by omega), fun z hz j _ => g4 _ _ (by omega) (by omega) (by omega), fun j _ => g4 _ _ (by omega) (by omega) (by omega), fun z hz j _ => g4 _ _ (by omega) (by omega) (by omega)⟩ (Nat.le_refl _)
    have hL1 : ∀ E ∈ L.eraseIdx x.toInt.toNat, okD ids E := fun E hE => hI.2.2.2.2.2 E ((List.eraseIdx_sublist _ _).subset hE)
    have hI1 := IV_L hI hL1
    have fM1 : frM J J1 m := fun z j hz => g4 z j (by omega) (by omega) (by omega)
    generalize L.eraseIdx x.toInt.toNat = L1 at g2 hw1 hL1 hI1 ⊢
    rw [if_pos hc, if_neg (by decide), w_is h.1, g1, w_cl, gr_now h, w_nn, ai_now (i := 2) h zi_2 (by omega), w_is h.1, r_at2 h hw1 hI1 hN, g3 2 (by omega), w_cl]
    refine ⟨fun hu => ?_, fun k p hk hu => ?_⟩
    · rw [hu, Option.map_none, if_neg (by rw [zi_le, oI_none, zi_0]; decide)]
      exact ⟨J1, rfl, hw1, fM1⟩
    · obtain ⟨-, pu, pv, pk, pr, a1, a2, a3⟩ := up_some hw1 hI1 hu
      have hIx := oI_some (n := ix ids p.2.1) (by omega)
      obtain ⟨d0, ⟨sn, d1, d1'⟩, -, d12, d3, d4, d5⟩ := hok
      have hsn : (D 1).toNat = sn := by rw [d1]; exact Int.toNat_natCast _
      have hne : sn ≠ p.2.1 := fun e => d12 (by rw [d1, ← pv, e])
      obtain ⟨b1, b2, b3⟩ := ix_mem hw.1.2.2.1 d1'
      have hsx := oI_some (n := ix ids sn) (by omega)
      obtain ⟨s, hs⟩ := pr.2.1
      obtain ⟨J2, s2, st2, e1, e2, e3, e4, e5⟩ := r_see (N := N) (u := sn) (nr := p.2.1) (now := now) (x1 := oI (some (ix ids p.2.1))) (x2 := oI (some (ix ids sn))) h hw1.1 a1 hN hIx hsx d1' hne hw1.2.1.1 hw1.2.1.2.2 (by omega) hs
      have hi2 := rid_congr (J' := J2) hw1.1 (e5 _ _ (by omega) (by omega) (by omega) (by omega)) (fun _ => e5 _ _ (by omega) (by omega) (by omega) (by omega))
      have hl2 := rlin_congr (J' := J2) g2 (e5 _ _ (by omega) (by omega) (by omega) (by omega)) (fun _ => e5 _ _ (by omega) (by omega) (by omega) (by omega))
      have hD2 : rnow J2 m D := fun c hc => by rw [e5 _ _ (by omega) (by omega) (by omega) (by omega)]; exact g3 c hc
      have hc2 : (J2 m 0).toInt = (now : Int) := by rw [e5 _ _ (by omega) (by omega) (by omega) (by omega)]; exact hw1.2.1.1
      have hs2 : (J2 m 1).toInt = (ser : Int) := by rw [e5 _ _ (by omega) (by omega) (by omega) (by omega)]; exact hw1.2.1.2.1
      have hp2 : rpe J2 m ids st2 (p.2.1, p.2.2.1, seeB p.2.2.2.1 p.2.1 sn now, p.2.2.2.2) := frs_p ⟨hw.1.2.2.1, h12⟩ pk pr e5 e2
      have hkn : kn ids (J1 (m + 22) 1).toInt = some (ix ids sn) := by rw [g3 1 (by omega), d1]; exact kn_at hw.1.2.2.1 b3
      rw [hu, Option.map_some, if_pos (by rw [zi_le, hIx, zi_0]; omega), gr_now h, w_nn, ai_now (i := 1) h zi_1 (by omega), w_is h.1, r_known h hw1.1 hN, hkn, w_cl, w_is h.1, e1, w_cl, gr_now h, w_nn, ai_now (i := 0) h zi_0 (by omega)]
      have fin : ∀ (J3 : Nat → Nat → Int32) (p' : Pe) (L' : List Dg), dlvP now p.2 L1 D = (p', L') → rpe J3 m ids st2 p' → rlin J3 m L' → frX J2 J3 m (ix ids p.2.1) → (∀ j, j ≠ 24 → J3 m j = J2 m j) → RW J3 m ids (P.set k (p.1, (dlvP now p.2 L1 D).1)) now ser (dlvP now p.2 L1 D).2 st2 ∧ frM J J3 m := by
        intro J3 p' L' hd hp3 hl3 hf hm
        rw [hd]
        refine ⟨RW_upd hw1 hI1.2.2.2.2.1 hI1.2.2.2.1 hk (e5.X.trans hf) ⟨by rw [hm _ (by omega)]; exact hc2, by rw [hm _ (by omega)]; exact hs2, by rw [hm _ (by omega)]; exact e3⟩ hl3 e4.1 hp3, fun z j hz => by rw [hf.1 z j hz, e5.X.1 z j hz, fM1 z j hz]⟩
      have htb : ∃ s, tbk ids p.2.1 s (seeB p.2.2.2.1 p.2.1 (D 1).toNat now) := ⟨s2, by rw [hsn]; exact e2.1⟩
      have hn5 : now < 10000 := by omega
      have w0 := hD2 0 (by omega)
      have e2' : rtb J2 m (ix ids p.2.1) ids (idg ids (ix ids p.2.1)) s2 (seeB p.2.2.2.1 p.2.1 sn now) st2 := by rw [a2]; exact e2
      rcases (by omega : (D 0 = 0 ∨ D 0 = 1) ∨ D 0 = 2 ∨ D 0 = 3) with e0 | e0 | e0
      · have ht := d4 (by omega)
        rw [if_neg (by rw [zi_le, zi_2, w0]; omega), w_is h.1]
        obtain ⟨J3, q1, q2, q3⟩ := r_answer (N := N) (t := (D 4).toNat) (ser := (D 3).toNat) (now := now) (x1 := oI (some (ix ids p.2.1))) (x2 := oI (some (ix ids sn))) h hi2 e2' a1 hN hIx hsx d1' hp2.2.2.2 pk.2.2.2.1 hl2 hD2 e0 (by omega) (by omega) (by omega) hc2 hn5
        rw [a2] at q2
        rw [q1, w_cl]
        have hd := dlvP_q (now := now) (p := p.2) (L := L1) e0
        rw [hsn] at hd
        obtain ⟨k1, k2⟩ := fin J3 _ _ hd (rpe_congr ⟨hw.1.2.2.1, h12⟩ (p := (p.2.1, p.2.2.1, seeB p.2.2.2.1 p.2.1 sn now, p.2.2.2.2)) (now := now) (M := 12 * n) ⟨pk.1, ⟨⟨s2, e2.1⟩, (seeB_q pk.2.1.2 (tbk_len hs.1).1 (tbk_len hs.1).2 (hI.2.1.2.2 sn d1') (Nat.le_refl _)).1⟩, pk.2.2⟩ hp2 ⟨fun z hz => q3 _ _ (by omega) (by omega), fun z hz j _ => q3 _ _ (by omega) (by omega), fun j _ => q3 _ _ (by omega) (by omega), fun z hz j _ => q3 _ _ (by omega) (by omega)⟩ (Nat.le_refl _)) q2 q3.X (fun j hj => q3 _ _ (by omega) (by omega))
        exact ⟨J3, st2, rfl, k1, e4, htb, k2⟩
      · rw [if_pos (by rw [zi_le, zi_2, w0]; omega), gr_now h, w_nn, ai_now (i := 0) h zi_0 (by omega), if_pos (by rw [zi_eq, w0, e0, zi_2]), w_is h.1]
        obtain ⟨J3, q1, q2, q3, q4, q5, q6⟩ := r_collect (N := N) (now := now) (sn := sn) (x1 := oI (some (ix ids p.2.1))) (x2 := oI (some (ix ids sn))) (st := p.2.2.2.2.1.1) (kd := p.2.2.2.2.1.2.1) (tg := p.2.2.2.2.1.2.2.1) (se := p.2.2.2.2.1.2.2.2.1) (C := p.2.2.2.2.1.2.2.2.2.1) (H := p.2.2.2.2.1.2.2.2.2.2) (D := D) h a1 hN hIx hsx d1' pk.2.2.1.2.1 pk.2.2.1.2.2.2.2 hi2 hl2 hp2.2.2.1 pk.2.2.1.2.2.1 hc2 hD2 (fun c hc => ⟨(d5 c hc).1, (d5 c hc).2.1⟩)
        rw [a2] at q2 q3
        rw [q1, w_cl]
        have hd := dlvP_n (now := now) (p := p.2) (L := L1) e0
        rw [hsn] at hd
        obtain ⟨k1, k2⟩ := fin J3 _ _ hd (by
          obtain ⟨r1, -, -, r4⟩ := hp2
          refine ⟨?_, ⟨s2, ?_⟩, q2, ?_⟩
          · dsimp only
            rw [q6 _ _ (by omega) (by omega) (by omega) (by omega)]
            exact r1
          · exact rtb_congr hw.1.2.2.1 h12 e2 (q6 _ _ (by omega) (by omega) (by omega) (by omega)) (q6 _ _ (by omega) (by omega) (by omega) (by omega)) (fun j _ => ⟨q6 _ _ (by omega) (by omega) (by omega) (by omega), q6 _ _ (by omega) (by omega) (by omega) (by omega), q6 _ _ (by omega) (by omega) (by omega) (by omega)⟩) (fun y _ => q6 _ _ (by omega) (by omega) (by omega) (by omega)) (Nat.le_refl _)
          · dsimp only
            refine ⟨by rw [q6 _ _ (by omega) (by omega) (by omega) (by omega)]; exact r4.1, fun j e hj => ?_⟩
            rw [q6 _ _ (by omega) (by omega) (by omega) (by omega), q6 _ _ (by omega) (by omega) (by omega) (by omega), q6 _ _ (by omega) (by omega) (by omega) (by omega)]
            exact r4.2 j e hj) q3 q6.X (fun j hj => q6 _ _ (by omega) (by omega) (by omega) (by omega))
        exact ⟨J3, st2, rfl, k1, e4, htb, k2⟩
      · have ht := d4 (by omega)
        rw [if_pos (by rw [zi_le, zi_2, w0]; omega), gr_now h, w_nn, ai_now (i := 0) h zi_0 (by omega), if_neg (by rw [zi_eq, w0, e0, zi_2]; decide), w_is h.1]
        obtain ⟨J3, q1, q2, q3⟩ := r_store (N := N) (t := (D 4).toNat) (sn := sn) (now := now) (x1 := oI (some (ix ids p.2.1))) (x2 := oI (some (ix ids sn))) h hi2 a1 hN hIx hsx d1' hp2.2.2.2 pk.2.2.2.1 hD2 d1 (by omega) hc2 hn5
        rw [a2] at q2
        rw [q1, w_cl]
        have hd := dlvP_s (now := now) (p := p.2) (L := L1) e0
        rw [hsn] at hd
        obtain ⟨k1, k2⟩ := fin J3 _ _ hd (by
          obtain ⟨r1, -, r3, -⟩ := hp2
          refine ⟨?_, ⟨s2, ?_⟩, ?_, q2⟩
          · dsimp only
            rw [q3 _ _ (by omega) (by omega)]
            exact r1
          · exact rtb_congr hw.1.2.2.1 h12 e2 (q3 _ _ (by omega) (by omega)) (q3 _ _ (by omega) (by omega)) (fun j _ => ⟨q3 _ _ (by omega) (by omega), q3 _ _ (by omega) (by omega), q3 _ _ (by omega) (by omega)⟩) (fun y _ => q3 _ _ (by omega) (by omega)) (Nat.le_refl _)
          · refine ⟨?_, fun h0 => rlv_congr ⟨hw.1.2.2.1, h12⟩ pk.2.2.1.2.2.1.2.1 (Nat.le_trans (pig _ ids pk.2.2.1.2.2.2.2.1 pk.2.2.1.2.2.2.2.2) h12) (r3.2 h0) ⟨⟨q3 _ _ (by omega) (by omega), q3 _ _ (by omega) (by omega), q3 _ _ (by omega) (by omega), q3 _ _ (by omega) (by omega)⟩, fun j _ => ⟨q3 _ _ (by omega) (by omega), q3 _ _ (by omega) (by omega), q3 _ _ (by omega) (by omega), q3 _ _ (by omega) (by omega)⟩⟩⟩
            dsimp only
            rw [q3 _ _ (by omega) (by omega)]
            exact r3.1) (rlin_congr hl2 (q3 _ _ (by omega) (by omega)) (fun _ => q3 _ _ (by omega) (by omega))) q3.X (fun j hj => q3 _ _ (by omega) (by omega))
        exact ⟨J3, st2, rfl, k1, e4, htb, k2⟩
end RDLV
