/-! the reference ticks through its numbers -/
section RTICK2
variable {G : mm_M} {m N now now0 st M : Nat} {ids : List Nat}
theorem tkP_cnt {p : Pe} {L : List Dg} (hS : ids.length ≤ 12) (hp : pok ids now0 M p) : (tkP now p L).2.2 ≤ 12 := by
  unfold tkP
  split
  · split
    · exact Nat.le_trans List.countP_le_length (srtC_len hp.2.2.1.2.2.1.1 hp.2.2.1.2.2.1.2.1 hS)
    · exact Nat.zero_le _
  · exact Nat.zero_le _
theorem r_tick2 {kx : mm_M → Int32 → Option (mm_M × Int32)} (h : sM G m) (hN : 400 ≤ N) (hnow : now = now0 + 1) (hn2 : now < 10000) (hM : M ≤ 40000) : ∀ (r n v c : Nat) (x y : Int32) (J : Nat → Nat → Int32) (B : List (Nat × Pe)) (L : List Dg) (Q : List Pe), y.toInt = (v : Int) → v + r = 256 → r < n → x.toInt = (c : Int) → c + 12 * B.length ≤ 1000 → rid J m ids → (J m 0).toInt = (now : Int) → rlin J m L → (∀ D ∈ L, okD ids D) → B.Pairwise (fun p q => p.2.1 < q.2.1) → (∀ p ∈ B, v ≤ p.2.1) → (∀ p ∈ B, pok ids now0 M p.2) → (∀ u ∈ ids, u < v ∨ ∃ p ∈ B, p.2.1 = u) → (∀ p ∈ B, rpe J m ids st (exP now p.2)) → (∀ q ∈ Q, rpe J m ids st q ∧ pok ids now (M + 12) q ∧ q.1 < v) → ∃ J' x', pX7_tick_44 N m kx n (mm_w G J) x y = kx (mm_w G J') x' ∧ x'.toInt = ((c + (tckF now B L).2.2 : Nat) : Int) ∧ rlin J' m (tckF now B L).2.1 ∧ (∀ p ∈ (tckF now B L).1, rpe J' m ids st p.2) ∧ (∀ q ∈ Q, rpe J' m ids st q) ∧ (∀ z j, z < m ∨ m + 22 < z → J' z j = J z j) ∧ (∀ j, j ≠ 24 → J' m j = J m j) ∧ ∀ j, J' (m + 1) j = J (m + 1) j := by
  intro r
  induction r with
  | zero =>
    intro n v c x y J B L Q hy hv hn hx hcb hi hc hl hL hs hge hP hall hR hQ
    obtain ⟨n, rfl⟩ : ∃ m, n = m + 1 := ⟨n - 1, by omega⟩
    have hB : B = [] := by
      cases B with
      | nil => rfl
      | cons p B =>
        have h1 := hge p List.mem_cons_self
        have h2 := (hP p List.mem_cons_self).1.1
        omega
    subst hB
    refine ⟨J, x, ?_, hx, hl, (fun p hp => by cases hp), fun q hq => (hQ q hq).1, fun _ _ _ => rfl, fun _ _ => rfl, fun _ => rfl⟩
    show pX7_tick_44_b N m _ kx _ x y = _
    unfold pX7_tick_44_b
    rw [if_pos (by rw [zi_le, zi_256, hy]; omega)]
  | succ r ih =>
    intro n v c x y J B L Q hy hv hn hx hcb hi hc hl hL hs hge hP hall hR hQ
    obtain ⟨n, rfl⟩ : ∃ m, n = m + 1 := ⟨n - 1, by omega⟩
    have h12 := hi.2.1
    show ∃ J' x', pX7_tick_44_b N m _ kx _ x y = _ ∧ _
    unfold pX7_tick_44_b
    rw [if_neg (by rw [zi_le, zi_256, hy]; omega), w_is h.1]
    by_cases hvi : v ∈ ids
    · obtain ⟨a1, a2, a3⟩ := ix_mem hi.2.2.1 hvi
      have hkn : kn ids y.toInt = some (ix ids v) := by rw [hy]; exact kn_at hi.2.2.1 a3
      have hIx := oI_some (n := ix ids v) (by omega)
      obtain ⟨p, B', rfl, hpv⟩ : ∃ p B', B = p :: B' ∧ p.2.1 = v := by
        rcases hall v hvi with h1 | ⟨p, hp, hpv⟩
        · omega
        · cases B with
          | nil => cases hp
          | cons p0 B' =>
            refine ⟨p0, B', rfl, ?_⟩
            rcases List.mem_cons.mp hp with rfl | hp
            · exact hpv
            · have := (List.pairwise_cons.mp hs).1 p hp
              have := hge p0 List.mem_cons_self
              omega
      obtain ⟨s1, s2⟩ := List.pairwise_cons.mp hs
      have hpk := hP p List.mem_cons_self
      have hpR := hR p List.mem_cons_self
      have hxp : ix ids p.2.1 = ix ids v := by rw [hpv]
      have hup := hpR.1
      rw [exP_num, exP_up, hxp] at hup
      have htk := tkP_ok (now := now0) h12 hpk hL
      rw [← hnow] at htk
      have hcnt := tkP_cnt (now := now) (L := L) h12 hpk
      have hF : tckF now (p :: B') L = ((p.1, (tkP now p.2 L).1) :: (tckF now B' (tkP now p.2 L).2.1).1, (tckF now B' (tkP now p.2 L).2.1).2.1, (tkP now p.2 L).2.2 + (tckF now B' (tkP now p.2 L).2.1).2.2) := rfl
      have hB1 : ∀ q ∈ B', v + 1 ≤ q.2.1 := fun q hq => by have := s1 q hq; omega
      have hall1 : ∀ u ∈ ids, u < v + 1 ∨ ∃ q ∈ B', q.2.1 = u := fun u hu => by
        rcases hall u hu with h1 | ⟨q, hq, hqu⟩
        · exact Or.inl (by omega)
        · rcases List.mem_cons.mp hq with rfl | hq
          · exact Or.inl (by omega)
          · exact Or.inr ⟨q, hq, hqu⟩
      rw [r_at_s h hi hN hkn hup, w_cl]
      -- what follows once this peer is done
      have fin : ∀ (J1 : Nat → Nat → Int32) (x1 : Int32), x1.toInt = ((c + (tkP now p.2 L).2.2 : Nat) : Int) → rpe J1 m ids st (tkP now p.2 L).1 → rlin J1 m (tkP now p.2 L).2.1 → frX J J1 m (ix ids v) → (∀ j, j ≠ 24 → J1 m j = J m j) → ∃ J' x', pX7_tick_44 N m kx n (mm_w G J1) x1 (y + 1) = kx (mm_w G J') x' ∧ x'.toInt = ((c + (tckF now (p :: B') L).2.2 : Nat) : Int) ∧ rlin J' m (tckF now (p :: B') L).2.1 ∧ (∀ q ∈ (tckF now (p :: B') L).1, rpe J' m ids st q.2) ∧ (∀ q ∈ Q, rpe J' m ids st q) ∧ (∀ z j, z < m ∨ m + 22 < z → J' z j = J z j) ∧ (∀ j, j ≠ 24 → J' m j = J m j) ∧ ∀ j, J' (m + 1) j = J (m + 1) j := by
        intro J1 x1 hx1 hp1 hl1 hf hm
        obtain ⟨J2, x2, g1, g2, g3, g4, g5, g6, g7, g8⟩ := ih n (v + 1) (c + (tkP now p.2 L).2.2) x1 (y + 1) J1 B' (tkP now p.2 L).2.1 ((tkP now p.2 L).1 :: Q) (zi_inc hy (by omega)) (by omega) (by omega) hx1 (by rw [List.length_cons] at hcb; omega) (rid_congr hi hf.2.1.1 hf.2.1.2) (by rw [hm _ (by omega)]; exact hc) hl1 htk.2 s2 hB1 (fun q hq => hP q (List.mem_cons_of_mem _ hq)) hall1 (fun q hq => by
          have hqk := hP q (List.mem_cons_of_mem _ hq)
          refine rpe_congr ⟨hi.2.2.1, h12⟩ (exP_pok hqk) (hR q (List.mem_cons_of_mem _ hq)) ?_ (Nat.le_refl _)
          rw [exP_num]
          refine hf.2.2 _ (fun e => ?_)
          have := ix_inj hi.2.2.1 hqk.1.2 hvi e
          have := hB1 q hq
          omega) (fun q hq => by
          rcases List.mem_cons.mp hq with rfl | hq
          · exact ⟨hp1, htk.1, by rw [tkP_num]; omega⟩
          · obtain ⟨q1, q2, q3⟩ := hQ q hq
            refine ⟨rpe_congr ⟨hi.2.2.1, h12⟩ q2 q1 (hf.2.2 _ (fun e => ?_)) (Nat.le_refl _), q2, by omega⟩
            have := ix_inj hi.2.2.1 q2.1.2 hvi e
            omega)
        refine ⟨J2, x2, g1, by rw [g2, hF]; dsimp only; omega, by rw [hF]; exact g3, fun q hq => ?_, fun q hq => g5 q (List.mem_cons_of_mem _ hq), fun z j hz => by rw [g6 z j hz, hf.1 z j hz], fun j hj => by rw [g7 j hj, hm j hj], fun j => by rw [g8 j, hf.2.1.2 j]⟩
        rw [hF] at hq
        rcases List.mem_cons.mp hq with rfl | hq
        · exact g5 _ List.mem_cons_self
        · exact g4 q hq
      by_cases hu : p.2.2.1 = true
      · rw [if_pos hu, if_neg (by rw [zi_lt, hIx, zi_0]; omega), gr_going h, w_nn, ai_going h hIx (by omega)]
        have hgo := hpR.2.2.1.1
        have hE : exP now p.2 = (p.2.1, p.2.2.1, p.2.2.2.1, p.2.2.2.2.1, p.2.2.2.2.2.filter (live now)) := by unfold exP; rw [if_pos hu]
        rw [exP_num, hxp, hE] at hgo
        by_cases hst : p.2.2.2.2.1.1 = 1
        · dsimp only at hgo
          rw [if_pos (by rw [zi_eq, hgo, hst, zi_1]; rfl), w_is h.1]
          obtain ⟨J1, J2, w, k1, k2, k3, k4, k5, k6, k7⟩ := r_tkp (N := N) (now0 := now0) (M := M) (x := oI (some (ix ids v))) h hi hN hnow hn2 hM (by rw [hxp]; exact hIx) hc hl hpk hu hst hpR
          rw [hxp] at k6
          rw [k1, w_cl, w_is h.1, k2, w_cl]
          exact fin J2 (x + w) (by rw [zi_add hx k3 (by omega) (by omega)]; omega) k4 k5 k6 k7
        · dsimp only at hgo
          rw [if_neg (by rw [zi_eq, hgo, zi_1]; omega)]
          have hT : tkP now p.2 L = (exP now p.2, L, 0) := by
            rw [hE]
            unfold tkP
            rw [if_pos hu, if_neg hst]
          refine fin J x (by rw [hT, hx]; rfl) (by rw [hT]; exact hpR) (by rw [hT]; exact hl) frX.refl (fun _ _ => rfl)
      · rw [if_neg hu, if_pos (by rw [zi_lt, oI_none, zi_0]; decide)]
        have hT : tkP now p.2 L = (exP now p.2, L, 0) := by
          unfold tkP exP
          rw [if_neg hu, if_neg hu]
        refine fin J x (by rw [hT, hx]; rfl) (by rw [hT]; exact hpR) (by rw [hT]; exact hl) frX.refl (fun _ _ => rfl)
    · have hkn : kn ids y.toInt = none := by
        cases hk : kn ids y.toInt with
        | none => rfl
        | some j =>
          obtain ⟨-, u, u1, u2⟩ := kn_some hk
          have : u = v := by omega
          rw [this] at u1
          exact absurd (List.mem_of_getElem? u1) hvi
      rw [r_at_n h hi hN hkn, w_cl, if_pos (by rw [zi_lt, oI_none, zi_0]; decide)]
      exact ih n (v + 1) c x (y + 1) J B L Q (zi_inc hy (by omega)) (by omega) (by omega) hx hcb hi hc hl hL hs (fun p hp => by
        have h1 := hge p hp
        have : p.2.1 ≠ v := fun e => hvi (by rw [← e]; exact (hP p hp).1.2)
        omega) hP (fun u hu => by
        rcases hall u hu with h1 | h1
        · exact Or.inl (by omega)
        · exact Or.inr h1) hR (fun q hq => by
        obtain ⟨q1, q2, q3⟩ := hQ q hq
        exact ⟨q1, q2, by omega⟩)
theorem r_tick {J : Nat → Nat → Int32} {P : List (Nat × Pe)} {ser : Nat} {L : List Dg} {n : Nat} (h : sM G m) (hN : 400 ≤ N) (hw : RW J m ids P now0 ser L st) (hI : IV ids P now0 ser L st n) : ∃ J' v, pX7_tick_0 N m (mm_w G J) = some (mm_w G J', v) ∧ v.toInt = (((tckF (now0 + 1) P L).2.2 : Nat) : Int) ∧ RW J' m ids (tckF (now0 + 1) P L).1 (now0 + 1) ser (tckF (now0 + 1) P L).2.1 st ∧ ∀ z j, z < m ∨ m + 22 < z → J' z j = J z j := by
  obtain ⟨hi, ⟨c0, c1, c2⟩, hl, hR⟩ := hw
  obtain ⟨⟨b1, b2, b3, b4⟩, b5, b6, b7, b8, b9⟩ := hI
  have h12 := hi.2.1
  have f0 : ∀ z j, (z ≠ m ∨ j ≠ 0) → js J m 0 (J m 0 + 1) z j = J z j := fun z j hz => js_ne _ hz
  have hi1 := rid_congr (J' := js J m 0 (J m 0 + 1)) hi (f0 _ _ (by omega)) (fun _ => f0 _ _ (by omega))
  have hc1 : (js J m 0 (J m 0 + 1) m 0).toInt = ((now0 + 1 : Nat) : Int) := by rw [js_same]; exact zi_inc c0 (by omega)
  have hall : ∀ u ∈ ids, ∃ p ∈ P, p.2.1 = u := fun u hu => by
    obtain ⟨p, p1, p2⟩ := List.mem_map.mp ((b6 u).mp hu)
    exact ⟨p, p1, p2⟩
  have hlen : P.length ≤ 12 := by
    have hnd : (P.map (fun p => p.2.1)).Nodup := by
      unfold List.Nodup
      rw [List.pairwise_map]
      exact b7.imp (fun h => by omega)
    have := pig _ ids hnd (fun u hu => (b6 u).mpr hu)
    rw [List.length_map] at this
    omega
  obtain ⟨J1, e1, e2, e3⟩ := r_tick1 (N := N) (st := st) (kx := fun (G : mm_M) => pX7_tick_44 N m (fun (G : mm_M) (x1 : Int32) => some (G, x1)) N G (0 : Int32) (0 : Int32)) h hN rfl b8 b7 hall ids.length N 0 0 (js J m 0 (J m 0 + 1)) zi_0 (by omega) (by omega) hi1 hc1 (fun p hp => by
    rw [if_neg (by omega)]
    exact rpe_congr ⟨hi.2.2.1, h12⟩ (b8 p hp) (hR p hp) ⟨fun z hz => f0 _ _ (by omega), fun z hz j _ => f0 _ _ (by omega), fun j _ => f0 _ _ (by omega), fun z hz j _ => f0 _ _ (by omega)⟩ (Nat.le_refl _))
  have f1 : ∀ z j, (z ≠ m + 8 ∧ z ≠ m + 9 ∧ z ≠ m + 10 ∧ z ≠ m + 11) → (z ≠ m ∨ j ≠ 0) → J1 z j = J z j := fun z j z1 z2 => by rw [e3 z j z1, f0 z j z2]
  obtain ⟨J2, x2, g1, g2, g3, g4, g5, g6, g7, g8⟩ := r_tick2 (N := N) (st := st) (M := 12 * n) (kx := fun (G : mm_M) (x1 : Int32) => some (G, x1)) h hN rfl (by omega) (by omega) 256 N 0 0 0 0 J1 P L [] zi_0 (by omega) (by omega) zi_0 (by omega) (rid_congr hi1 (e3 _ _ (by omega)) (fun _ => e3 _ _ (by omega))) (by rw [e3 _ _ (by omega)]; exact hc1) (rlin_congr hl (f1 _ _ (by omega) (by omega)) (fun _ => f1 _ _ (by omega) (by omega))) b9 b7 (fun p _ => Nat.zero_le _) b8 (fun u hu => Or.inr (hall u hu)) e2 (fun q hq => by cases hq)
  refine ⟨J2, x2, ?_, by rw [g2, Nat.zero_add], ⟨rid_congr hi (by rw [g7 _ (by omega), f1 _ _ (by omega) (by omega)]) (fun j => by rw [g8, f1 _ _ (by omega) (by omega)]), ⟨by rw [g7 _ (by omega), e3 _ _ (by omega)]; exact hc1, by rw [g7 _ (by omega), f1 _ _ (by omega) (by omega)]; exact c1, by rw [g7 _ (by omega), f1 _ _ (by omega) (by omega)]; exact c2⟩, g3, g4⟩, fun z j hz => by rw [g6 z j hz, f1 z j (by omega) (by omega)]⟩
  unfold pX7_tick_0
  rw [w_gI h.1, w_pI h.1, e1, g1]
end RTICK2
