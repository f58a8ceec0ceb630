/-! the reference ticks -/
def exP (now : Nat) (p : Pe) : Pe := if p.2.1 = true then (p.1, p.2.1, p.2.2.1, p.2.2.2.1, p.2.2.2.2.filter (live now)) else p
theorem exP_num {now : Nat} {p : Pe} : (exP now p).1 = p.1 := by unfold exP; split <;> rfl
theorem exP_up {now : Nat} {p : Pe} : (exP now p).2.1 = p.2.1 := by unfold exP; split <;> rfl
theorem exP_pok {S : List Nat} {now now' M : Nat} {p : Pe} (h : pok S now M p) : pok S now M (exP now' p) := by
  unfold exP
  split
  · exact ⟨h.1, h.2.1, h.2.2.1, ⟨Nat.le_trans (List.length_filter_le _ _) h.2.2.2.1, fun e he => h.2.2.2.2 e (List.mem_filter.mp he).1⟩⟩
  · exact h
section RTICK
variable {G : mm_M} {m N now now0 st M : Nat} {ids : List Nat}
theorem r_at_n {J : Nat → Nat → Int32} {x : Int32} (h : sM G m) (hi : rid J m ids) (hN : 400 ≤ N) (hk : kn ids x.toInt = none) : pX7_at_0 N m (mm_w G J) x = some (mm_w G J, oI none) := by
  unfold pX7_at_0
  rw [w_is h.1, r_known h hi hN, w_cl, hk, if_pos (by rw [zi_lt, oI_none, zi_0]; decide)]
  rfl
theorem r_at_s {J : Nat → Nat → Int32} {x : Int32} {j : Nat} {b : Bool} (h : sM G m) (hi : rid J m ids) (hN : 400 ≤ N) (hk : kn ids x.toInt = some j) (hu : (J (m + 2) j).toInt = if b = true then 1 else 0) : pX7_at_0 N m (mm_w G J) x = some (mm_w G J, oI (if b = true then some j else none)) := by
  have h12 := hi.2.1
  obtain ⟨k1, -⟩ := kn_some hk
  have hj := oI_some (n := j) (by omega)
  unfold pX7_at_0
  rw [w_is h.1, r_known h hi hN, w_cl, hk, if_neg (by rw [zi_lt, hj, zi_0]; omega), gr_up h, w_nn, ai_up h hj (by omega)]
  cases b with
  | true => rw [if_neg (by rw [zi_eq, hu, zi_0]; decide)]; rfl
  | false => rw [if_pos (by rw [zi_eq, hu, zi_0]; decide)]; rfl
theorem r_tick1 {P : List (Nat × Pe)} {kx : mm_M → Option (mm_M × Int32)} (h : sM G m) (hN : 400 ≤ N) (hnow : now = now0 + 1) (hP : ∀ p ∈ P, pok ids now0 M p.2) (hs : P.Pairwise (fun p q => p.2.1 < q.2.1)) (hall : ∀ u ∈ ids, ∃ p ∈ P, p.2.1 = u) : ∀ (r n j : Nat) (z : Int32) (J : Nat → Nat → Int32), z.toInt = (j : Int) → j + r = ids.length → r < n → rid J m ids → (J m 0).toInt = (now : Int) → (∀ p ∈ P, rpe J m ids st (if ix ids p.2.1 < j then exP now p.2 else p.2)) → ∃ J', pX7_tick_12 N m kx n (mm_w G J) z = kx (mm_w G J') ∧ (∀ p ∈ P, rpe J' m ids st (exP now p.2)) ∧ ∀ z j, (z ≠ m + 8 ∧ z ≠ m + 9 ∧ z ≠ m + 10 ∧ z ≠ m + 11) → J' z j = J z j := by
  intro r
  induction r with
  | zero =>
    intro n j z J hz hj hn hi hc hR
    obtain ⟨n, rfl⟩ : ∃ m, n = m + 1 := ⟨n - 1, by omega⟩
    refine ⟨J, ?_, fun p hp => ?_, fun _ _ _ => rfl⟩
    · show pX7_tick_12_b N m _ kx _ z = _
      unfold pX7_tick_12_b
      rw [w_gI h.1, if_pos (by rw [zi_le, hi.1, hz]; omega)]
    · have := hR p hp
      have hx := (ix_mem hi.2.2.1 (hP p hp).1.2).1
      rw [if_pos (by omega)] at this
      exact this
  | succ r ih =>
    intro n j z J hz hj hn hi hc hR
    obtain ⟨n, rfl⟩ : ∃ m, n = m + 1 := ⟨n - 1, by omega⟩
    have h12 := hi.2.1
    have hjl : j < ids.length := by omega
    obtain ⟨p, hp, hpu⟩ := hall _ (idg_mem hjl)
    have hpx : ix ids p.2.1 = j := by rw [hpu, ix_idg hi.2.2.1 hjl]
    have hpR := hR p hp
    rw [if_neg (by omega)] at hpR
    have hup := hpR.1
    rw [hpx] at hup
    have hoth : ∀ (J' : Nat → Nat → Int32), frX J J' m j → rpe J' m ids st (exP now p.2) → ∀ q ∈ P, rpe J' m ids st (if ix ids q.2.1 < j + 1 then exP now q.2 else q.2) := by
      intro J' hf hpn q hq
      by_cases hqx : ix ids q.2.1 = j
      · have hqp : q.2.1 = p.2.1 := ix_inj hi.2.2.1 (hP q hq).1.2 (hP p hp).1.2 (by omega)
        obtain ⟨a, ha⟩ := List.getElem?_of_mem hq
        obtain ⟨c, hcc⟩ := List.getElem?_of_mem hp
        have e := pw_num hs ha hcc hqp
        subst e
        rw [ha] at hcc
        cases hcc
        rw [if_pos (by omega)]
        exact hpn
      · have hq1 := hR q hq
        by_cases hlt : ix ids q.2.1 < j
        · rw [if_pos hlt] at hq1
          rw [if_pos (by omega)]
          exact rpe_congr ⟨hi.2.2.1, h12⟩ (exP_pok (hP q hq)) hq1 (by rw [exP_num]; exact hf.2.2 _ hqx) (Nat.le_refl _)
        · rw [if_neg hlt] at hq1
          rw [if_neg (by omega)]
          exact rpe_congr ⟨hi.2.2.1, h12⟩ (hP q hq) hq1 (hf.2.2 _ hqx) (Nat.le_refl _)
    show ∃ J', pX7_tick_12_b N m _ kx _ z = _ ∧ _
    unfold pX7_tick_12_b
    rw [w_gI h.1, if_neg (by rw [zi_le, hi.1, hz]; omega), gr_up h, w_nn, ai_up h hz (by omega)]
    by_cases hu : p.2.2.1 = true
    · rw [if_pos hu] at hup
      rw [if_neg (by rw [zi_eq, hup, zi_0]; decide), w_is h.1]
      have hpk := hP p hp
      have hren := hpR.2.2.2
      rw [hpx] at hren
      obtain ⟨J1, e1, e2, e3⟩ := r_expire (N := N) (now := now) h (by omega) hN hz hpk.2.2.2.1 (fun e he => by
        have := (hpk.2.2.2.2 e he).2.2.2 hu
        omega) hc hren
      have fX : frX J J1 m j := e3.X
      have hpn : rpe J1 m ids st (exP now p.2) := by
        obtain ⟨g1, ⟨s, g2⟩, g3, g4⟩ := hpR
        unfold exP
        rw [if_pos hu]
        refine ⟨?_, ⟨s, ?_⟩, ?_, ?_⟩
        · show (J1 (m + 2) (ix ids p.2.1)).toInt = _
          rw [e3 _ _ (by omega) (by omega)]
          exact g1
        · exact rtb_congr hi.2.2.1 h12 g2 (e3 _ _ (by omega) (by omega)) (e3 _ _ (by omega) (by omega)) (fun j _ => ⟨e3 _ _ (by omega) (by omega), e3 _ _ (by omega) (by omega), e3 _ _ (by omega) (by omega)⟩) (fun y _ => e3 _ _ (by omega) (by omega)) (Nat.le_refl _)
        · refine ⟨?_, fun h0 => rlv_congr ⟨hi.2.2.1, h12⟩ hpk.2.2.1.2.2.1.2.1 (Nat.le_trans (pig _ ids hpk.2.2.1.2.2.2.2.1 hpk.2.2.1.2.2.2.2.2) h12) (g3.2 h0) ⟨⟨e3 _ _ (by omega) (by omega), e3 _ _ (by omega) (by omega), e3 _ _ (by omega) (by omega), e3 _ _ (by omega) (by omega)⟩, fun j _ => ⟨e3 _ _ (by omega) (by omega), e3 _ _ (by omega) (by omega), e3 _ _ (by omega) (by omega), e3 _ _ (by omega) (by omega)⟩⟩⟩
          show (J1 (m + 12) (ix ids p.2.1)).toInt = _
          rw [e3 _ _ (by omega) (by omega)]
          exact g3.1
        · show ren J1 m (ix ids p.2.1) _
          rw [hpx]
          exact e2
      rw [e1, w_cl]
      obtain ⟨J2, g1, g2, g3⟩ := ih n (j + 1) (z + 1) J1 (zi_inc hz (by omega)) (by omega) (by omega) (rid_congr hi fX.2.1.1 fX.2.1.2) (by rw [e3 _ _ (by omega) (by omega)]; exact hc) (hoth J1 fX hpn)
      exact ⟨J2, g1, g2, fun z q hz => by rw [g3 z q hz, e3 z q (by omega) (by omega)]⟩
    · rw [if_neg hu] at hup
      rw [if_pos (by rw [zi_eq, hup, zi_0])]
      have hpn : rpe J m ids st (exP now p.2) := by
        unfold exP
        rw [if_neg hu]
        exact hpR
      exact ih n (j + 1) (z + 1) J (zi_inc hz (by omega)) (by omega) (by omega) hi hc (hoth J frX.refl hpn)
theorem r_tkp {J : Nat → Nat → Int32} {p : Pe} {L : List Dg} {x : Int32} (h : sM G m) (hi : rid J m ids) (hN : 400 ≤ N) (hnow : now = now0 + 1) (hn2 : now < 10000) (hM : M ≤ 40000) (hx : x.toInt = ((ix ids p.1 : Nat) : Int)) (hc : (J m 0).toInt = (now : Int)) (hl : rlin J m L) (hp : pok ids now0 M p) (hu : p.2.1 = true) (hst : p.2.2.2.1.1 = 1) (hR : rpe J m ids st (exP now p)) : ∃ J1 J' y, pX7_fail_0 N m (mm_w G J) x = some (mm_w G J1, y) ∧ pX7_goOn_0 N m (mm_w G J1) x = some (mm_w G J', ()) ∧ y.toInt = (((tkP now p L).2.2 : Nat) : Int) ∧ rpe J' m ids st (tkP now p L).1 ∧ rlin J' m (tkP now p L).2.1 ∧ frX J J' m (ix ids p.1) ∧ ∀ j, j ≠ 24 → J' m j = J m j := by
  have h12 := hi.2.1
  obtain ⟨a1, a2, a3⟩ := ix_mem hi.2.2.1 hp.1.2
  unfold exP at hR
  rw [if_pos hu] at hR
  obtain ⟨r1, ⟨s, r2⟩, r3, r4⟩ := hR
  obtain ⟨⟨p1, p2⟩, ⟨-, p4⟩, ⟨p50, p51, p52, p53, p54⟩, p6⟩ := hp
  have hv := r3.2 (by rw [hst]; decide)
  dsimp only at r1 r2 r3 r4 hv
  have hCn : okCn ids now p.1 p.2.2.2.1.2.2.1 p.2.2.2.1.2.2.2.2.1 := okCn_now ⟨p52, p53⟩ (by omega)
  obtain ⟨J1, y, f1, f2, f3, f4, f5⟩ := r_fail (N := N) (now := now) h hi a1 hN hx hn2 hc r2 (qB_mono p4 (Nat.le_refl _) (by omega)) hM hv hCn.1 (fun c hc => (hCn.2 c hc).2)
  have hi1 := rid_congr (J' := J1) hi (f5 _ _ (by omega)) (fun _ => f5 _ _ (by omega))
  have hH : p.2.2.2.1.2.2.2.2.2.length ≤ 12 := Nat.le_trans (pig _ ids p54.1 p54.2) h12
  have hgv := gv_ok hCn
  obtain ⟨J2, g1, g2, g3, g4, g5, g6⟩ := r_goon (N := N) (now := now) h a1 hN hx p51 hH hi1 (rlin_congr hl (f5 _ _ (by omega)) (fun _ => f5 _ _ (by omega))) (by rw [f5 _ _ (by omega), r3.1, hst]; rfl) f4 hgv.1 (by rw [f5 _ _ (by omega)]; exact hc)
  rw [a2] at g2 g3 g4 g5
  have hT : tkP now p L = ((p.1, p.2.1, p.2.2.2.1.2.2.2.2.1.foldl (gvB now) p.2.2.1, (goS 1 (goL p.2.2.2.1.2.1 p.1 p.2.2.2.1.2.2.2.1 p.2.2.2.1.2.2.1 now 2 (p.2.2.2.1.2.2.2.2.1.map (gv1 now)) L).1, p.2.2.2.1.2.1, p.2.2.2.1.2.2.1, p.2.2.2.1.2.2.2.1, (goL p.2.2.2.1.2.1 p.1 p.2.2.2.1.2.2.2.1 p.2.2.2.1.2.2.1 now 2 (p.2.2.2.1.2.2.2.2.1.map (gv1 now)) L).1, p.2.2.2.1.2.2.2.2.2), p.2.2.2.2.filter (live now)), goD p.2.2.2.1.2.1 p.1 p.2.2.2.1.2.2.2.1 p.2.2.2.1.2.2.1 (goL p.2.2.2.1.2.1 p.1 p.2.2.2.1.2.2.2.1 p.2.2.2.1.2.2.1 now 2 (p.2.2.2.1.2.2.2.2.1.map (gv1 now)) L).1 (goL p.2.2.2.1.2.1 p.1 p.2.2.2.1.2.2.2.1 p.2.2.2.1.2.2.1 now 2 (p.2.2.2.1.2.2.2.2.1.map (gv1 now)) L).2, p.2.2.2.1.2.2.2.2.1.countP (sil now)) := by
    unfold tkP
    rw [if_pos hu, if_pos hst]
  rw [hT]
  have fr : ∀ z j, z ≠ m + 21 → (z ≠ m ∨ j ≠ 24) → (z ≠ m + 12 ∨ j ≠ ix ids p.1) → ((z ≠ m + 16 ∧ z ≠ m + 17 ∧ z ≠ m + 5) ∨ j < 12 * ix ids p.1 ∨ 12 * ix ids p.1 + 12 ≤ j) → J2 z j = J z j := fun z j z1 z2 z3 z4 => by rw [g6 z j z1 z2 z3 (by omega), f5 z j (by omega)]
  refine ⟨J1, J2, y, f1, g1, f2, ⟨?_, ⟨s, ?_⟩, ⟨g2, fun _ => g3⟩, ?_⟩, g4, ⟨fun z j hz => fr z j (by omega) (by omega) (by omega) (by omega), ⟨fr _ _ (by omega) (by omega) (by omega) (by omega), fun j => fr _ _ (by omega) (by omega) (by omega) (by omega)⟩, fun i' hi' => ⟨fun z hz => fr _ _ (by omega) (by omega) (by omega) (by omega), fun z hz j _ => fr _ _ (by omega) (by omega) (by omega) (by omega), fun j _ => fr _ _ (by omega) (by omega) (by omega) (by omega), fun z hz j _ => fr _ _ (by omega) (by omega) (by omega) (by omega)⟩⟩, fun j hj => fr _ _ (by omega) (by omega) (by omega) (by omega)⟩
  · dsimp only
    rw [fr _ _ (by omega) (by omega) (by omega) (by omega)]
    exact r1
  · exact rtb_congr hi.2.2.1 h12 f3 (g6 _ _ (by omega) (by omega) (by omega) (by omega)) (g6 _ _ (by omega) (by omega) (by omega) (by omega)) (fun j _ => ⟨g6 _ _ (by omega) (by omega) (by omega) (by omega), g6 _ _ (by omega) (by omega) (by omega) (by omega), g6 _ _ (by omega) (by omega) (by omega) (by omega)⟩) (fun y _ => g6 _ _ (by omega) (by omega) (by omega) (by omega)) (Nat.le_refl _)
  · dsimp only
    refine ⟨by rw [fr _ _ (by omega) (by omega) (by omega) (by omega)]; exact r4.1, fun j e hj => ?_⟩
    rw [fr _ _ (by omega) (by omega) (by omega) (by omega), fr _ _ (by omega) (by omega) (by omega) (by omega), fr _ _ (by omega) (by omega) (by omega) (by omega)]
    exact r4.2 j e hj
end RTICK
