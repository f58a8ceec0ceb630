/-! the reference lets join -/
section RJOIN
variable {G : mm_M} {m N now ser st n : Nat} {ids : List Nat} {P : List (Nat × Pe)} {L : List Dg} {x y z : Int32}
theorem r_jclear {i : Nat} {x1 x2 x3 x4 : Int32} {kx : mm_M → Int32 → Int32 → Int32 → Int32 → Option (mm_M × Int32)} (h : sM G m) (hi12 : i < 12) (h4 : x4.toInt = (i : Int)) : ∀ (r n k : Nat) (z : Int32) (J : Nat → Nat → Int32), z.toInt = (k : Int) → k + r = 12 → r < n → ∃ J', pX7_join_132 N m kx n (mm_w G J) x1 x2 x3 x4 z = kx (mm_w G J') x1 x2 x3 x4 ∧ (∀ j, k ≤ j → j < 12 → J' (m + 3) (12 * i + j) = 0) ∧ ∀ z j, (z ≠ m + 3 ∨ j < 12 * i + k ∨ 12 * i + 12 ≤ j) → J' z j = J z j := by
  intro r
  induction r with
  | zero =>
    intro n k z J hz hk hn
    obtain ⟨n, rfl⟩ : ∃ m, n = m + 1 := ⟨n - 1, by omega⟩
    refine ⟨J, ?_, fun j j1 j2 => by omega, fun _ _ _ => rfl⟩
    show pX7_join_132_b N m _ kx _ x1 x2 x3 x4 z = _
    unfold pX7_join_132_b
    rw [if_pos (by rw [zi_le, zi_12, hz]; omega)]
  | succ r ih =>
    intro n k z J hz hk hn
    obtain ⟨n, rfl⟩ : ∃ m, n = m + 1 := ⟨n - 1, by omega⟩
    obtain ⟨J', e1, e2, e3⟩ := ih n (k + 1) (z + 1) (js J (m + 3) (12 * i + k) 0) (zi_inc hz (by omega)) (by omega) (by omega)
    refine ⟨J', ?_, fun j j1 j2 => ?_, fun z j hz => by rw [e3 z j (by omega), js_ne _ (by omega)]⟩
    · show pX7_join_132_b N m _ kx _ x1 x2 x3 x4 z = _
      unfold pX7_join_132_b
      rw [if_neg (by rw [zi_le, zi_12, hz]; omega), gr_member h, w_nn, si_member h (zi_12i h4 hz hi12 (by omega)) (by omega) (Or.inl rfl)]
      exact e1
    · by_cases hjk : j = k
      · subst hjk
        rw [e3 _ _ (by omega), js_same]
      · exact e2 j (by omega) j2
theorem r_join_c {J : Nat → Nat → Int32} {p : Pe} {x3 x4 : Int32} (h : sM G m) (hi : rid J m ids) (hN : 400 ≤ N) (hpi : p.1 ∈ ids) (h1 : x.toInt = (p.1 : Int)) (h4 : x4.toInt = ((ix ids p.1 : Nat) : Int)) (hl : rlin J m L) (hc : (J m 0).toInt = (now : Int)) (hse : (J m 1).toInt = (ser : Int)) (hst : (J m 2).toInt = (st : Int)) (hs2 : ser < 10000) (hs3 : st < 10000) (hy : y.toInt = -1 ∨ ∃ v : Nat, y.toInt = (v : Int) ∧ v ∈ ids ∧ v ≠ p.1 ∧ x3.toInt = ((ix ids v : Nat) : Int)) : ∃ J' st', pX7_join_83 N m (mm_w G J) x y x3 x4 = some (mm_w G J', 1) ∧ rpe J' m ids st' (jnX now ser p y.toInt L).1 ∧ rlin J' m (jnX now ser p y.toInt L).2.2 ∧ ((J' m 0).toInt = (now : Int) ∧ (J' m 1).toInt = ((jnX now ser p y.toInt L).2.1 : Int) ∧ (J' m 2).toInt = (st' : Int)) ∧ (st ≤ st' ∧ st' ≤ st + 1) ∧ frX J J' m (ix ids p.1) ∧ (y.toInt ≠ -1 → ∃ s, tbk ids p.1 s (seeB [(0, 256, now, [])] p.1 y.toInt.toNat now)) := by
  have h12 := hi.2.1
  obtain ⟨a1, a2, a3⟩ := ix_mem hi.2.2.1 hpi
  obtain ⟨i1, i2⟩ := hi.2.2.2 _ _ a3
  have h9 : ((9 : Int32) * x4).toInt = ((9 * ix ids p.1 : Nat) : Int) := by rw [zi_mul zi_9 h4 (by omega) (by omega)]; omega
  unfold pX7_join_83
  rw [gr_up h, w_nn, si_up h h4 (by omega) (Or.inr rfl), gr_splits h, w_nn, si_splits h h4 (by omega), gr_entries h, w_nn, si_entries h h4 (by omega), gr_going h, w_nn, si_going h h4 (by omega), gr_touched h, w_gI h.1, js_ne (a := m + 12) (b := m) _ (Or.inl (by omega)), js_ne (a := m + 8) (b := m) _ (Or.inl (by omega)), js_ne (a := m + 6) (b := m) _ (Or.inl (by omega)), js_ne (a := m + 2) (b := m) _ (Or.inl (by omega)), w_nn, si_touched h h9 (by omega)]
  generalize hJ1 : js (js (js (js (js J (m + 2) (ix ids p.1) 1) (m + 6) (ix ids p.1) 0) (m + 8) (ix ids p.1) 0) (m + 12) (ix ids p.1) 0) (m + 7) (9 * ix ids p.1) (J m 0) = J1
  have f1 : ∀ z j, ((z ≠ m + 2 ∧ z ≠ m + 6 ∧ z ≠ m + 8 ∧ z ≠ m + 12) ∨ j ≠ ix ids p.1) → (z ≠ m + 7 ∨ j ≠ 9 * ix ids p.1) → J1 z j = J z j := fun z j z1 z2 => by rw [← hJ1, js_ne _ (by omega), js_ne _ (by omega), js_ne _ (by omega), js_ne _ (by omega), js_ne _ (by omega)]
  have b7 : J1 (m + 7) (9 * ix ids p.1) = J m 0 := by rw [← hJ1, js_same]
  have b12 : J1 (m + 12) (ix ids p.1) = 0 := by rw [← hJ1, js_ne _ (by omega), js_same]
  have b8 : J1 (m + 8) (ix ids p.1) = 0 := by rw [← hJ1, js_ne _ (by omega), js_ne _ (by omega), js_same]
  have b6 : J1 (m + 6) (ix ids p.1) = 0 := by rw [← hJ1, js_ne _ (by omega), js_ne _ (by omega), js_ne _ (by omega), js_same]
  have b2 : J1 (m + 2) (ix ids p.1) = 1 := by rw [← hJ1, js_ne _ (by omega), js_ne _ (by omega), js_ne _ (by omega), js_ne _ (by omega), js_same]
  obtain ⟨J2, e1, e2, e3⟩ := r_jclear (N := N) (x1 := x) (x2 := y) (x3 := x3) (kx := fun (G : mm_M) (x1 : Int32) (x2 : Int32) (x3 : Int32) (x4 : Int32) => if x2 = (-1 : Int32) then some (G, (1 : Int32)) else q_is G m 8 <| q_cl (pX7_see_0 N m G x4 x3) fun G _ => q_is G m 8 <| q_cl (pX7_start_0 N m G x4 (0 : Int32) x1) fun G _ => some (G, (1 : Int32))) h (show ix ids p.1 < 12 by omega) h4 12 N 0 0 J1 zi_0 (by omega) (by omega)
  have f2 : ∀ z j, ((z ≠ m + 2 ∧ z ≠ m + 6 ∧ z ≠ m + 8 ∧ z ≠ m + 12) ∨ j ≠ ix ids p.1) → (z ≠ m + 7 ∨ j ≠ 9 * ix ids p.1) → (z ≠ m + 3 ∨ j < 12 * ix ids p.1 ∨ 12 * ix ids p.1 + 12 ≤ j) → J2 z j = J z j := fun z j z1 z2 z3 => by rw [e3 z j (by omega), f1 z j z1 z2]
  have fX : frX J J2 m (ix ids p.1) := ⟨fun z j hz => f2 z j (by omega) (by omega) (by omega), ⟨f2 _ _ (by omega) (by omega) (by omega), fun j => f2 _ _ (by omega) (by omega) (by omega)⟩, fun i' hi' => ⟨fun z hz => f2 _ _ (by omega) (by omega) (by omega), fun z hz j _ => f2 _ _ (by omega) (by omega) (by omega), fun j _ => f2 _ _ (by omega) (by omega) (by omega), fun z hz j _ => f2 _ _ (by omega) (by omega) (by omega)⟩⟩
  have hi2 := rid_congr (J' := J2) hi fX.2.1.1 fX.2.1.2
  have hl2 := rlin_congr (J' := J2) hl (f2 _ _ (by omega) (by omega) (by omega)) (fun _ => f2 _ _ (by omega) (by omega) (by omega))
  have hc2 : (J2 m 0).toInt = (now : Int) := by rw [f2 _ _ (by omega) (by omega) (by omega)]; exact hc
  have hse2 : (J2 m 1).toInt = (ser : Int) := by rw [f2 _ _ (by omega) (by omega) (by omega)]; exact hse
  have hst2 : (J2 m 2).toInt = (st : Int) := by rw [f2 _ _ (by omega) (by omega) (by omega)]; exact hst
  have hanw : rpe J2 m ids st (anw now p) := by
    refine rpe_new i2 ?_ ?_ ?_ ?_ ?_ ?_ (fun j hj => ?_)
    · rw [f2 _ _ (by omega) (by omega) (by omega)]; exact i1
    · rw [e3 _ _ (by omega), b2]; rfl
    · rw [e3 _ _ (by omega), b6]; rfl
    · rw [e3 _ _ (by omega), b8]; rfl
    · rw [e3 _ _ (by omega), b12]; rfl
    · rw [e3 _ _ (by omega), b7]; exact hc
    · rw [e2 j (by omega) hj]; rfl
  rw [e1]
  unfold jnX
  rcases hy with hy | ⟨v, hy, hv, hvp, h3⟩
  · rw [if_pos (by rw [zi_eq, hy, zi_m1]), if_pos hy]
    exact ⟨J2, st, rfl, hanw, hl2, ⟨hc2, hse2, hst2⟩, ⟨Nat.le_refl _, by omega⟩, fX, fun e => absurd hy e⟩
  · have hvN : y.toInt.toNat = v := by rw [hy]; exact Int.toNat_natCast _
    rw [if_neg (by rw [zi_eq, hy, zi_m1]; omega), if_neg (by omega), hvN, w_is h.1]
    obtain ⟨r1, ⟨s, r2⟩, r3, r4⟩ := hanw
    have r1 : (J2 (m + 2) (ix ids p.1)).toInt = 1 := r1
    have r2 : rtb J2 m (ix ids p.1) ids p.1 s [(0, 256, now, [])] st := r2
    obtain ⟨J3, s3, st3, k1, k2, k3, k4, k5⟩ := r_see (N := N) (u := v) (nr := p.1) (now := now) (x1 := x4) (x2 := x3) h hi2 a1 hN h4 h3 hv hvp hc2 hst2 (by omega) r2
    have hvia : rpe J3 m ids st3 (viaP now p v) := by
      refine ⟨?_, ⟨s3, k2⟩, ⟨?_, fun h0 => absurd rfl h0⟩, ?_, fun j e hj => by cases hj⟩
      · show (J3 (m + 2) (ix ids p.1)).toInt = 1
        rw [k5 _ _ (by omega) (by omega) (by omega) (by omega)]
        exact r1
      · show (J3 (m + 12) (ix ids p.1)).toInt = 0
        rw [k5 _ _ (by omega) (by omega) (by omega) (by omega)]
        exact r3.1
      · show (J3 (m + 8) (ix ids p.1)).toInt = 0
        rw [k5 _ _ (by omega) (by omega) (by omega) (by omega)]
        exact r4.1
    obtain ⟨J4, q1, q2, q3, q4, q5⟩ := r_startP (N := N) (p := viaP now p v) (kd := 0) (t := p.1) (now := now) (ser := ser) (x := x4) (y := 0) (z := x) h (rid_congr hi2 (k5 _ _ (by omega) (by omega) (by omega) (by omega)) (fun _ => k5 _ _ (by omega) (by omega) (by omega) (by omega))) hN hpi h4 zi_0 h1 i2 (rlin_congr hl2 (k5 _ _ (by omega) (by omega) (by omega) (by omega)) (fun _ => k5 _ _ (by omega) (by omega) (by omega) (by omega))) (by rw [k5 _ _ (by omega) (by omega) (by omega) (by omega)]; exact hc2) (by rw [k5 _ _ (by omega) (by omega) (by omega) (by omega)]; exact hse2) (by omega) (Nat.zero_le _) hvia
    have q5' : frt J3 J4 m (ix ids p.1) := q5
    rw [k1, w_cl, w_is h.1, q1, w_cl]
    refine ⟨J4, st3, rfl, q2, q3, ⟨?_, q4, ?_⟩, k4, fX.trans (k5.X.trans q5'.X), fun _ => ⟨s3, k2.1⟩⟩
    · rw [q5' _ _ (by omega) (by omega) (by omega) (by omega) (by omega), k5 _ _ (by omega) (by omega) (by omega) (by omega)]; exact hc2
    · rw [q5' _ _ (by omega) (by omega) (by omega) (by omega) (by omega)]; exact k3
theorem IV_len (hI : IV ids P now ser L st n) : ids.length = P.length := by
  obtain ⟨-, b5, b6, b7, -, -⟩ := hI
  have hnd : (P.map (fun p => p.2.1)).Nodup := by
    unfold List.Nodup
    rw [List.pairwise_map]
    exact b7.imp (fun h => by omega)
  have h1 := pig _ ids hnd (fun u hu => (b6 u).mpr hu)
  have h2 := pig ids _ b5.1 (fun u hu => (b6 u).mp hu)
  rw [List.length_map] at h1 h2
  omega
end RJOIN
