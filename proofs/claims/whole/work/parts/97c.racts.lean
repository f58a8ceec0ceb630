/-! what the reference does: leave, begin, refresh, drop -/
def frM (J J' : Nat → Nat → Int32) (m : Nat) : Prop := ∀ z j, z < m ∨ m + 22 < z → J' z j = J z j
section RACT
variable {G : mm_M} {J : Nat → Nat → Int32} {m N now ser st n : Nat} {ids : List Nat} {P : List (Nat × Pe)} {L : List Dg} {x y z : Int32}
theorem r_startP {p : Pe} {kd t : Nat} (h : sM G m) (hi : rid J m ids) (hN : 400 ≤ N) (hp : p.1 ∈ ids) (h1 : x.toInt = ((ix ids p.1 : Nat) : Int)) (h2 : y.toInt = (kd : Int)) (h3 : z.toInt = (t : Int)) (ht : t < 256) (hl : rlin J m L) (hc : (J m 0).toInt = (now : Int)) (hs : (J m 1).toInt = (ser : Int)) (hs2 : ser < 100000) (h6 : p.2.2.2.2.length ≤ 6) (hR : rpe J m ids st p) : ∃ J', pX7_start_0 N m (mm_w G J) x y z = some (mm_w G J', ()) ∧ rpe J' m ids st (strP now ser p kd t L).1 ∧ rlin J' m (strP now ser p kd t L).2 ∧ (J' m 1).toInt = ((ser + 1 : Nat) : Int) ∧ frt J J' m (ix ids p.1) := by
  obtain ⟨a1, a2, a3⟩ := ix_mem hi.2.2.1 hp
  obtain ⟨r1, ⟨s, r2⟩, r3, r4⟩ := hR
  have r2' : rtb J m (ix ids p.1) ids (idg ids (ix ids p.1)) s p.2.2.1 st := by rw [a2]; exact r2
  obtain ⟨J', g1, g2, g3, g4, g5, g6⟩ := r_start (N := N) (kd := kd) (now := now) (ser := ser) h hi a1 hN h1 h2 h3 ht r2' hl hc hs hs2
  rw [a2] at g2 g3 g4
  refine ⟨J', g1, ⟨?_, ⟨s, g2⟩, g3, ?_⟩, g4, g5, g6⟩
  · show (J' (m + 2) (ix ids p.1)).toInt = _
    rw [g6 _ _ (by omega) (by omega) (by omega) (by omega) (by omega)]
    exact r1
  · show ren J' m (ix ids p.1) p.2.2.2.2
    refine ⟨by rw [g6 _ _ (by omega) (by omega) (by omega) (by omega) (by omega)]; exact r4.1, fun j e hj => ?_⟩
    rw [g6 _ _ (by omega) (by omega) (by omega) (by omega) (by omega), g6 _ _ (by omega) (by omega) (by omega) (by omega) (by omega), g6 _ _ (by omega) (by omega) (by omega) (by omega) (by omega)]
    exact r4.2 j e hj
theorem r_startW {p : Nat × Pe} {kd t k : Nat} (h : sM G m) (hw : RW J m ids P now ser L st) (hI : IV ids P now ser L st n) (hN : 400 ≤ N) (hk : P[k]? = some p) (h1 : x.toInt = ((ix ids p.2.1 : Nat) : Int)) (h2 : y.toInt = (kd : Int)) (h3 : z.toInt = (t : Int)) (ht : t < 256) : ∃ J', pX7_start_0 N m (mm_w G J) x y z = some (mm_w G J', ()) ∧ RW J' m ids (P.set k (p.1, (strP now ser p.2 kd t L).1)) now (ser + 1) (strP now ser p.2 kd t L).2 st ∧ frM J J' m := by
  have hpm := List.mem_of_getElem? hk
  have hpk := hI.2.2.2.2.1 p hpm
  have hb := hI.1
  obtain ⟨J', g1, g2, g3, g4, g5⟩ := r_startP (N := N) (kd := kd) (t := t) h hw.1 hN hpk.1.2 h1 h2 h3 ht hw.2.2.1 hw.2.1.1 hw.2.1.2.1 (by omega) hpk.2.2.2.1 (hw.2.2.2 p hpm)
  exact ⟨J', g1, RW_upd hw hI.2.2.2.2.1 hI.2.2.2.1 hk g5.X ⟨by rw [g5 _ _ (by omega) (by omega) (by omega) (by omega) (by omega)]; exact hw.2.1.1, g4, by rw [g5 _ _ (by omega) (by omega) (by omega) (by omega) (by omega)]; exact hw.2.1.2.2⟩ g3 (Nat.le_refl _) g2, g5.X.1⟩
theorem r_leave (h : sM G m) (hw : RW J m ids P now ser L st) (hI : IV ids P now ser L st n) (hN : 400 ≤ N) : (ups P x.toInt = none → pX7_leave_0 N m (mm_w G J) x = some (mm_w G J, 0)) ∧ ∀ (k : Nat) (p : Nat × Pe), P[k]? = some p → ups P x.toInt = some p → ∃ J', pX7_leave_0 N m (mm_w G J) x = some (mm_w G J', 1) ∧ RW J' m ids (leaveP P k) now ser L st ∧ frM J J' m := by
  have h12 := hw.1.2.1
  unfold pX7_leave_0
  rw [w_is h.1, r_at2 h hw hI hN, w_cl]
  refine ⟨fun hu => ?_, fun k p hk hu => ?_⟩
  · rw [hu, Option.map_none, if_neg (by rw [zi_le, oI_none, zi_0]; decide)]
  · obtain ⟨-, -, -, pk, pr, a1, a2, a3⟩ := up_some hw hI hu
    have hIx := oI_some (n := ix ids p.2.1) (by omega)
    rw [hu, Option.map_some, if_pos (by rw [zi_le, hIx, zi_0]; omega), gr_up h, w_nn, si_up h hIx (by omega) (Or.inl rfl)]
    have fr : ∀ z j, (z ≠ m + 2 ∨ j ≠ ix ids p.2.1) → js J (m + 2) (ix ids p.2.1) 0 z j = J z j := fun z j hz => js_ne _ hz
    have fX : frX J (js J (m + 2) (ix ids p.2.1) 0) m (ix ids p.2.1) := ⟨fun z j hz => fr z j (by omega), ⟨fr _ _ (by omega), fun j => fr _ _ (by omega)⟩, fun i' hi => ⟨fun z hz => fr _ _ (by omega), fun z hz j _ => fr _ _ (by omega), fun j _ => fr _ _ (by omega), fun z hz j _ => fr _ _ (by omega)⟩⟩
    refine ⟨_, rfl, ?_, fX.1⟩
    unfold leaveP
    rw [modify_set _ hk]
    refine RW_upd hw hI.2.2.2.2.1 hI.2.2.2.1 hk fX ⟨by rw [fr _ _ (by omega)]; exact hw.2.1.1, by rw [fr _ _ (by omega)]; exact hw.2.1.2.1, by rw [fr _ _ (by omega)]; exact hw.2.1.2.2⟩ (rlin_congr hw.2.2.1 (fr _ _ (by omega)) (fun _ => fr _ _ (by omega))) (Nat.le_refl _) ?_
    obtain ⟨r1, ⟨s, r2⟩, r3, r4⟩ := pr
    refine ⟨?_, ⟨s, ?_⟩, ?_, ?_⟩
    · show (js J (m + 2) (ix ids p.2.1) 0 (m + 2) (ix ids p.2.1)).toInt = 0
      rw [js_same]
      rfl
    · exact rtb_congr hw.1.2.2.1 h12 r2 (fr _ _ (by omega)) (fr _ _ (by omega)) (fun j _ => ⟨fr _ _ (by omega), fr _ _ (by omega), fr _ _ (by omega)⟩) (fun y _ => fr _ _ (by omega)) (Nat.le_refl _)
    · refine ⟨by rw [fr _ _ (by omega)]; exact r3.1, fun h0 => rlv_congr ⟨hw.1.2.2.1, h12⟩ pk.2.2.1.2.2.1.2.1 (Nat.le_trans (pig _ ids pk.2.2.1.2.2.2.2.1 pk.2.2.1.2.2.2.2.2) h12) (r3.2 h0) ⟨⟨fr _ _ (by omega), fr _ _ (by omega), fr _ _ (by omega), fr _ _ (by omega)⟩, fun j _ => ⟨fr _ _ (by omega), fr _ _ (by omega), fr _ _ (by omega), fr _ _ (by omega)⟩⟩⟩
    · refine ⟨by rw [fr _ _ (by omega)]; exact r4.1, fun j e hj => ?_⟩
      rw [fr _ _ (by omega), fr _ _ (by omega), fr _ _ (by omega)]
      exact r4.2 j e hj
theorem r_begin (h : sM G m) (hw : RW J m ids P now ser L st) (hI : IV ids P now ser L st n) (hN : 400 ≤ N) : (bgn P x.toInt y.toInt z.toInt = none → pX7_begin_0 N m (mm_w G J) x y z = some (mm_w G J, 0)) ∧ ∀ (k : Nat) (p : Nat × Pe), P[k]? = some p → bgn P x.toInt y.toInt z.toInt = some p → ∃ J', pX7_begin_0 N m (mm_w G J) x y z = some (mm_w G J', 1) ∧ RW J' m ids (P.set k (p.1, (strP now ser p.2 y.toInt.toNat z.toInt.toNat L).1)) now (ser + 1) (strP now ser p.2 y.toInt.toNat z.toInt.toNat L).2 st ∧ frM J J' m := by
  have h12 := hw.1.2.1
  unfold pX7_begin_0 bgn
  rw [w_is h.1, r_at2 h hw hI hN, w_cl]
  cases hu : ups P x.toInt with
  | none =>
    rw [Option.map_none, if_pos (by rw [zi_lt, oI_none, zi_0]; decide)]
    exact ⟨fun _ => rfl, fun k p _ hb => by cases hb⟩
  | some p =>
    obtain ⟨-, -, -, pk, pr, a1, a2, a3⟩ := up_some hw hI hu
    have hIx := oI_some (n := ix ids p.2.1) (by omega)
    have hgo := pr.2.2.1.1
    rw [Option.map_some, if_neg (by rw [zi_lt, hIx, zi_0]; omega)]
    dsimp only
    generalize hRR : (if p.2.2.2.2.1.1 ≠ 1 ∧ (0 ≤ y.toInt ∧ y.toInt ≤ 2) ∧ 0 ≤ z.toInt ∧ z.toInt < 256 then some p else none) = R
    have no : ¬ (p.2.2.2.2.1.1 ≠ 1 ∧ (0 ≤ y.toInt ∧ y.toInt ≤ 2) ∧ 0 ≤ z.toInt ∧ z.toInt < 256) → ∀ Q, Q = some (mm_w G J, (0 : Int32)) → (R = none → Q = some (mm_w G J, 0)) ∧ ∀ (k : Nat) (p' : Nat × Pe), P[k]? = some p' → R = some p' → ∃ J', Q = some (mm_w G J', 1) ∧ RW J' m ids (P.set k (p'.1, (strP now ser p'.2 y.toInt.toNat z.toInt.toNat L).1)) now (ser + 1) (strP now ser p'.2 y.toInt.toNat z.toInt.toNat L).2 st ∧ frM J J' m := by
      intro hc Q hQ
      rw [if_neg hc] at hRR
      subst hRR
      exact ⟨fun _ => hQ, fun k p' _ hb => by cases hb⟩
    by_cases hy0 : y.toInt < 0
    · rw [if_pos (by rw [zi_lt, zi_0]; exact hy0)]
      exact no (by omega) _ rfl
    · rw [if_neg (by rw [zi_lt, zi_0]; exact hy0)]
      by_cases hy2 : 2 < y.toInt
      · rw [if_pos (by rw [zi_lt, zi_2]; exact hy2)]
        exact no (by omega) _ rfl
      · rw [if_neg (by rw [zi_lt, zi_2]; exact hy2), w_is h.1, r_number, w_cl]
        by_cases hz : 0 ≤ z.toInt ∧ z.toInt < 256
        · have e1 : (if 0 ≤ z.toInt ∧ z.toInt < 256 then (1 : Int32) else 0) = 1 := if_pos hz
          rw [e1, if_neg (by decide), gr_going h, w_nn, ai_going h hIx (by omega)]
          by_cases hst : p.2.2.2.2.1.1 = 1
          · rw [if_pos (by rw [zi_eq, hgo, hst, zi_1]; rfl)]
            exact no (fun e => e.1 hst) _ rfl
          · have hcond : p.2.2.2.2.1.1 ≠ 1 ∧ (0 ≤ y.toInt ∧ y.toInt ≤ 2) ∧ 0 ≤ z.toInt ∧ z.toInt < 256 := ⟨hst, by omega, hz⟩
            rw [if_pos hcond] at hRR
            subst hRR
            rw [if_neg (by rw [zi_eq, hgo, zi_1]; omega), w_is h.1]
            refine ⟨(fun e => by cases e), fun k p' hk hb => ?_⟩
            cases hb
            obtain ⟨J', g1, g2, g3⟩ := r_startW (N := N) (kd := y.toInt.toNat) (t := z.toInt.toNat) (x := oI (some (ix ids p.2.1))) (y := y) (z := z) h hw hI hN hk hIx (by omega) (by omega) (by omega)
            rw [g1, w_cl]
            exact ⟨J', rfl, g2, g3⟩
        · have e1 : (if 0 ≤ z.toInt ∧ z.toInt < 256 then (1 : Int32) else 0) = 0 := if_neg hz
          rw [e1, if_pos rfl]
          exact no (fun e => hz e.2.2) _ rfl
theorem r_ref_l {p : Nat × Pe} {s k : Nat} {kx : mm_M → Option (mm_M × Int32)} (h : sM G m) (hw : RW J m ids P now ser L st) (hI : IV ids P now ser L st n) (hN : 400 ≤ N) (hk : P[k]? = some p) (h1 : x.toInt = ((ix ids p.2.1 : Nat) : Int)) (hs : rtb J m (ix ids p.2.1) ids p.2.1 s p.2.2.2.1 st) : ∀ (r q b : Nat) (z : Int32), z.toInt = (b : Int) → b + r = s + 1 → r < q → (stl (p.2.2.2.1.drop b) now = none → pX7_refresh_24 N m kx q (mm_w G J) x z = kx (mm_w G J)) ∧ ∀ t, stl (p.2.2.2.1.drop b) now = some t → ∃ J', pX7_refresh_24 N m kx q (mm_w G J) x z = some (mm_w G J', Int32.ofNat t) ∧ RW J' m ids (P.set k (p.1, (strP now ser p.2 0 t L).1)) now (ser + 1) (strP now ser p.2 0 t L).2 st ∧ frM J J' m := by
  have h12 := hw.1.2.1
  have hpm := List.mem_of_getElem? hk
  have pk := hI.2.2.2.2.1 p hpm
  obtain ⟨a1, a2, a3⟩ := ix_mem hw.1.2.2.1 pk.1.2
  have hs8 := hs.1.1
  have hlen := shp_len hs.1.2.1
  have hnow := hI.1.1
  have hn5 := hI.1.2.2.2
  have hc := hw.2.1.1
  intro r
  induction r with
  | zero =>
    intro q b z hz hb hq
    obtain ⟨q, rfl⟩ : ∃ m, q = m + 1 := ⟨q - 1, by omega⟩
    have e : pX7_refresh_24 N m kx (q + 1) (mm_w G J) x z = kx (mm_w G J) := by
      show pX7_refresh_24_b N m _ kx _ x z = _
      unfold pX7_refresh_24_b
      rw [gr_splits h, w_nn, ai_splits h h1 (by omega), if_pos (by rw [zi_lt, hs.2.1.2.1.1, hz]; omega)]
    rw [List.drop_eq_nil_of_le (by omega)]
    exact ⟨fun _ => e, fun t ht => by cases ht⟩
  | succ r ih =>
    intro q b z hz hb hq
    obtain ⟨q, rfl⟩ : ∃ m, q = m + 1 := ⟨q - 1, by omega⟩
    have hbl : b < p.2.2.2.1.length := by omega
    have hbk := List.getElem?_eq_getElem hbl
    obtain ⟨xx, x1, x2, x3, x4⟩ := tbk_x hs.1 hbk
    have hxI := oI_some (n := xx) (by omega)
    have htch := (hs.2.2 _ _ _ x1 hbk).1
    have hq4 := (pk.2.1.2 _ (List.mem_of_getElem? hbk)).2.2.2
    have h256 := tbk_256 hs.1 hs.2.1.1.2 _ (List.mem_of_getElem? hbk)
    have hpos := (chn_at _ _ _ _ _ (FZ_chn hs.2.1.1.2 s hs8) (shp_at hs.1.2.1 hbk)).2.1
    obtain ⟨v1, e1, f1⟩ := r_first (N := N) (k := xx) (y := oI (some xx)) h (by omega) h1 hs.2.1.1.1 hs.2.1.1.2 hs.2.1.2.1.1 hs8 hxI x2
    obtain ⟨v2, e2, f2⟩ := r_size (N := N) (k := xx) (y := oI (some xx)) h (by omega) h1 hs.2.1.2.1.1 hs8 hxI x2
    rw [← x3] at f1
    rw [← x4] at f2
    have go := ih q (b + 1) (z + 1) (zi_inc hz (by omega)) (by omega) (by omega)
    have hst : stl (p.2.2.2.1.drop b) now = if p.2.2.2.1[b].2.2.1 + 16 ≤ now then some (p.2.2.2.1[b].1 + now % p.2.2.2.1[b].2.1) else stl (p.2.2.2.1.drop (b + 1)) now := by
      rw [List.drop_eq_getElem_cons hbl]
      unfold stl
      rw [List.find?_cons]
      have e0 : decide (0 < p.2.2.2.1[b].2.1) = true := decide_eq_true hpos
      by_cases hcc : p.2.2.2.1[b].2.2.1 + 16 ≤ now
      · rw [if_pos hcc, e0, decide_eq_true hcc]
        rfl
      · rw [if_neg hcc, e0, decide_eq_false hcc]
        rfl
    have hpre : pX7_refresh_24 N m kx (q + 1) (mm_w G J) x z = if p.2.2.2.1[b].2.2.1 + 16 ≤ now then (q_is (mm_w G J) m 8 <| q_cl (pX7_start_0 N m (mm_w G J) x (0 : Int32) (v1 + (J m 0 - J m 0 / v2 * v2))) fun G _ => some (G, v1 + (J m 0 - J m 0 / v2 * v2))) else pX7_refresh_24 N m kx q (mm_w G J) x (z + 1) := by
      have hsub := zi_sub hc htch (by omega) (by omega)
      show pX7_refresh_24_b N m _ kx _ x z = _
      unfold pX7_refresh_24_b
      rw [gr_splits h, w_nn, ai_splits h h1 (by omega), if_neg (by rw [zi_lt, hs.2.1.2.1.1, hz]; omega), w_is h.1, r_bat h (by omega) hN h1 hs.2.1.1.1 hs.2.1.1.2 hs.2.1.2.1.1 hs8 hz, x1, w_cl, w_gI h.1, gr_touched h, w_nn, ai_touched h (zi_9i h1 hxI (by omega) (by omega)) (by omega)]
      by_cases hcc : p.2.2.2.1[b].2.2.1 + 16 ≤ now
      · rw [if_neg (by rw [zi_lt, hsub, zi_16]; omega), if_pos hcc, w_is h.1, e1, w_cl, w_gI h.1, w_is h.1, e2, w_cl, w_nz (by rw [zi_eq, f2, zi_0]; omega)]
      · rw [if_pos (by rw [zi_lt, hsub, zi_16]; omega), if_neg hcc]
    rw [hst, hpre]
    by_cases hcc : p.2.2.2.1[b].2.2.1 + 16 ≤ now
    · rw [if_pos hcc, if_pos hcc, w_is h.1]
      refine ⟨(fun e => by cases e), fun t ht => ?_⟩
      have ht := Option.some.inj ht
      have hmod := Nat.mod_lt now hpos
      dsimp only at hmod
      have ht2 : (v1 + (J m 0 - J m 0 / v2 * v2)).toInt = (t : Int) := by
        rw [zi_add f1 (zi_rem hc f2 hpos) (by omega) (by omega), ← ht]
        omega
      obtain ⟨J', g1, g2, g3⟩ := r_startW (N := N) (kd := 0) (t := t) (x := x) (y := 0) (z := v1 + (J m 0 - J m 0 / v2 * v2)) h hw hI hN hk h1 zi_0 ht2 (by omega)
      rw [g1, w_cl]
      exact ⟨J', by rw [zi_eqN ht2 (by omega)], g2, g3⟩
    · rw [if_neg hcc, if_neg hcc]
      exact go
theorem r_refresh (h : sM G m) (hw : RW J m ids P now ser L st) (hI : IV ids P now ser L st n) (hN : 400 ≤ N) : (rfr P now x.toInt = none → pX7_refresh_0 N m (mm_w G J) x = some (mm_w G J, -1)) ∧ ∀ (k : Nat) (p : Nat × Pe) (t : Nat), P[k]? = some p → rfr P now x.toInt = some (p, t) → ∃ J', pX7_refresh_0 N m (mm_w G J) x = some (mm_w G J', Int32.ofNat t) ∧ RW J' m ids (P.set k (p.1, (strP now ser p.2 0 t L).1)) now (ser + 1) (strP now ser p.2 0 t L).2 st ∧ frM J J' m := by
  have h12 := hw.1.2.1
  unfold pX7_refresh_0 rfr
  rw [w_is h.1, r_at2 h hw hI hN, w_cl]
  cases hu : ups P x.toInt with
  | none =>
    rw [Option.map_none, if_pos (by rw [zi_lt, oI_none, zi_0]; decide)]
    exact ⟨fun _ => rfl, fun k p t _ hb => by cases hb⟩
  | some p =>
    obtain ⟨⟨k0, hk0⟩, -, -, pk, pr, a1, a2, a3⟩ := up_some hw hI hu
    have hIx := oI_some (n := ix ids p.2.1) (by omega)
    have hgo := pr.2.2.1.1
    obtain ⟨s, hs⟩ := pr.2.1
    have hs8 := hs.1.1
    rw [Option.map_some, if_neg (by rw [zi_lt, hIx, zi_0]; omega), gr_going h, w_nn, ai_going h hIx (by omega)]
    dsimp only
    generalize hRR : (if p.2.2.2.2.1.1 ≠ 1 then (stl p.2.2.2.1 now).map (fun t => (p, t)) else none) = R
    by_cases hst : p.2.2.2.2.1.1 = 1
    · rw [if_neg (fun e => e hst)] at hRR
      subst hRR
      rw [if_pos (by rw [zi_eq, hgo, hst, zi_1]; rfl)]
      exact ⟨fun _ => rfl, fun k p t _ hb => by cases hb⟩
    · rw [if_pos hst] at hRR
      subst hRR
      rw [if_neg (by rw [zi_eq, hgo, zi_1]; omega)]
      obtain ⟨g1, g2⟩ := r_ref_l (N := N) (kx := fun (G : mm_M) => some (G, (-1 : Int32))) (x := oI (some (ix ids p.2.1))) h hw hI hN hk0 hIx hs (s + 1) N 0 0 zi_0 (by omega) (by omega)
      rw [List.drop_zero] at g1 g2
      refine ⟨fun e => g1 ?_, fun k p' t hk hb => ?_⟩
      · cases hq : stl p.2.2.2.1 now with
        | none => rfl
        | some t => rw [hq] at e; cases e
      · cases hq : stl p.2.2.2.1 now with
        | none => rw [hq] at hb; cases hb
        | some t' =>
          rw [hq] at hb
          cases hb
          have := pw_num hI.2.2.2.1 hk0 hk rfl
          subst this
          exact g2 t hq
theorem r_drop (h : sM G m) (hw : RW J m ids P now ser L st) (hI : IV ids P now ser L st n) (hN : 400 ≤ N) : (¬ (0 ≤ x.toInt ∧ x.toInt < L.length) → pX7_drop_0 N m (mm_w G J) x = some (mm_w G J, 0)) ∧ ((0 ≤ x.toInt ∧ x.toInt < L.length) → ∃ J', pX7_drop_0 N m (mm_w G J) x = some (mm_w G J', 1) ∧ RW J' m ids P now ser (L.eraseIdx x.toInt.toNat) st ∧ frM J J' m) := by
  unfold pX7_drop_0
  rw [w_is h.1, r_inline h hw.2.2.1, w_cl]
  refine ⟨fun hc => ?_, fun hc => ?_⟩
  · rw [if_neg hc, if_pos rfl]
  · have hlt : x.toInt.toNat < L.length := by omega
    obtain ⟨J', g1, g2, g3, g4⟩ := r_out (N := N) (k := x.toInt.toNat) (x := x) h hw.2.2.1 hN (by omega) (List.getElem?_eq_getElem hlt)
    rw [if_pos hc, if_neg (by decide), w_is h.1, g1, w_cl]
    refine ⟨J', rfl, ⟨rid_congr hw.1 (g4 _ _ (by omega) (by omega) (by omega)) (fun _ => g4 _ _ (by omega) (by omega) (by omega)), ⟨by rw [g4 _ _ (by omega) (by omega) (by omega)]; exact hw.2.1.1, by rw [g4 _ _ (by omega) (by omega) (by omega)]; exact hw.2.1.2.1, by rw [g4 _ _ (by omega) (by omega) (by omega)]; exact hw.2.1.2.2⟩, g2, fun p hp => ?_⟩, fun z j hz => g4 z j (by omega) (by omega) (by omega)⟩
    exact rpe_congr ⟨hw.1.2.2.1, hw.1.2.1⟩ (hI.2.2.2.2.1 p hp) (hw.2.2.2 p hp) ⟨fun z hz => g4 _ _ (by omega) (by omega) (by omega), fun z hz j _ => g4 _ _ (by omega) (by omega) (by omega), fun j _ => g4 _ _ (by omega) (by omega) (by omega), fun z hz j _ => g4 _ _ (by omega) (by omega) (by omega)⟩ (Nat.le_refl _)
end RACT
