section RJOIN2
variable {G : mm_M} {m N now ser st n : Nat} {ids : List Nat} {P : List (Nat × Pe)} {L : List Dg} {x y z : Int32}
theorem r_join_p {J : Nat → Nat → Int32} (h : sM G m) (hw : RW J m ids P now ser L st) (hI : IV ids P now ser L st n) (hN : 400 ≤ N) : (¬ jnOk P x.toInt y.toInt → pX7_join_0 N m (mm_w G J) x y = some (mm_w G J, 0)) ∧ (jnOk P x.toInt y.toInt → pX7_join_0 N m (mm_w G J) x y = pX7_join_54 N m (mm_w G J) x y (oI ((ups P y.toInt).map (fun p => ix ids p.2.1))) (oI (kn ids x.toInt))) := by
  have h12 := hw.1.2.1
  have hlen := IV_len hI
  have hkx := fp_ix (v := x.toInt) hw.1.2.2.1 hI.2.2.1
  have hknl : ∀ j, kn ids x.toInt = some j → j < ids.length := fun j hj => (kn_some hj).1
  have h43 : ∀ x4 : Int32, (pX7_join_43 N m (mm_w G J) x y (oI ((ups P y.toInt).map (fun p => ix ids p.2.1))) x4 = if y.toInt = -1 ∨ ups P y.toInt ≠ none then pX7_join_54 N m (mm_w G J) x y (oI ((ups P y.toInt).map (fun p => ix ids p.2.1))) x4 else some (mm_w G J, 0)) := by
    intro x4
    unfold pX7_join_43
    by_cases hy : y.toInt = -1
    · rw [if_pos (by rw [zi_eq, hy, zi_m1]), if_pos (Or.inl hy)]
    · rw [if_neg (by rw [zi_eq, zi_m1]; exact hy)]
      cases hu : ups P y.toInt with
      | none => rw [Option.map_none, if_neg (by rw [zi_le, oI_none, zi_0]; decide), if_neg (fun e => e.elim hy (fun e => e rfl))]
      | some q =>
        obtain ⟨-, -, -, -, -, c1, -, -⟩ := up_some hw hI hu
        have := oI_some (n := ix ids q.2.1) (by omega)
        rw [Option.map_some, if_pos (by rw [zi_le, this, zi_0]; omega), if_pos (Or.inr (by simp))]
  have hpre : pX7_join_0 N m (mm_w G J) x y = if (0 ≤ x.toInt ∧ x.toInt < 256) ∧ ups P x.toInt = none ∧ (fp P x.toInt = none → P.length < 12) then pX7_join_43 N m (mm_w G J) x y (oI ((ups P y.toInt).map (fun p => ix ids p.2.1))) (oI (kn ids x.toInt)) else some (mm_w G J, 0) := by
    unfold pX7_join_0
    rw [w_is h.1, r_at2 h hw hI hN, w_cl, w_is h.1, r_known h hw.1 hN, w_cl, w_is h.1, r_number, w_cl]
    by_cases hx : 0 ≤ x.toInt ∧ x.toInt < 256
    · have e1 : (if 0 ≤ x.toInt ∧ x.toInt < 256 then (1 : Int32) else 0) = 1 := if_pos hx
      rw [e1, if_neg (by decide), w_is h.1, r_at2 h hw hI hN, w_cl]
      cases hu : ups P x.toInt with
      | some q =>
        obtain ⟨-, -, -, -, -, c1, -, -⟩ := up_some hw hI hu
        have := oI_some (n := ix ids q.2.1) (by omega)
        rw [Option.map_some, if_pos (by rw [zi_le, this, zi_0]; omega), if_neg (fun e => by cases e.2.1)]
      | none =>
        rw [Option.map_none, if_neg (by rw [zi_le, oI_none, zi_0]; decide)]
        cases hf : fp P x.toInt with
        | some q =>
          rw [hf, Option.map_some] at hkx
          have hj := hknl _ hkx
          have := oI_some (n := ix ids q.2.1) (by omega)
          rw [hkx, if_pos (by rw [zi_le, this, zi_0]; omega), if_pos ⟨hx, rfl, (fun e => by cases e)⟩]
        | none =>
          rw [hf, Option.map_none] at hkx
          rw [hkx, if_neg (by rw [zi_le, oI_none, zi_0]; decide), w_gI h.1]
          by_cases hl : P.length < 12
          · rw [if_neg (by rw [zi_le, zi_12, hw.1.1]; omega), if_pos ⟨hx, rfl, fun _ => hl⟩]
          · rw [if_pos (by rw [zi_le, zi_12, hw.1.1]; omega), if_neg (fun e => hl (e.2.2 rfl))]
    · have e1 : (if 0 ≤ x.toInt ∧ x.toInt < 256 then (1 : Int32) else 0) = 0 := if_neg hx
      rw [e1, if_pos rfl, if_neg (fun e => hx e.1)]
  rw [hpre, h43]
  refine ⟨fun hno => ?_, fun hok => ?_⟩
  · by_cases hc1 : (0 ≤ x.toInt ∧ x.toInt < 256) ∧ ups P x.toInt = none ∧ (fp P x.toInt = none → P.length < 12)
    · rw [if_pos hc1, if_neg (fun e => hno ⟨hc1.1, hc1.2.1, e, hc1.2.2⟩)]
    · rw [if_neg hc1]
  · rw [if_pos ⟨hok.1, hok.2.1, hok.2.2.2⟩, if_pos hok.2.2.1]
theorem r_join_v {J : Nat → Nat → Int32} {p : Pe} (hw : RW J m ids P now ser L st) (hI : IV ids P now ser L st n) (hok : jnOk P x.toInt y.toInt) (hpx : p.1 = x.toInt.toNat) : (∀ ids' : List Nat, ids'.Nodup → (∀ u ∈ ids, u ∈ ids' ∧ ix ids' u = ix ids u) → y.toInt = -1 ∨ ∃ v : Nat, y.toInt = (v : Int) ∧ v ∈ ids' ∧ v ≠ p.1 ∧ (oI ((ups P y.toInt).map (fun p => ix ids p.2.1))).toInt = ((ix ids' v : Nat) : Int)) ∧ ∀ (ids' : List Nat) (M : Nat), p.1 ∈ ids' → p.2.2.2.1.2.2.1 < 256 → (∀ D ∈ L, okD ids' D) → (y.toInt ≠ -1 → ∃ s, tbk ids' p.1 s (seeB [(0, 256, now, [])] p.1 y.toInt.toNat now)) → pok ids' now M (jnX now ser p y.toInt L).1 ∧ (∀ D ∈ (jnX now ser p y.toInt L).2.2, okD ids' D) ∧ (jnX now ser p y.toInt L).1.1 = p.1 ∧ (jnX now ser p y.toInt L).2.1 ≤ ser + 1 := by
  have h12 := hw.1.2.1
  obtain ⟨hx, hux, hyo, hfl⟩ := hok
  have hxN : x.toInt = ((x.toInt.toNat : Nat) : Int) := by omega
  have hyv : ∀ ids' : List Nat, ids'.Nodup → (∀ u ∈ ids, u ∈ ids' ∧ ix ids' u = ix ids u) → y.toInt = -1 ∨ ∃ v : Nat, y.toInt = (v : Int) ∧ v ∈ ids' ∧ v ≠ p.1 ∧ (oI ((ups P y.toInt).map (fun p => ix ids p.2.1))).toInt = ((ix ids' v : Nat) : Int) := by
    intro ids' hn' hsub
    rcases hyo with hy | hy
    · exact Or.inl hy
    · cases hu : ups P y.toInt with
      | none => exact absurd hu hy
      | some q =>
        obtain ⟨-, -, qv, qk, -, c1, c2, c3⟩ := up_some hw hI hu
        refine Or.inr ⟨q.2.1, qv.symm, (hsub _ qk.1.2).1, fun e => ?_, ?_⟩
        · have : y.toInt = x.toInt := by rw [← qv, e, hpx, ← hxN]
          rw [this, hux] at hu
          cases hu
        · rw [Option.map_some, oI_some (by omega), (hsub _ qk.1.2).2]
  have hv256 : y.toInt ≠ -1 → y.toInt.toNat < 256 := fun hy => by
    rcases hyo with e | e
    · exact absurd e hy
    · cases hu : ups P y.toInt with
      | none => exact absurd hu e
      | some q =>
        obtain ⟨-, -, qv, qk, -⟩ := up_some hw hI hu
        have := qk.1.1
        omega
  have hpk : ∀ (ids' : List Nat) (M : Nat), p.1 ∈ ids' → p.2.2.2.1.2.2.1 < 256 → (∀ D ∈ L, okD ids' D) → (y.toInt ≠ -1 → ∃ s, tbk ids' p.1 s (seeB [(0, 256, now, [])] p.1 y.toInt.toNat now)) → pok ids' now M (jnX now ser p y.toInt L).1 ∧ (∀ D ∈ (jnX now ser p y.toInt L).2.2, okD ids' D) ∧ (jnX now ser p y.toInt L).1.1 = p.1 ∧ (jnX now ser p y.toInt L).2.1 ≤ ser + 1 := by
    intro ids' M hpi htg hL htb
    have hp256 : p.1 < 256 := by omega
    unfold jnX
    by_cases hy : y.toInt = -1
    · rw [if_pos hy]
      exact ⟨anw_ok hp256 hpi htg, hL, rfl, by dsimp only; omega⟩
    · rw [if_neg hy]
      obtain ⟨q1, q2⟩ := strP_ok (ser := ser) (k := 0) (viaP_ok (M := M) hp256 hpi htg (hv256 hy) (htb hy)) hp256 hL
      exact ⟨q1, q2, rfl, by dsimp only; omega⟩
  exact ⟨hyv, hpk⟩
theorem r_join_k {J : Nat → Nat → Int32} {nx k b : Nat} {p : Pe} {q : Nat × Pe} (h : sM G m) (hw : RW J m ids P now ser L st) (hI : IV ids P now ser L st n) (hN : 400 ≤ N) (hn1 : n + 1 ≤ 512) (hok : jnOk P x.toInt y.toInt) (hk : (jnP P x.toInt.toNat nx)[k]? = some (b, p)) (hpx : p.1 = x.toInt.toNat) (hf : fp P x.toInt = some q) : ∃ J' ids' st', pX7_join_0 N m (mm_w G J) x y = some (mm_w G J', 1) ∧ RW J' m ids' ((jnP P x.toInt.toNat nx).set k (b, (jnX now ser p y.toInt L).1)) now (jnX now ser p y.toInt L).2.1 (jnX now ser p y.toInt L).2.2 st' ∧ IV ids' ((jnP P x.toInt.toNat nx).set k (b, (jnX now ser p y.toInt L).1)) now (jnX now ser p y.toInt L).2.1 (jnX now ser p y.toInt L).2.2 st' (n + 1) ∧ frM J J' m := by
  have h12 := hw.1.2.1
  have hlen := IV_len hI
  have hIb := hI.1
  have hkx := fp_ix (v := x.toInt) hw.1.2.2.1 hI.2.2.1
  have hxN : x.toInt = ((x.toInt.toNat : Nat) : Int) := by have := hok.1; omega
  rw [(r_join_p h hw hI hN).2 hok]
  obtain ⟨hyv, hpk⟩ := r_join_v hw hI hok hpx
  have hjp : jnP P x.toInt.toNat nx = P := by unfold jnP; rw [← hxN, hf]
  rw [hjp] at hk ⊢
  have hpm := List.mem_of_getElem? hk
  have pk : pok ids now (12 * n) p := hI.2.2.2.2.1 _ hpm
  obtain ⟨a1, a2, a3⟩ := ix_mem hw.1.2.2.1 pk.1.2
  have hkn : kn ids x.toInt = some (ix ids p.1) := by rw [hxN, ← hpx]; exact kn_at hw.1.2.2.1 a3
  have hIx := oI_some (n := ix ids p.1) (by omega)
  have hxp : x.toInt = (p.1 : Int) := by omega
  have hyi := hyv ids hw.1.2.2.1 (fun u hu => ⟨hu, rfl⟩)
  have hse : ser < 10000 := by omega
  have hst : st < 10000 := by omega
  obtain ⟨J', st', g1, g2, g3, g4, g5, g6, g7⟩ := r_join_c (N := N) (p := p) (x := x) (y := y) (x3 := oI ((ups P y.toInt).map (fun p => ix ids p.2.1))) (x4 := oI (some (ix ids p.1))) h hw.1 hN pk.1.2 hxp hIx hw.2.2.1 hw.2.1.1 hw.2.1.2.1 hw.2.1.2.2 hse hst (by
    rcases hyi with e | ⟨v, e1, e2, e3, e4⟩
    · exact Or.inl e
    · exact Or.inr ⟨v, e1, e2, e3, e4⟩)
  obtain ⟨t1, t2, t3, t4⟩ := hpk ids (12 * n) pk.1.2 pk.2.2.1.2.1 hI.2.2.2.2.2 g7
  clear hpk hyv
  generalize jnX now ser p y.toInt L = X at g2 g3 g4 t1 t2 t3 t4 ⊢
  refine ⟨J', ids, st', ?_, RW_upd hw hI.2.2.2.2.1 hI.2.2.2.1 hk g6 g4 g3 g5.1 g2, IV_set hI hn1 hk t3 t1 t2 (by omega) (by omega), g6.1⟩
  rw [hkn]
  unfold pX7_join_54
  rw [if_pos (by rw [zi_le, hIx, zi_0]; omega)]
  exact g1
theorem r_join_n {J : Nat → Nat → Int32} {nx k b : Nat} {p : Pe} (h : sM G m) (hw : RW J m ids P now ser L st) (hI : IV ids P now ser L st n) (hN : 400 ≤ N) (hn1 : n + 1 ≤ 512) (hok : jnOk P x.toInt y.toInt) (hk : (jnP P x.toInt.toNat nx)[k]? = some (b, p)) (hpx : p.1 = x.toInt.toNat) (hf : fp P x.toInt = none) : ∃ J' ids' st', pX7_join_0 N m (mm_w G J) x y = some (mm_w G J', 1) ∧ RW J' m ids' ((jnP P x.toInt.toNat nx).set k (b, (jnX now ser p y.toInt L).1)) now (jnX now ser p y.toInt L).2.1 (jnX now ser p y.toInt L).2.2 st' ∧ IV ids' ((jnP P x.toInt.toNat nx).set k (b, (jnX now ser p y.toInt L).1)) now (jnX now ser p y.toInt L).2.1 (jnX now ser p y.toInt L).2.2 st' (n + 1) ∧ frM J J' m := by
  have h12 := hw.1.2.1
  have hlen := IV_len hI
  have hIb := hI.1
  have hkx := fp_ix (v := x.toInt) hw.1.2.2.1 hI.2.2.1
  have hxN : x.toInt = ((x.toInt.toNat : Nat) : Int) := by have := hok.1; omega
  rw [(r_join_p h hw hI hN).2 hok]
  obtain ⟨hyv, hpk⟩ := r_join_v hw hI hok hpx
  have hfl := hok.2.2.2
  have hx := hok.1
  have hjp : jnP P x.toInt.toNat nx = enr P x.toInt.toNat nx := by unfold jnP; rw [← hxN, hf]
  rw [hjp] at hk ⊢
  have hne : ∀ q ∈ P, q.2.1 ≠ x.toInt.toNat := fun q hq e => by
    unfold fp at hf
    rw [List.find?_eq_none] at hf
    exact hf q hq (decide_eq_true (by rw [e]; exact hxN.symm))
  have hui : x.toInt.toNat ∉ ids := fun hc => by
    obtain ⟨q, q1, q2⟩ := List.mem_map.mp ((hI.2.2.1 _).mp hc)
    exact hne q q1 q2
  have hat : (enr P x.toInt.toNat nx)[eat P x.toInt.toNat]? = some (nx, p00 x.toInt.toNat) := by rw [enr_at, if_neg (by omega), if_pos rfl]
  have hke := pw_num (enr_srt (b := nx) hI.2.2.2.1 hne) hk hat hpx
  subst hke
  rw [hk] at hat
  cases hat
  have hl12 := hfl hf
  have hn' := ext_nodup hw.1.2.2.1 hui
  have hpi : x.toInt.toNat ∈ ids ++ [x.toInt.toNat] := List.mem_append_right _ List.mem_cons_self
  have hixn := ix_new hw.1.2.2.1 hui
  have hsub : ∀ u ∈ ids, u ∈ ids ++ [x.toInt.toNat] ∧ ix (ids ++ [x.toInt.toNat]) u = ix ids u := fun u hu => ⟨List.mem_append_left _ hu, ix_ext hw.1.2.2.1 hui hu⟩
  -- the row is written
  have hkn : kn ids x.toInt = none := by rw [hf, Option.map_none] at hkx; exact hkx
  generalize hJ0 : js (js J m 3 (J m 3 + 1)) (m + 1) ids.length x = J0
  have f0 : ∀ z j, (z ≠ m ∨ j ≠ 3) → (z ≠ m + 1 ∨ j ≠ ids.length) → J0 z j = J z j := fun z j z1 z2 => by rw [← hJ0, js_ne _ z2, js_ne _ z1]
  have hi0 : rid J0 m (ids ++ [x.toInt.toNat]) := by
    refine ⟨?_, by rw [List.length_append]; simp only [List.length_cons, List.length_nil]; omega, hn', fun j u hj => ?_⟩
    · rw [← hJ0, js_ne _ (Or.inl (by omega)), js_same, List.length_append]
      exact zi_inc hw.1.1 (by omega)
    · by_cases hjl : j < ids.length
      · rw [List.getElem?_append_left hjl] at hj
        rw [f0 _ _ (by omega) (by omega)]
        exact hw.1.2.2.2 j u hj
      · rw [List.getElem?_append_right (by omega)] at hj
        have : j = ids.length := by
          refine Decidable.byContradiction fun hne => ?_
          rw [show j - ids.length = (j - ids.length - 1) + 1 by omega] at hj
          cases hj
        subst this
        rw [Nat.sub_self] at hj
        cases hj
        rw [← hJ0, js_same]
        exact ⟨hxN, by omega⟩
  have hprog : pX7_join_54 N m (mm_w G J) x y (oI ((ups P y.toInt).map (fun p => ix ids p.2.1))) (oI (kn ids x.toInt)) = pX7_join_83 N m (mm_w G J0) x y (oI ((ups P y.toInt).map (fun p => ix ids p.2.1))) (J m 3) := by
    unfold pX7_join_54
    rw [hkn, if_neg (by rw [zi_le, oI_none, zi_0]; decide), w_gI h.1, w_gI h.1, w_pI h.1, gr_id h, w_nn, si_id h hw.1.1 (by omega), hJ0]
  have hR0 : ∀ q ∈ P, rpe J0 m (ids ++ [x.toInt.toNat]) st q.2 := fun q hq => by
    have qk := hI.2.2.2.2.1 q hq
    have hqx := (ix_mem hw.1.2.2.1 qk.1.2).1
    refine rpe_ext hw.1.2.2.1 hui qk (rpe_congr ⟨hw.1.2.2.1, h12⟩ qk (hw.2.2.2 q hq) ⟨fun z hz => f0 _ _ (by omega) (by omega), fun z hz j _ => f0 _ _ (by omega) (by omega), fun j _ => f0 _ _ (by omega) (by omega), fun z hz j _ => f0 _ _ (by omega) (by omega)⟩ (Nat.le_refl _))
  obtain ⟨J', st', g1, g2, g3, g4, g5, g6, g7⟩ := r_join_c (N := N) (p := p00 x.toInt.toNat) (x := x) (y := y) (x3 := oI ((ups P y.toInt).map (fun p => ix ids p.2.1))) (x4 := J m 3) h hi0 hN hpi hxN (by rw [show (p00 x.toInt.toNat).1 = x.toInt.toNat from rfl, hixn]; exact hw.1.1) (rlin_congr hw.2.2.1 (f0 _ _ (by omega) (by omega)) (fun _ => f0 _ _ (by omega) (by omega))) (by rw [f0 _ _ (by omega) (by omega)]; exact hw.2.1.1) (by rw [f0 _ _ (by omega) (by omega)]; exact hw.2.1.2.1) (by rw [f0 _ _ (by omega) (by omega)]; exact hw.2.1.2.2) (by omega) (by omega) (by
    rcases hyv _ hn' hsub with e | ⟨v, e1, e2, e3, e4⟩
    · exact Or.inl e
    · exact Or.inr ⟨v, e1, e2, e3, e4⟩)
  have g6' : frX J0 J' m ids.length := by
    have := g6
    rw [show (p00 x.toInt.toNat).1 = x.toInt.toNat from rfl, hixn] at this
    exact this
  have hLx : ∀ D ∈ L, okD (ids ++ [x.toInt.toNat]) D := fun D hD => okD_mono (hI.2.2.2.2.2 D hD) (fun u hu => List.mem_append_left _ hu)
  obtain ⟨t1, t2, t3, t4⟩ := hpk (ids ++ [x.toInt.toNat]) (12 * n) hpi (Nat.lt_of_lt_of_eq (Nat.zero_lt_succ 255) rfl) hLx g7
  clear hpk hyv
  generalize jnX now ser (p00 x.toInt.toNat) y.toInt L = X at g2 g3 g4 t1 t2 t3 t4 ⊢
  refine ⟨J', ids ++ [x.toInt.toNat], st', by rw [hprog]; exact g1, ⟨rid_congr hi0 g6'.2.1.1 g6'.2.1.2, g4, g3, fun r hr => ?_⟩, IV_enr hI hn1 (by rw [← hxN]; exact hf) (by omega) hl12 t3 t1 t2 (by omega) (by omega), fun z j hz => by rw [g6'.1 z j hz, f0 z j (by omega) (by omega)]⟩
  obtain ⟨j, hj⟩ := List.getElem?_of_mem hr
  rw [List.getElem?_set] at hj
  by_cases hje : eat P x.toInt.toNat = j
  · subst hje
    rw [if_pos rfl, if_pos (List.getElem?_eq_some_iff.mp hk).1] at hj
    cases hj
    exact g2
  · rw [if_neg hje, enr_at] at hj
    have hrP : r ∈ P := by
      split at hj
      · exact List.mem_of_getElem? hj
      · split at hj
        · rename_i h5
          exact absurd h5.symm hje
        · exact List.mem_of_getElem? hj
    have rk := hI.2.2.2.2.1 r hrP
    have hrx := (ix_mem hw.1.2.2.1 rk.1.2).1
    exact rpe_congr ⟨hn', by rw [List.length_append]; simp only [List.length_cons, List.length_nil]; omega⟩ (pok_mono rk (fun u hu => List.mem_append_left _ hu) (Nat.le_refl _)) (hR0 r hrP) (g6'.2.2 _ (by rw [(hsub _ rk.1.2).2]; omega)) g5.1
theorem r_join {J : Nat → Nat → Int32} (h : sM G m) (hw : RW J m ids P now ser L st) (hI : IV ids P now ser L st n) (hN : 400 ≤ N) (hn1 : n + 1 ≤ 512) : (¬ jnOk P x.toInt y.toInt → pX7_join_0 N m (mm_w G J) x y = some (mm_w G J, 0)) ∧ (jnOk P x.toInt y.toInt → ∀ (nx k b : Nat) (p : Pe), (jnP P x.toInt.toNat nx)[k]? = some (b, p) → p.1 = x.toInt.toNat → ∃ J' ids' st', pX7_join_0 N m (mm_w G J) x y = some (mm_w G J', 1) ∧ RW J' m ids' ((jnP P x.toInt.toNat nx).set k (b, (jnX now ser p y.toInt L).1)) now (jnX now ser p y.toInt L).2.1 (jnX now ser p y.toInt L).2.2 st' ∧ IV ids' ((jnP P x.toInt.toNat nx).set k (b, (jnX now ser p y.toInt L).1)) now (jnX now ser p y.toInt L).2.1 (jnX now ser p y.toInt L).2.2 st' (n + 1) ∧ frM J J' m) := by
  refine ⟨(r_join_p h hw hI hN).1, fun hok nx k b p hk hpx => ?_⟩
  cases hf : fp P x.toInt with
  | some q => exact r_join_k h hw hI hN hn1 hok hk hpx hf
  | none => exact r_join_n h hw hI hN hn1 hok hk hpx hf
end RJOIN2
