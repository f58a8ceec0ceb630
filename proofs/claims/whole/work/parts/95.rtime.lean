/-! the reference's time -/
def cel (J : Nat → Nat → Int32) (m i j : Nat) (e : En) : Prop := (J (m + 9) (6 * i + j)).toInt = (e.1 : Int) ∧ (J (m + 10) (6 * i + j)).toInt = (e.2.1 : Int) ∧ (J (m + 11) (6 * i + j)).toInt = (e.2.2 : Int)
section REXP
variable {G : mm_M} {m N i now : Nat} {x1 : Int32}
theorem r_exp_l {E : List En} {kx : mm_M → Int32 → Int32 → Option (mm_M × Unit)} (h : sM G m) (hi12 : i < 12) (h1 : x1.toInt = (i : Int)) (h6 : E.length ≤ 6) (hE : ∀ e ∈ E, now ≤ e.2.2) : ∀ (r n k : Nat) (y z : Int32) (J : Nat → Nat → Int32), z.toInt = (k : Int) → y.toInt = (((E.take k).filter (live now)).length : Int) → k + r = E.length → r < n → (J m 0).toInt = (now : Int) → (J (m + 8) i).toInt = (E.length : Int) → (∀ (j : Nat) (e : En), ((E.take k).filter (live now))[j]? = some e → cel J m i j e) → (∀ (j : Nat) (e : En), k ≤ j → E[j]? = some e → cel J m i j e) → ∃ J' y', pX7_expire_4 N m kx n (mm_w G J) x1 y z = kx (mm_w G J') x1 y' ∧ y'.toInt = ((E.filter (live now)).length : Int) ∧ (∀ (j : Nat) (e : En), (E.filter (live now))[j]? = some e → cel J' m i j e) ∧ ∀ z j, ((z ≠ m + 9 ∧ z ≠ m + 10 ∧ z ≠ m + 11) ∨ j < 6 * i ∨ 6 * i + 6 ≤ j) → J' z j = J z j := by
  intro r
  induction r with
  | zero =>
    intro n k y z J hz hy hk hn hc he hF hR
    obtain ⟨n, rfl⟩ : ∃ m, n = m + 1 := ⟨n - 1, by omega⟩
    rw [List.take_of_length_le (by omega)] at hy hF
    refine ⟨J, y, ?_, hy, hF, fun _ _ _ => rfl⟩
    show pX7_expire_4_b N m _ kx _ x1 y z = _
    unfold pX7_expire_4_b
    rw [gr_entries h, w_nn, ai_entries h h1 hi12, if_pos (by rw [zi_le, he, hz]; omega)]
  | succ r ih =>
    intro n k y z J hz hy hk hn hc he hF hR
    obtain ⟨n, rfl⟩ : ∃ m, n = m + 1 := ⟨n - 1, by omega⟩
    have hlt : k < E.length := by omega
    have hks := List.getElem?_eq_getElem hlt
    obtain ⟨e1, e2, e3⟩ := hR k _ (Nat.le_refl _) hks
    have hge := hE _ (List.getElem_mem hlt)
    have hFl := fil_len2 (L := E) (P := live now) k
    have hx3 := zi_6i h1 hz hi12 (by omega)
    have htk : (E.take (k + 1)).filter (live now) = (E.take k).filter (live now) ++ (if live now E[k] = true then [E[k]] else []) := by
      rw [take_s2 hlt, List.filter_append]
      congr 1
      by_cases hl : live now E[k] = true
      · rw [if_pos hl, List.filter_cons, if_pos hl, List.filter_nil]
      · rw [if_neg hl, List.filter_cons, if_neg hl, List.filter_nil]
    show ∃ J' y', pX7_expire_4_b N m _ kx _ x1 y z = _ ∧ _
    unfold pX7_expire_4_b
    rw [gr_entries h, w_nn, ai_entries h h1 hi12, if_neg (by rw [zi_le, he, hz]; omega), gr_until h, w_nn, ai_until h hx3 (by omega), w_gI h.1]
    by_cases hl : now < E[k].2.2
    · have hx2 := zi_6i h1 hy hi12 (by omega)
      rw [if_pos (show live now E[k] = true from decide_eq_true hl)] at htk
      rw [if_neg (by rw [zi_eq, e3, hc]; omega), gr_key h, gr_key h, w_nn, ai_key h hx3 (by omega), w_nn, si_key h hx2 (by omega), gr_holder h, gr_holder h, w_nn, ai_holder h hx3 (by omega), js_ne (a := m + 9) (b := m + 10) _ (Or.inl (by omega)), w_nn, si_holder h hx2 (by omega), gr_until h, gr_until h, w_nn, ai_until h hx3 (by omega), js_ne (a := m + 10) (b := m + 11) _ (Or.inl (by omega)), js_ne (a := m + 9) (b := m + 11) _ (Or.inl (by omega)), w_nn, si_until h hx2 (by omega)]
      generalize hK : ((E.take k).filter (live now)).length = K at hy hFl hx2
      generalize hJ1 : js (js (js J (m + 9) (6 * i + K) (J (m + 9) (6 * i + k))) (m + 10) (6 * i + K) (J (m + 10) (6 * i + k))) (m + 11) (6 * i + K) (J (m + 11) (6 * i + k)) = J1
      have a9 : J1 (m + 9) (6 * i + K) = J (m + 9) (6 * i + k) := by rw [← hJ1, js_ne _ (Or.inl (by omega)), js_ne _ (Or.inl (by omega)), js_same]
      have a10 : J1 (m + 10) (6 * i + K) = J (m + 10) (6 * i + k) := by rw [← hJ1, js_ne _ (Or.inl (by omega)), js_same]
      have a11 : J1 (m + 11) (6 * i + K) = J (m + 11) (6 * i + k) := by rw [← hJ1, js_same]
      have f1 : ∀ z j, ((z ≠ m + 9 ∧ z ≠ m + 10 ∧ z ≠ m + 11) ∨ j ≠ 6 * i + K) → J1 z j = J z j := fun z j hz => by rw [← hJ1, js_ne _ (by omega), js_ne _ (by omega), js_ne _ (by omega)]
      obtain ⟨J', y', g1, g2, g3, g4⟩ := ih n (k + 1) (y + 1) (z + 1) J1 (zi_inc hz (by omega)) (by rw [htk, List.length_append, hK]; exact zi_inc hy (by omega)) (by omega) (by omega) (by rw [f1 _ _ (by omega)]; exact hc) (by rw [f1 _ _ (by omega)]; exact he) (fun j e hj => by
        rw [htk] at hj
        by_cases hjl : j < K
        · rw [List.getElem?_append_left (by omega)] at hj
          unfold cel
          rw [f1 _ _ (by omega), f1 _ _ (by omega), f1 _ _ (by omega)]
          exact hF j e hj
        · rw [List.getElem?_append_right (by omega)] at hj
          have : j = K := by
            refine Decidable.byContradiction fun hne => ?_
            rw [hK, show j - K = (j - K - 1) + 1 by omega] at hj
            cases hj
          subst this
          rw [hK, Nat.sub_self] at hj
          cases hj
          unfold cel
          rw [a9, a10, a11]
          exact ⟨e1, e2, e3⟩) (fun j e hj hje => by
        unfold cel
        rw [f1 _ _ (by omega), f1 _ _ (by omega), f1 _ _ (by omega)]
        exact hR j e (by omega) hje)
      exact ⟨J', y', g1, g2, g3, fun z j hz => by rw [g4 z j hz, f1 z j (by omega)]⟩
    · rw [if_neg (show ¬ live now E[k] = true from fun e => hl (of_decide_eq_true e)), List.append_nil] at htk
      rw [if_pos (by rw [zi_eq, e3, hc]; omega)]
      exact ih n (k + 1) y (z + 1) J (zi_inc hz (by omega)) (by rw [htk]; exact hy) (by omega) (by omega) hc he (by rw [htk]; exact hF) (fun j e hj hje => hR j e (by omega) hje)
theorem r_expire {E : List En} {J : Nat → Nat → Int32} (h : sM G m) (hi12 : i < 12) (hN : 400 ≤ N) (h1 : x1.toInt = (i : Int)) (h6 : E.length ≤ 6) (hE : ∀ e ∈ E, now ≤ e.2.2) (hc : (J m 0).toInt = (now : Int)) (he : ren J m i E) : ∃ J', pX7_expire_0 N m (mm_w G J) x1 = some (mm_w G J', ()) ∧ ren J' m i (E.filter (live now)) ∧ fre J J' m i := by
  unfold pX7_expire_0
  obtain ⟨J1, y1, g1, g2, g3, g4⟩ := r_exp_l (N := N) (kx := fun (G : mm_M) (x1 : Int32) (x2 : Int32) => q_gR G m 8 11 fun r108_23 => q_nn r108_23 fun b113_24 => q_sI G b113_24 101 x1 x2 fun G => some (G, ())) h hi12 h1 h6 hE E.length N 0 0 0 J zi_0 (by rw [List.take_zero]; rfl) (by omega) (by omega) hc he.1 (fun j e hj => by rw [List.take_zero] at hj; cases hj) (fun j e _ hj => he.2 j e hj)
  rw [g1, gr_entries h, w_nn, si_entries h h1 hi12]
  refine ⟨_, rfl, ⟨by rw [js_same]; exact g2, fun j e hj => ?_⟩, fun z j z1 z2 => by rw [js_ne _ z1, g4 z j z2]⟩
  rw [js_ne _ (Or.inl (by omega)), js_ne _ (Or.inl (by omega)), js_ne _ (Or.inl (by omega))]
  exact g3 j e hj
end REXP
/-! misses, all at once -/
def bmp (U : Nat → Bool) (c : Nat × Nat) : Nat × Nat := (c.1, c.2 + if U c.1 = true then 1 else 0)
def bmb (U : Nat → Bool) (b : Bk) : Bk := (b.1, b.2.1, b.2.2.1, b.2.2.2.map (bmp U))
theorem bmp_id {U : Nat → Bool} {L : List (Nat × Nat)} (h : ∀ c ∈ L, U c.1 = false) : L.map (bmp U) = L := by
  have : L.map (bmp U) = L.map id := by
    apply List.map_congr_left
    intro c hc
    unfold bmp
    rw [h c hc]
    rfl
  rw [this, List.map_id]
theorem addm_bmp {L : List (Nat × Nat)} {u : Nat} (hn : (L.map Prod.fst).Nodup) : addm L u = L.map (bmp (fun v => decide (v = u))) := by
  unfold addm
  cases hp : pl L u with
  | none => exact (bmp_id (fun c hc => decide_eq_false (pl_none' hp c hc))).symm
  | some j =>
    obtain ⟨p, p1, p2, p3⟩ := pl_some hp
    dsimp only
    apply List.ext_getElem?
    intro q
    rw [List.getElem?_modify, List.getElem?_map]
    cases hq : L[q]? with
    | none => rfl
    | some c =>
      by_cases hjq : j = q
      · subst hjq
        rw [p1] at hq
        cases hq
        simp [bmp, p2]
      · have hne : c.1 ≠ u := fun e => by
          have h1 : (L.map Prod.fst)[j]? = some u := by rw [List.getElem?_map, p1, ← p2]; rfl
          have h2 : (L.map Prod.fst)[q]? = some u := by rw [List.getElem?_map, hq, ← e]; rfl
          exact hjq (nodup_idx hn h1 h2)
        simp [bmp, hjq, hne]
theorem misB_bmp {ids : List Nat} {nr s u : Nat} {bs : List Bk} (h : tbk ids nr s bs) (hn : nr < 256) (hu : u < 256) : misB bs u = bs.map (bmb (fun v => decide (v = u))) := by
  have hk := rng_lt (bs := bs) u (tbk_len h).1
  have hb := bg_at hk
  have hx := rng_bo h.2.1 h.1 hn hu
  unfold misB
  apply List.ext_getElem?
  intro q
  rw [List.getElem?_set, List.getElem?_map]
  by_cases hq : rng bs u = q
  · subst hq
    rw [if_pos rfl, if_pos hk, hb, Option.map_some, addm_bmp (h.2.2 _ _ _ hx hb).1]
    rfl
  · rw [if_neg hq]
    cases hbq : bs[q]? with
    | none => rfl
    | some b =>
      obtain ⟨x, x1, -⟩ := tbk_x h hbq
      have : b.2.2.2.map (bmp (fun v => decide (v = u))) = b.2.2.2 := bmp_id (fun c hc => decide_eq_false (fun e => by
        have := ((h.2.2 _ _ _ x1 hbq).2.2 c hc).1
        rw [e] at this
        rw [this] at hx
        exact hq (ordr_inj hx x1)))
      rw [Option.map_some]
      unfold bmb
      rw [this]
def silU (now : Nat) (C : List Cd) (v : Nat) : Bool := C.any (fun c => decide (c.1 = v) && sil now c)
theorem gvF_bmp {ids : List Nat} {nr s now : Nat} (hn : nr < 256) : ∀ (C : List Cd) (bs : List Bk), (C.map Prod.fst).Nodup → (∀ c ∈ C, c.1 < 256) → tbk ids nr s bs → C.foldl (gvB now) bs = bs.map (bmb (silU now C))
  | [], bs, _, _, h => by
    show bs = _
    have : bs.map (bmb (silU now [])) = bs.map id := by
      apply List.map_congr_left
      intro b _
      unfold bmb
      rw [bmp_id (fun c _ => rfl)]
      rfl
    rw [this, List.map_id]
  | c :: C, bs, hnd, h256, h => by
    rw [List.map_cons, List.nodup_cons] at hnd
    rw [List.foldl_cons]
    have hnot : ∀ v, v = c.1 → silU now C v = false := fun v hv => by
      unfold silU
      rw [List.any_eq_false]
      intro d hd
      simp only [Bool.and_eq_true, decide_eq_true_eq, not_and]
      intro e
      exact absurd (List.mem_map.mpr ⟨d, hd, e.trans hv⟩) hnd.1
    unfold gvB
    by_cases hs : sil now c = true
    · rw [if_pos hs]
      have h1 := gvF_bmp (now := now) hn C (misB bs c.1) hnd.2 (fun d hd => h256 d (List.mem_cons_of_mem _ hd)) (tbk_mis h)
      unfold gvB at h1
      rw [h1, misB_bmp h hn (h256 c List.mem_cons_self), List.map_map]
      apply List.map_congr_left
      intro b _
      unfold bmb
      simp only [Function.comp, List.map_map]
      congr 3
      apply List.map_congr_left
      intro d _
      unfold bmp
      simp only [Function.comp]
      congr 1
      have e : silU now (c :: C) d.1 = (decide (c.1 = d.1) || silU now C d.1) := by
        unfold silU
        rw [List.any_cons, hs, Bool.and_true]
      rw [e]
      by_cases hd : d.1 = c.1
      · rw [hnot _ hd]
        simp [hd]
      · have : ¬ c.1 = d.1 := fun e => hd e.symm
        simp [hd, this]
    · rw [if_neg hs]
      have h1 := gvF_bmp (now := now) hn C bs hnd.2 (fun d hd => h256 d (List.mem_cons_of_mem _ hd)) h
      unfold gvB at h1
      rw [h1]
      apply List.map_congr_left
      intro b _
      have e : silU now (c :: C) = silU now C := by
        funext v
        unfold silU
        rw [List.any_cons, show sil now c = false by simpa using hs, Bool.and_false, Bool.false_or]
      rw [e]
theorem cns_bmb {U : Nat → Bool} {bs : List Bk} : cns (bs.map (bmb U)) = cns bs := by
  unfold cns
  rw [List.flatMap_map]
  congr 1
  funext b
  show (b.2.2.2.map (bmp U)).map Prod.fst = _
  rw [List.map_map]
  rfl
