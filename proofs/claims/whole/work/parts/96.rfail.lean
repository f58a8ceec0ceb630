/-! the reference gives up on the silent -/
def fq (S : Nat → Nat) (a : Nat → Int) (now q : Nat) : Bool := decide (S q = 2) && decide (4 ≤ (now : Int) - a q)
section RFAIL
variable {G : mm_M} {m N i now : Nat} {ids : List Nat} {x1 : Int32}
theorem r_fail_l {S : Nat → Nat} {a : Nat → Int} {M : Nat → Bool} {n0 : Nat} {kx : mm_M → Int32 → Option (mm_M × Int32)} (h : sM G m) (hi12 : i < 12) (h1 : x1.toInt = (i : Int)) (hn0 : n0 ≤ 12) (hnow : now < 10000) (ha : ∀ q, S q = 2 → -1 ≤ a q ∧ a q ≤ (now : Int)) : ∀ (r n k c : Nat) (y z : Int32) (J : Nat → Nat → Int32), z.toInt = (k : Int) → y.toInt = (c : Int) → c ≤ k → k + r = n0 → r < n → (J m 3).toInt = (n0 : Int) → (J m 0).toInt = (now : Int) → (∀ q, k ≤ q → q < 12 → (J (m + 16) (12 * i + q)).toInt = (S q : Int)) → (∀ q, S q = 2 → q < 12 → (J (m + 17) (12 * i + q)).toInt = a q) → (∀ q, q < 12 → (J (m + 3) (12 * i + q)).toInt = if M q = true then 1 else 0) → (∀ q, k ≤ q → q < 12 → M q = true → -1 ≤ (J (m + 5) (12 * i + q)).toInt ∧ (J (m + 5) (12 * i + q)).toInt ≤ 100000) → ∃ J' y', pX7_fail_4 N m kx n (mm_w G J) x1 y z = kx (mm_w G J') y' ∧ y'.toInt = ((c + cn (fq S a now) k r : Nat) : Int) ∧ (∀ q, k ≤ q → q < k + r → (J' (m + 16) (12 * i + q)).toInt = (if fq S a now q = true then 4 else (S q : Int)) ∧ (M q = true → (J' (m + 5) (12 * i + q)).toInt = (J (m + 5) (12 * i + q)).toInt + if fq S a now q = true then 1 else 0)) ∧ ∀ z j, ((z ≠ m + 16 ∧ z ≠ m + 5) ∨ j < 12 * i + k ∨ 12 * i + (k + r) ≤ j) → J' z j = J z j := by
  intro r
  induction r with
  | zero =>
    intro n k c y z J hz hy hc hk hn h3 h0 hS hA hM hm
    obtain ⟨n, rfl⟩ : ∃ m, n = m + 1 := ⟨n - 1, by omega⟩
    refine ⟨J, y, ?_, hy, fun q q1 q2 => by omega, fun _ _ _ => rfl⟩
    show pX7_fail_4_b N m _ kx _ x1 y z = _
    unfold pX7_fail_4_b
    rw [w_gI h.1, if_pos (by rw [zi_le, h3, hz]; omega)]
  | succ r ih =>
    intro n k c y z J hz hy hc hk hn h3 h0 hS hA hM hm
    obtain ⟨n, rfl⟩ : ∃ m, n = m + 1 := ⟨n - 1, by omega⟩
    have hx := zi_12i h1 hz hi12 (by omega)
    have hSk := hS k (Nat.le_refl _) (by omega)
    have hcn : cn (fq S a now) k (r + 1) = (if fq S a now k = true then 1 else 0) + cn (fq S a now) (k + 1) r := rfl
    show ∃ J' y', pX7_fail_4_b N m _ kx _ x1 y z = _ ∧ _
    unfold pX7_fail_4_b
    rw [w_gI h.1, if_neg (by rw [zi_le, h3, hz]; omega), gr_state h, w_nn, ai_state h hx (by omega)]
    have stay : fq S a now k = false → ∀ Q, Q = pX7_fail_4 N m kx n (mm_w G J) x1 y (z + 1) → ∃ J' y', Q = kx (mm_w G J') y' ∧ y'.toInt = ((c + cn (fq S a now) k (r + 1) : Nat) : Int) ∧ (∀ q, k ≤ q → q < k + (r + 1) → (J' (m + 16) (12 * i + q)).toInt = (if fq S a now q = true then 4 else (S q : Int)) ∧ (M q = true → (J' (m + 5) (12 * i + q)).toInt = (J (m + 5) (12 * i + q)).toInt + if fq S a now q = true then 1 else 0)) ∧ ∀ z j, ((z ≠ m + 16 ∧ z ≠ m + 5) ∨ j < 12 * i + k ∨ 12 * i + (k + (r + 1)) ≤ j) → J' z j = J z j := by
      intro hf Q hQ
      obtain ⟨J', y', g1, g2, g3, g4⟩ := ih n (k + 1) c y (z + 1) J (zi_inc hz (by omega)) hy (by omega) (by omega) (by omega) h3 h0 (fun q q1 q2 => hS q (by omega) q2) hA hM (fun q q1 q2 => hm q (by omega) q2)
      refine ⟨J', y', hQ.trans g1, by rw [hcn, hf, g2]; simp, fun q q1 q2 => ?_, fun z j hz => g4 z j (by omega)⟩
      by_cases hqk : q = k
      · subst hqk
        rw [g4 _ _ (by omega), g4 _ _ (by omega), hf, hSk]
        simp
      · exact g3 q (by omega) (by omega)
    by_cases h2 : S k = 2
    · have hak := hA k h2 (by omega)
      have har := ha k h2
      rw [if_pos (by rw [zi_eq, hSk, zi_2]; omega), w_gI h.1, gr_asked h, w_nn, ai_asked h hx (by omega)]
      have hsub : (J m 0 - J (m + 17) (12 * i + k)).toInt = (now : Int) - a k := by
        rw [zi_sub h0 hak (by omega) (by omega)]
      by_cases h4 : 4 ≤ (now : Int) - a k
      · have hf : fq S a now k = true := by unfold fq; rw [decide_eq_true h2, decide_eq_true h4]; rfl
        rw [if_neg (by rw [zi_lt, hsub, zi_4]; omega), gr_state h, w_nn, si_state h hx (by omega), gr_misses h, gr_member h, w_nn, ai_member h hx (by omega), js_ne (a := m + 16) (b := m + 3) _ (Or.inl (by omega))]
        have hMk := hM k (by omega)
        have main : ∀ v : Int32, (M k = true → v.toInt = (J (m + 5) (12 * i + k)).toInt + 1) → ∃ J' y', pX7_fail_4 N m kx n (mm_w G (js (js J (m + 16) (12 * i + k) 4) (m + 5) (12 * i + k) v)) x1 (y + 1) (z + 1) = kx (mm_w G J') y' ∧ y'.toInt = ((c + cn (fq S a now) k (r + 1) : Nat) : Int) ∧ (∀ q, k ≤ q → q < k + (r + 1) → (J' (m + 16) (12 * i + q)).toInt = (if fq S a now q = true then 4 else (S q : Int)) ∧ (M q = true → (J' (m + 5) (12 * i + q)).toInt = (J (m + 5) (12 * i + q)).toInt + if fq S a now q = true then 1 else 0)) ∧ ∀ z j, ((z ≠ m + 16 ∧ z ≠ m + 5) ∨ j < 12 * i + k ∨ 12 * i + (k + (r + 1)) ≤ j) → J' z j = J z j := by
          intro v hv
          generalize hJ1 : js (js J (m + 16) (12 * i + k) 4) (m + 5) (12 * i + k) v = J1
          have f1 : ∀ z j, ((z ≠ m + 16 ∧ z ≠ m + 5) ∨ j ≠ 12 * i + k) → J1 z j = J z j := fun z j hz => by rw [← hJ1, js_ne _ (by omega), js_ne _ (by omega)]
          have a16 : J1 (m + 16) (12 * i + k) = 4 := by rw [← hJ1, js_ne _ (Or.inl (by omega)), js_same]
          have a5 : J1 (m + 5) (12 * i + k) = v := by rw [← hJ1, js_same]
          obtain ⟨J', y', g1, g2, g3, g4⟩ := ih n (k + 1) (c + 1) (y + 1) (z + 1) J1 (zi_inc hz (by omega)) (zi_inc hy (by omega)) (by omega) (by omega) (by omega) (by rw [f1 _ _ (by omega)]; exact h3) (by rw [f1 _ _ (by omega)]; exact h0) (fun q q1 q2 => by rw [f1 _ _ (by omega)]; exact hS q (by omega) q2) (fun q q1 q2 => by rw [f1 _ _ (by omega)]; exact hA q q1 q2) (fun q q1 => by rw [f1 _ _ (by omega)]; exact hM q q1) (fun q q1 q2 => by rw [f1 _ _ (by omega)]; exact hm q (by omega) q2)
          refine ⟨J', y', g1, by rw [hcn, hf, g2, if_pos rfl, Nat.add_assoc], fun q q1 q2 => ?_, fun z j hz => by rw [g4 z j (by omega), f1 z j (by omega)]⟩
          by_cases hqk : q = k
          · subst hqk
            rw [g4 _ _ (by omega), g4 _ _ (by omega), hf, a16, a5, if_pos rfl, if_pos rfl]
            exact ⟨rfl, hv⟩
          · obtain ⟨b1, b2⟩ := g3 q (by omega) (by omega)
            refine ⟨b1, fun hq => ?_⟩
            rw [b2 hq, f1 _ _ (by omega)]
        cases hm2 : M k with
        | false =>
          rw [hm2] at hMk
          rw [if_pos (by rw [zi_eq, hMk, zi_0]; decide), w_nn, si_misses h hx (by omega)]
          exact main 0 (fun e => by rw [hm2] at e; cases e)
        | true =>
          rw [hm2] at hMk
          have hmb := hm k (Nat.le_refl _) (by omega) hm2
          rw [if_neg (by rw [zi_eq, hMk, zi_0]; decide), gr_misses h, w_nn, ai_misses h hx (by omega), js_ne (a := m + 16) (b := m + 5) _ (Or.inl (by omega)), w_nn, si_misses h hx (by omega)]
          exact main (J (m + 5) (12 * i + k) + 1) (fun _ => zi_add rfl zi_1 (by omega) (by omega))
      · rw [if_pos (by rw [zi_lt, hsub, zi_4]; omega)]
        exact stay (by unfold fq; rw [decide_eq_false h4, Bool.and_false]) _ rfl
    · rw [if_neg (by rw [zi_eq, hSk, zi_2]; omega)]
      exact stay (by unfold fq; rw [decide_eq_false h2, Bool.false_and]) _ rfl
theorem rtb_bmp {J J' : Nat → Nat → Int32} {nr s st : Nat} {bs : List Bk} {U : Nat → Bool} (hn : ids.Nodup) (h12 : ids.length ≤ 12) (h : rtb J m i ids nr s bs st) (hb : tbk ids nr s (bs.map (bmb U))) (h1 : J' (m + 1) i = J (m + 1) i) (h6 : J' (m + 6) i = J (m + 6) i) (hj : ∀ j, j < 12 → J' (m + 3) (12 * i + j) = J (m + 3) (12 * i + j) ∧ J' (m + 4) (12 * i + j) = J (m + 4) (12 * i + j)) (h5 : ∀ u ∈ cns bs, (J' (m + 5) (12 * i + ix ids u)).toInt = (J (m + 5) (12 * i + ix ids u)).toInt + if U u = true then 1 else 0) (h7 : ∀ y, y < 9 → J' (m + 7) (9 * i + y) = J (m + 7) (9 * i + y)) : rtb J' m i ids nr s (bs.map (bmb U)) st := by
  obtain ⟨ht, hr, hc⟩ := h
  have hs8 := ht.1
  refine ⟨hb, ⟨⟨by rw [h1]; exact hr.1.1, hr.1.2⟩, ⟨by rw [h6]; exact hr.2.1.1, hr.2.1.2⟩, fun j' hj' => ?_⟩, fun k x b hx hbk => ?_⟩
  · rw [(hj j' hj').1, hr.2.2 j' hj']
    unfold mB
    rw [cns_bmb]
  · have hx8 := ordr_mem.mp (List.mem_of_getElem? hx)
    rw [List.getElem?_map] at hbk
    cases hbq : bs[k]? with
    | none => rw [hbq] at hbk; cases hbk
    | some b0 =>
      rw [hbq] at hbk
      cases hbk
      obtain ⟨a1, a2, a3⟩ := hc k x b0 hx hbq
      have hiy : ∀ c ∈ b0.2.2.2, ix ids c.1 < 12 := fun c hcm => by
        have := (ix_mem hn ((ht.2.2 k x b0 hx hbq).2.2 c hcm).2.1).1
        omega
      refine ⟨by rw [h7 x (by omega)]; exact a1, fun c hcm => ?_, ?_⟩
      · obtain ⟨d, d1, rfl⟩ := List.mem_map.mp hcm
        have e : (bmp U d).1 = d.1 := rfl
        rw [e, h5 d.1 (cns_iff.mpr ⟨k, b0, hbq, d, d1, rfl⟩), (hj _ (hiy d d1)).2, (a2 d d1).1]
        refine ⟨?_, (a2 d d1).2⟩
        unfold bmp
        dsimp only
        split <;> omega
      · show (b0.2.2.2.map (bmp U)).Pairwise _
        rw [List.pairwise_map]
        refine List.Pairwise.imp_of_mem (fun {c d} hcm hdm h => ?_) a3
        have e1 : (bmp U c).1 = c.1 := rfl
        have e2 : (bmp U d).1 = d.1 := rfl
        rw [e1, e2, (hj _ (hiy c hcm)).2, (hj _ (hiy d hdm)).2]
        exact h
theorem cfd_gv {C : List Cd} {u : Nat} : cfd (C.map (gv1 now)) u = (cfd C u).map (gv1 now) := by
  unfold cfd
  rw [List.find?_map]
  congr 2
  funext c
  simp only [Function.comp, gv1_fst]
theorem cS_gv {C : List Cd} {j : Nat} (hj : j < ids.length) : cS ids (C.map (gv1 now)) j = match cfd C (idg ids j) with | some c => if sil now c = true then 4 else c.2.1 + 1 | none => 0 := by
  unfold cS
  rw [if_pos hj, cfd_gv]
  cases cfd C (idg ids j) with
  | none => rfl
  | some c =>
    simp only [Option.map_some]
    unfold gv1
    split <;> rfl
theorem silU_ix {C : List Cd} {t u : Nat} (hs : srtC t C) : silU now C u = match cfd C u with | some c => sil now c | none => false := by
  unfold silU
  cases hc : cfd C u with
  | none =>
    dsimp only
    rw [List.any_eq_false]
    intro d hd
    simp only [Bool.and_eq_true, decide_eq_true_eq, not_and]
    intro e
    exact absurd e (cfd_none hc d hd)
  | some c =>
    obtain ⟨c1, c2⟩ := cfd_some hc
    dsimp only
    cases hsc : sil now c with
    | true =>
      rw [List.any_eq_true]
      exact ⟨c, c1, by rw [hsc, decide_eq_true c2]; rfl⟩
    | false =>
      rw [List.any_eq_false]
      intro d hd
      simp only [Bool.and_eq_true, decide_eq_true_eq, not_and]
      intro e
      have := cfd_mem hs hd
      rw [e, hc] at this
      cases this
      rw [hsc]
      decide
theorem r_fail {J : Nat → Nat → Int32} {nr s st kd tg se M : Nat} {bs : List Bk} {C : List Cd} {H : List Nat} (h : sM G m) (hi : rid J m ids) (hi12 : i < ids.length) (hN : 400 ≤ N) (h1 : x1.toInt = (i : Int)) (hnow : now < 10000) (hc : (J m 0).toInt = (now : Int)) (hb : rtb J m i ids nr s bs st) (hq : ∀ b ∈ bs, qB M now b) (hM : M ≤ 40000) (hv : rlv J m i ids kd tg se C H) (hok : okC ids tg C) (hca : ∀ c ∈ C, -1 ≤ c.2.2.1 ∧ c.2.2.1 ≤ (now : Int)) : ∃ J' y', pX7_fail_0 N m (mm_w G J) x1 = some (mm_w G J', y') ∧ y'.toInt = ((C.countP (sil now) : Nat) : Int) ∧ rtb J' m i ids nr s (C.foldl (gvB now) bs) st ∧ rlv J' m i ids kd tg se (C.map (gv1 now)) H ∧ ∀ z j, ((z ≠ m + 16 ∧ z ≠ m + 5) ∨ j < 12 * i ∨ 12 * i + 12 ≤ j) → J' z j = J z j := by
  have h12 := hi.2.1
  have hn := hi.2.2.1
  have h256 : ∀ u ∈ ids, u < 256 := fun v hv => by
    obtain ⟨j, hj⟩ := List.getElem?_of_mem hv
    exact (hi.2.2.2 j v hj).2
  obtain ⟨⟨v1, v2, v3⟩, v4, v5, v6, v7, v8⟩ := hv
  have hA : ∀ q, cS ids C q = 2 → ∃ c ∈ C, q < ids.length ∧ cfd C (idg ids q) = some c ∧ c.2.1 = 1 ∧ q = ix ids c.1 := by
    intro q hq
    unfold cS at hq
    by_cases hql : q < ids.length
    · rw [if_pos hql] at hq
      cases hf : cfd C (idg ids q) with
      | none => rw [hf] at hq; simp at hq
      | some c =>
        rw [hf] at hq
        obtain ⟨c1, c2⟩ := cfd_some hf
        exact ⟨c, c1, hql, rfl, by dsimp only at hq; omega, by rw [c2, ix_idg hn hql]⟩
    · rw [if_neg hql] at hq; omega
  have hfq : ∀ q, q < ids.length → fq (cS ids C) (fun q => (J (m + 17) (12 * i + q)).toInt) now q = match cfd C (idg ids q) with | some c => sil now c | none => false := by
    intro q hql
    unfold fq
    cases hf : cfd C (idg ids q) with
    | none =>
      have : cS ids C q = 0 := by unfold cS; rw [if_pos hql, hf]
      rw [this]
      rfl
    | some c =>
      obtain ⟨c1, c2⟩ := cfd_some hf
      have hcs : cS ids C q = c.2.1 + 1 := by unfold cS; rw [if_pos hql, hf]
      have hqx : q = ix ids c.1 := by rw [c2, ix_idg hn hql]
      dsimp only
      unfold sil
      by_cases hc1 : c.2.1 = 1
      · have h5 := v5 c c1 hc1
        rw [← hqx] at h5
        have e1 : decide (cS ids C q = 2) = true := decide_eq_true (by omega)
        rw [e1, decide_eq_true hc1]
        simp only [h5]
      · rw [hcs, decide_eq_false (show ¬ c.2.1 + 1 = 2 by omega), decide_eq_false hc1, Bool.false_and, Bool.false_and]
  have hmis : ∀ q, 0 ≤ q → q < 12 → mB ids bs q = true → -1 ≤ (J (m + 5) (12 * i + q)).toInt ∧ (J (m + 5) (12 * i + q)).toInt ≤ 100000 := by
    intro q _ _ hmq
    unfold mB at hmq
    obtain ⟨e1, e2⟩ := of_decide_eq_true hmq
    obtain ⟨k, b, hbk, c, c1, c2⟩ := cns_iff.mp e2
    obtain ⟨x, x1, -⟩ := tbk_x hb.1 hbk
    have := ((hb.2.2 k x b x1 hbk).2.1 c c1).1
    rw [c2, ix_idg hn e1] at this
    have hb2 := ((hq b (List.mem_of_getElem? hbk)).2.2.1 c c1).2
    omega
  obtain ⟨J', y', g1, g2, g3, g4⟩ := r_fail_l (N := N) (S := cS ids C) (a := fun q => (J (m + 17) (12 * i + q)).toInt) (M := mB ids bs) (n0 := ids.length) (kx := fun (G : mm_M) (x2 : Int32) => some (G, x2)) h (by omega) h1 h12 hnow (fun q hq => by
    obtain ⟨c, c1, c2, c3, c4, c5⟩ := hA q hq
    have := v5 c c1 c4
    rw [← c5] at this
    rw [this]
    exact hca c c1) ids.length N 0 0 0 0 J zi_0 zi_0 (by omega) (by omega) (by omega) hi.1 hc (fun q _ q2 => v4 q q2) (fun q _ _ => rfl) hb.2.1.2.2 hmis
  have hcnt : cn (fq (cS ids C) (fun q => (J (m + 17) (12 * i + q)).toInt) now) 0 ids.length = C.countP (sil now) := by
    rw [List.countP_eq_length_filter, ← List.length_map (f := fun (c : Cd) => ix ids c.1)]
    apply cn_len
    · intro j
      constructor
      · intro hj
        obtain ⟨c, hcm, rfl⟩ := List.mem_map.mp hj
        obtain ⟨c1, c2⟩ := List.mem_filter.mp hcm
        obtain ⟨a1, a2, -⟩ := ix_mem hn (hok.2.1 c c1)
        refine ⟨a1, ?_⟩
        rw [hfq _ a1, a2, cfd_mem hok.1 c1]
        exact c2
      · intro ⟨hj, hqq⟩
        rw [hfq j hj] at hqq
        cases hf : cfd C (idg ids j) with
        | none => rw [hf] at hqq; cases hqq
        | some c =>
          rw [hf] at hqq
          obtain ⟨c1, c2⟩ := cfd_some hf
          exact List.mem_map.mpr ⟨c, List.mem_filter.mpr ⟨c1, hqq⟩, by rw [c2, ix_idg hn hj]⟩
    · have h1 : ((C.filter (sil now)).map Prod.fst).Nodup := List.Nodup.sublist (List.Sublist.map _ List.filter_sublist) (srtC_nodup hok.1)
      have h2 : (C.filter (sil now)).map (fun (c : Cd) => ix ids c.1) = ((C.filter (sil now)).map Prod.fst).map (ix ids) := by rw [List.map_map]; rfl
      rw [h2]
      unfold List.Nodup
      rw [List.pairwise_map]
      refine List.Pairwise.imp_of_mem (fun {a b} ha hb h => ?_) h1
      intro e
      obtain ⟨c, hc, rfl⟩ := List.mem_map.mp ha
      obtain ⟨d, hd, rfl⟩ := List.mem_map.mp hb
      exact h (ix_inj hn (hok.2.1 c (List.mem_filter.mp hc).1) (hok.2.1 d (List.mem_filter.mp hd).1) e)
  have fr : ∀ z j, ((z ≠ m + 16 ∧ z ≠ m + 5) ∨ j < 12 * i ∨ 12 * i + 12 ≤ j) → J' z j = J z j := fun z j hz => g4 z j (by omega)
  refine ⟨J', y', g1, by rw [g2, hcnt, Nat.zero_add], ?_, ?_, fr⟩
  · have htb := (gvF_ok (now := now) C bs M hb.1 hq).1
    have hbm := gvF_bmp (now := now) hb.2.1.1.2 C bs (srtC_nodup hok.1) (fun c hc => h256 _ (hok.2.1 c hc)) hb.1
    rw [hbm] at htb ⊢
    refine rtb_bmp hn h12 hb htb (fr _ _ (by omega)) (fr _ _ (by omega)) (fun j _ => ⟨fr _ _ (by omega), fr _ _ (by omega)⟩) (fun u hu => ?_) (fun y _ => fr _ _ (by omega))
    obtain ⟨a1, a2, -⟩ := ix_mem hn (tbk_ids hb.1 u hu).1
    have := (g3 (ix ids u) (by omega) (by omega)).2 ((mB_iff _ a1).mpr (by rw [a2]; exact hu))
    rw [this, hfq _ a1, a2, silU_ix hok.1]
  · refine ⟨⟨by rw [fr _ _ (by omega)]; exact v1, by rw [fr _ _ (by omega)]; exact v2, by rw [fr _ _ (by omega)]; exact v3⟩, fun j hj => ?_, fun c hcm e => ?_, fun c hcm e => ?_, by rw [fr _ _ (by omega)]; exact v7, fun k u hk => by rw [fr _ _ (by omega)]; exact v8 k u hk⟩
    · by_cases hjl : j < ids.length
      · rw [(g3 j (by omega) (by omega)).1, hfq j hjl, cS_gv hjl]
        have hcs : cS ids C j = match cfd C (idg ids j) with | some c => c.2.1 + 1 | none => 0 := by
          unfold cS
          rw [if_pos hjl]
          cases cfd C (idg ids j) <;> rfl
        rw [hcs]
        cases cfd C (idg ids j) with
        | none => rfl
        | some c =>
          dsimp only
          by_cases hs : sil now c = true
          · rw [if_pos hs, if_pos hs]; rfl
          · rw [if_neg hs, if_neg hs]
      · rw [g4 _ _ (by omega), v4 j hj]
        unfold cS
        rw [if_neg hjl, if_neg hjl]
    · obtain ⟨d, d1, rfl⟩ := List.mem_map.mp hcm
      rw [gv1_fst, fr _ _ (by omega)]
      unfold gv1 at e ⊢
      by_cases hs : sil now d = true
      · rw [if_pos hs] at e; dsimp only at e; omega
      · rw [if_neg hs] at e ⊢
        exact v5 d d1 e
    · obtain ⟨d, d1, rfl⟩ := List.mem_map.mp hcm
      rw [gv1_fst, fr _ _ (by omega)]
      unfold gv1 at e ⊢
      by_cases hs : sil now d = true
      · rw [if_pos hs] at e; dsimp only at e; omega
      · rw [if_neg hs] at e ⊢
        exact v6 d d1 e
end RFAIL
