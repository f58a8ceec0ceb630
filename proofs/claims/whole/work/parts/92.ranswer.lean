/-! the reference answers -/
theorem rlin_set {J : Nat → Nat → Int32} {m c : Nat} {L : List Dg} {D : Dg} {v : Int32} {w : Int} (h : rlin J m (L ++ [D])) (hc : c < 12) (hv : v.toInt = w) : rlin (js J (m + 21) (12 * L.length + c) v) m (L ++ [dset D c [w]]) := by
  obtain ⟨l1, l2, l3⟩ := h
  refine ⟨by rw [js_ne _ (Or.inl (by omega)), l1, List.length_append, List.length_append]; rfl, by rw [List.length_append] at l2 ⊢; exact l2, fun k E hE d hd => ?_⟩
  by_cases hk : k < L.length
  · rw [List.getElem?_append_left hk] at hE
    rw [js_ne _ (Or.inr (by omega))]
    exact l3 k E (by rw [List.getElem?_append_left hk]; exact hE) d hd
  · rw [List.getElem?_append_right (by omega)] at hE
    have hk0 : k = L.length := by
      refine Decidable.byContradiction fun hne => ?_
      rw [show k - L.length = (k - L.length - 1) + 1 by omega] at hE
      cases hE
    subst hk0
    rw [Nat.sub_self] at hE
    cases hE
    have hD := l3 L.length D (by rw [List.getElem?_append_right (Nat.le_refl _), Nat.sub_self]; rfl) d hd
    unfold dset
    by_cases hdc : d = c
    · subst hdc
      rw [js_same, if_pos ⟨Nat.le_refl _, by simp⟩, Nat.sub_self]
      exact hv
    · rw [js_ne _ (Or.inr (by omega)), if_neg (by simp; omega)]
      exact hD
theorem dset_m1 {D : Dg} {c : Nat} {w : Int} (h : D c = w) : dset D c [w] = D := by
  funext d
  unfold dset
  by_cases hd : d = c
  · subst hd
    rw [if_pos ⟨Nat.le_refl _, by simp⟩, Nat.sub_self]
    exact h.symm
  · rw [if_neg (by simp; omega)]
theorem rt_fr {J J' : Nat → Nat → Int32} {m i nr s : Nat} {M : Nat → Bool} (h : rt J m i nr s M) (f : frR J J' m) : rt J' m i nr s M := ⟨⟨by rw [f _ _ (by omega) (by omega)]; exact h.1.1, h.1.2⟩, ⟨by rw [f _ _ (by omega) (by omega)]; exact h.2.1.1, h.2.1.2⟩, fun j hj => by rw [f _ _ (by omega) (by omega)]; exact h.2.2 j hj⟩
theorem mB_iff {ids : List Nat} {bs : List Bk} : ∀ j, j < ids.length → (mB ids bs j = true ↔ idg ids j ∈ cns bs) := fun j hj => by
  unfold mB
  rw [decide_eq_true_iff]
  exact ⟨fun e => e.2, fun e => ⟨hj, e⟩⟩
section RANS
variable {G : mm_M} {J : Nat → Nat → Int32} {m N i nr s st : Nat} {ids : List Nat} {bs : List Bk} {x1 x2 x4 : Int32}
theorem r_ans_n {D0 : Dg} {L : List Dg} {t sn : Nat} {kx : mm_M → Int32 → Int32 → Option (mm_M × Unit)} (h : sM G m) (hi12 : i < ids.length) (hN : 400 ≤ N) (h1 : x1.toInt = (i : Int)) (h2 : x2.toInt = ((ix ids sn : Nat) : Int)) (hsn : sn ∈ ids) (h4 : x4.toInt = ((12 * L.length : Nat) : Int)) (hL : L.length < 24) (hb : tbk ids nr s bs) (d4 : D0 4 = (t : Int)) (ht : t < 256) : ∀ (r n k : Nat) (z : Int32) (J : Nat → Nat → Int32) (D : Dg), z.toInt = (k : Int) → k + r = 3 → r < n → rid J m ids → rt J m i nr s (mB ids bs) → rnow J m D0 → rlin J m (L ++ [D]) → (∀ c, 6 + k ≤ c → c < 9 → D c = -1) → ∃ J', pX7_answer_42 N m kx n (mm_w G J) x1 x2 x4 z = kx (mm_w G J') x1 x4 ∧ rlin J' m (L ++ [dset D (6 + k) ((((nA (cns bs) t (sn : Int)).drop k).take r).map (fun (n : Nat) => (n : Int)))]) ∧ frR J J' m := by
  intro r
  induction r with
  | zero =>
    intro n k z J D hz hk hn hi hr hw hl hm
    obtain ⟨n, rfl⟩ : ∃ m, n = m + 1 := ⟨n - 1, by omega⟩
    refine ⟨J, ?_, ?_, frR.refl⟩
    · show pX7_answer_42_b N m _ kx _ x1 x2 x4 z = _
      unfold pX7_answer_42_b
      rw [if_pos (by rw [zi_le, zi_3, hz]; omega)]
    · rw [List.take_zero, List.map_nil, dset_nil]; exact hl
  | succ r ih =>
    intro n k z J D hz hk hn hi hr hw hl hm
    obtain ⟨n, rfl⟩ : ∃ m, n = m + 1 := ⟨n - 1, by omega⟩
    have h12 := hi.2.1
    have hw4 := hw 4 (by omega)
    have hx : ((x4 + 6) + z).toInt = ((12 * L.length + (6 + k) : Nat) : Int) := by
      rw [zi_add (x := ((12 * L.length + 6 : Nat) : Int)) (y := (k : Int)) (by rw [zi_add h4 zi_6 (by omega) (by omega)]; omega) hz (by omega) (by omega)]; omega
    have hnr := near_eq (t := t) (r := k) (e := (sn : Int)) hi.2.2.1 (tbk_nodup hb) (fun u hu => (tbk_ids hb u hu).1) (M := mB ids bs) mB_iff (hw_some hi.2.2.1 hsn)
    have pre : ∀ v : Int32, v.toInt = (match (nA (cns bs) t (sn : Int))[k]? with | some u => (u : Int) | none => -1) → pX7_answer_42 N m kx (n + 1) (mm_w G J) x1 x2 x4 z = pX7_answer_42 N m kx n (mm_w G (js J (m + 21) (12 * L.length + (6 + k)) v)) x1 x2 x4 (z + 1) := by
      intro v hv
      show pX7_answer_42_b N m _ kx _ x1 x2 x4 z = _
      unfold pX7_answer_42_b
      rw [if_neg (by rw [zi_le, zi_3, hz]; omega), gr_now h, w_nn, ai_now (i := 4) h zi_4 (by omega), w_is h.1, r_near h hi hr (by omega) hN h1 (by rw [hw4]; exact d4) ht hz h2, hnr, w_cl, gr_line h]
      cases hk2 : (nA (cns bs) t (sn : Int))[k]? with
      | none =>
        rw [hk2] at hv
        have hv2 : v = -1 := by rw [zi_eq, hv, zi_m1]
        rw [Option.map_none, if_neg (by rw [zi_le, oI_none, zi_0]; decide), w_nn, si_line h hx (by omega), hv2]
      | some u =>
        rw [hk2] at hv
        have hu := (tbk_ids hb u (nA_mem.mp (List.mem_of_getElem? hk2)).1).1
        obtain ⟨a1, a2, a3⟩ := ix_mem hi.2.2.1 hu
        have hIx := oI_some (n := ix ids u) (by omega)
        have hid := (hi.2.2.2 _ _ a3).1
        have hv2 : v = J (m + 1) (ix ids u) := by rw [zi_eq, hv, hid]
        rw [Option.map_some, if_pos (by rw [zi_le, hIx, zi_0]; omega), gr_id h, w_nn, ai_id h hIx (by omega), w_nn, si_line h hx (by omega), hv2]
    have hfr : ∀ v : Int32, frR J (js J (m + 21) (12 * L.length + (6 + k)) v) m := fun v z j z1 _ => js_ne _ (Or.inl z1)
    have go : ∀ (v : Int32) (w : Int), v.toInt = w → w = (match (nA (cns bs) t (sn : Int))[k]? with | some u => (u : Int) | none => -1) → ∃ J', pX7_answer_42 N m kx (n + 1) (mm_w G J) x1 x2 x4 z = kx (mm_w G J') x1 x4 ∧ rlin J' m (L ++ [dset (dset D (6 + k) [w]) (6 + (k + 1)) ((((nA (cns bs) t (sn : Int)).drop (k + 1)).take r).map (fun (n : Nat) => (n : Int)))]) ∧ frR J J' m := by
      intro v w hv hw2
      have f := hfr v
      obtain ⟨J', g1, g2, g3⟩ := ih n (k + 1) (z + 1) (js J (m + 21) (12 * L.length + (6 + k)) v) (dset D (6 + k) [w]) (zi_inc hz (by omega)) (by omega) (by omega) (rid_congr hi (f _ _ (by omega) (by omega)) (fun _ => f _ _ (by omega) (by omega))) (rt_fr hr f) (fun d hd => by rw [f _ _ (by omega) (by omega)]; exact hw d hd) (rlin_set hl (by omega) hv) (fun c c1 c2 => by
        rw [dset_out (by simp; omega)]
        exact hm c (by omega) c2)
      exact ⟨J', by rw [pre v (by rw [hv]; exact hw2)]; exact g1, g2, f.trans g3⟩
    cases hk2 : (nA (cns bs) t (sn : Int))[k]? with
    | none =>
      obtain ⟨J', g1, g2, g3⟩ := go (-1) (-1) zi_m1 (by rw [hk2])
      refine ⟨J', g1, ?_, g3⟩
      have hk3 := List.getElem?_eq_none_iff.mp hk2
      rw [drop_none hk2]
      rw [List.drop_eq_nil_of_le (by omega), dset_m1 (hm _ (by omega) (by omega))] at g2
      simpa [dset_nil] using g2
    | some u =>
      have hu := (tbk_ids hb u (nA_mem.mp (List.mem_of_getElem? hk2)).1).1
      obtain ⟨a1, a2, a3⟩ := ix_mem hi.2.2.1 hu
      obtain ⟨J', g1, g2, g3⟩ := go (J (m + 1) (ix ids u)) (u : Int) (hi.2.2.2 _ _ a3).1 (by rw [hk2])
      refine ⟨J', g1, ?_, g3⟩
      rw [drop_some hk2, List.take_succ_cons, List.map_cons, ← dset_cons]
      exact g2
theorem r_ans_h {D0 : Dg} {L : List Dg} {t : Nat} {E : List En} {kx : mm_M → Option (mm_M × Unit)} (h : sM G m) (hi12 : i < 12) (h1 : x1.toInt = (i : Int)) (h4 : x4.toInt = ((12 * L.length : Nat) : Int)) (hL : L.length < 24) (h6 : E.length ≤ 6) (d0 : D0 0 = 1) (d4 : D0 4 = (t : Int)) : ∀ (r n k s : Nat) (y z : Int32) (J : Nat → Nat → Int32) (D : Dg), z.toInt = (k : Int) → y.toInt = (s : Int) → s ≤ 3 → k + r = E.length → r < n → ren J m i E → rnow J m D0 → rlin J m (L ++ [D]) → ∃ J', pX7_answer_105 N m kx n (mm_w G J) x1 x4 y z = kx (mm_w G J') ∧ rlin J' m (L ++ [dset D (9 + s) (whl (E.drop k) t s)]) ∧ frR J J' m := by
  intro r
  induction r with
  | zero =>
    intro n k s y z J D hz hy hs hk hn he hw hl
    obtain ⟨n, rfl⟩ : ∃ m, n = m + 1 := ⟨n - 1, by omega⟩
    refine ⟨J, ?_, ?_, frR.refl⟩
    · show pX7_answer_105_b N m _ kx _ x1 x4 y z = _
      unfold pX7_answer_105_b
      rw [gr_entries h, w_nn, ai_entries h h1 hi12, if_pos (by rw [zi_le, he.1, hz]; omega)]
    · rw [List.drop_eq_nil_of_le (by omega)]
      show rlin J m (L ++ [dset D (9 + s) []])
      rw [dset_nil]; exact hl
  | succ r ih =>
    intro n k s y z J D hz hy hs hk hn he hw hl
    obtain ⟨n, rfl⟩ : ∃ m, n = m + 1 := ⟨n - 1, by omega⟩
    have hlt : k < E.length := by omega
    obtain ⟨e1, e2, e3⟩ := he.2 k _ (List.getElem?_eq_getElem hlt)
    have hw4 := hw 4 (by omega)
    have hw0 := hw 0 (by omega)
    have pre : pX7_answer_105 N m kx (n + 1) (mm_w G J) x1 x4 y z = if E[k].1 = t then (if (3 : Int32) ≤ y then pX7_answer_105 N m kx n (mm_w G J) x1 x4 y (z + 1) else q_sI (mm_w G J) (m + 21) 101 ((x4 + 9) + y) (J (m + 10) (6 * i + k)) fun G => pX7_answer_105 N m kx n G x1 x4 (y + 1) (z + 1)) else pX7_answer_105 N m kx n (mm_w G J) x1 x4 y (z + 1) := by
      show pX7_answer_105_b N m _ kx _ x1 x4 y z = _
      unfold pX7_answer_105_b
      rw [gr_entries h, w_nn, ai_entries h h1 hi12, if_neg (by rw [zi_le, he.1, hz]; omega), gr_now h, w_nn, ai_now (i := 0) h zi_0 (by omega), if_pos (by rw [zi_eq, hw0, d0, zi_1]), gr_key h, w_nn, ai_key h (zi_6i h1 hz hi12 (by omega)) (by omega), gr_now h, w_nn, ai_now (i := 4) h zi_4 (by omega), gr_line h, gr_holder h, w_nn, ai_holder h (zi_6i h1 hz hi12 (by omega)) (by omega), w_nn]
      by_cases hk1 : E[k].1 = t
      · rw [if_pos (by rw [zi_eq, e1, hw4, d4, hk1]), if_pos hk1]
      · rw [if_neg (by rw [zi_eq, e1, hw4, d4]; omega), if_neg hk1]
    have dr : whl (E.drop k) t s = if 3 ≤ s then [] else if E[k].1 = t then (E[k].2.1 : Int) :: whl (E.drop (k + 1)) t (s + 1) else whl (E.drop (k + 1)) t s := by
      rw [List.drop_eq_getElem_cons hlt]
      rfl
    have w3 : ∀ l, 3 ≤ s → whl l t s = [] := fun l hs3 => by
      cases l with
      | nil => rfl
      | cons e l => unfold whl; rw [if_pos hs3]
    rw [pre, dr]
    have stay := ih n (k + 1) s y (z + 1) J D (zi_inc hz (by omega)) hy hs (by omega) (by omega) he hw hl
    by_cases hs3 : 3 ≤ s
    · rw [if_pos hs3]
      rw [w3 _ hs3] at stay
      by_cases hk1 : E[k].1 = t
      · rw [if_pos hk1, if_pos (by rw [zi_le, zi_3, hy]; omega)]
        exact stay
      · rw [if_neg hk1]
        exact stay
    · rw [if_neg hs3]
      by_cases hk1 : E[k].1 = t
      · have hx : ((x4 + 9) + y).toInt = ((12 * L.length + (9 + s) : Nat) : Int) := by
          rw [zi_add (x := ((12 * L.length + 9 : Nat) : Int)) (y := (s : Int)) (by rw [zi_add h4 zi_9 (by omega) (by omega)]; omega) hy (by omega) (by omega)]; omega
        rw [if_pos hk1, if_neg (by rw [zi_le, zi_3, hy]; omega), if_pos hk1, si_line h hx (by omega), ← dset_cons]
        have f : frR J (js J (m + 21) (12 * L.length + (9 + s)) (J (m + 10) (6 * i + k))) m := fun z j z1 _ => js_ne _ (Or.inl z1)
        obtain ⟨J', g1, g2, g3⟩ := ih n (k + 1) (s + 1) (y + 1) (z + 1) _ (dset D (9 + s) [(E[k].2.1 : Int)]) (zi_inc hz (by omega)) (zi_inc hy (by omega)) (by omega) (by omega) (by omega) ⟨by rw [f _ _ (by omega) (by omega)]; exact he.1, fun j e hj => by rw [f _ _ (by omega) (by omega), f _ _ (by omega) (by omega), f _ _ (by omega) (by omega)]; exact he.2 j e hj⟩ (fun d hd => by rw [f _ _ (by omega) (by omega)]; exact hw d hd) (rlin_set hl (by omega) e2)
        exact ⟨J', g1, g2, f.trans g3⟩
      · rw [if_neg hk1, if_neg hk1]
        exact stay
theorem r_answer {E : List En} {L : List Dg} {D : Dg} {t sn now ser : Nat} (h : sM G m) (hi : rid J m ids) (ht : rtb J m i ids (idg ids i) s bs st) (hi12 : i < ids.length) (hN : 400 ≤ N) (h1 : x1.toInt = (i : Int)) (h2 : x2.toInt = ((ix ids sn : Nat) : Int)) (hsn : sn ∈ ids) (he : ren J m i E) (h6 : E.length ≤ 6) (hl : rlin J m L) (hD : rnow J m D) (d0 : D 0 = 0 ∨ D 0 = 1) (d3 : D 3 = (ser : Int)) (d4 : D 4 = (t : Int)) (htt : t < 256) (hc : (J m 0).toInt = (now : Int)) (hn : now < 10000) : ∃ J', pX7_answer_0 N m (mm_w G J) x1 x2 = some (mm_w G J', ()) ∧ rlin J' m (ladd L (ansD (idg ids i) sn ser (tk (idg ids i) sn (1 + now / 8)) bs t E (decide (D 0 = 1)))) ∧ frR J J' m := by
  have h12 := hi.2.1
  obtain ⟨a1, a2, a3⟩ := ix_mem hi.2.2.1 hsn
  obtain ⟨v1, e1, f1⟩ := r_token (N := N) (e := 1 + now / 8) h hi h1 h2 hi12 a1 (zi_ep hc (by omega))
  rw [a2] at f1
  obtain ⟨J1, g1, g2, g3⟩ := r_send (N := N) (ids := ids) (i := i) (j := ix ids sn) (x1 := 2) (x2 := x1) (x3 := x2) (x4 := J (m + 22) 3) (x5 := -1) (x6 := v1) h hi hl hN h1 h2 hi12 a1
  rw [zi_2, a2, hD 3 (by omega), d3, zi_m1, f1] at g2
  unfold pX7_answer_0
  rw [w_gI h.1, w_is h.1, e1, w_cl, gr_now h, w_nn, ai_now (i := 3) h zi_3 (by omega), w_is h.1, g1, w_cl]
  unfold ladd at g2 ⊢
  by_cases hL : L.length < 24
  · rw [if_pos hL] at g2
    rw [if_pos hL, if_pos hL, if_pos (by rw [zi_le, zi_ofNat (by omega), zi_0]; omega)]
    have hw1 : rnow J1 m D := fun d hd => by rw [g3 _ _ (by omega) (by omega)]; exact hD d hd
    obtain ⟨J2, k1, k2, k3⟩ := r_ans_n (N := N) (kx := fun (G : mm_M) (x1 : Int32) (x4 : Int32) => pX7_answer_105 N m (fun (G : mm_M) => some (G, ())) N G x1 x4 (0 : Int32) (0 : Int32)) (x4 := Int32.ofNat (12 * L.length)) h hi12 hN h1 h2 hsn (zi_ofNat (by omega)) hL ht.1 d4 htt 3 N 0 0 J1 _ zi_0 (by omega) (by omega) (rid_congr hi (g3 _ _ (by omega) (by omega)) (fun _ => g3 _ _ (by omega) (by omega))) (rt_fr ht.2.1 g3) hw1 g2 (fun c c1 c2 => mkD_hi (by omega))
    have hw2 : rnow J2 m D := fun d hd => by rw [k3 _ _ (by omega) (by omega)]; exact hw1 d hd
    have fr2 := g3.trans k3
    have he2 : ren J2 m i E := ⟨by rw [fr2 _ _ (by omega) (by omega)]; exact he.1, fun j e hj => by rw [fr2 _ _ (by omega) (by omega), fr2 _ _ (by omega) (by omega), fr2 _ _ (by omega) (by omega)]; exact he.2 j e hj⟩
    have hA : ((nA (cns bs) t (sn : Int)).drop 0).take 3 = (nA (cns bs) t (sn : Int)).take 3 := rfl
    have h3 : an3 bs t (sn : Int) 3 (cbb bs t (-1) (sn : Int)) = (((nA (cns bs) t (sn : Int)).drop 0).take 3).map (fun (n : Nat) => (n : Int)) := by
      rw [cbb_0 (tbk_nodup ht.1), an3_nA (tbk_nodup ht.1)]
    rw [k1]
    unfold ansD
    rw [h3]
    rcases d0 with d0 | d0
    · have hd : decide (D 0 = 1) = false := decide_eq_false (by omega)
      rw [hd]
      refine ⟨J2, ?_, k2, fr2⟩
      obtain ⟨N', rfl⟩ : ∃ k, N = k + 1 := ⟨N - 1, by omega⟩
      show pX7_answer_105_b (N' + 1) m _ _ _ x1 _ 0 0 = _
      unfold pX7_answer_105_b
      rw [gr_entries h, w_nn, ai_entries h h1 (by omega)]
      by_cases h0 : J2 (m + 8) i ≤ 0
      · rw [if_pos h0]
      · rw [if_neg h0, gr_now h, w_nn, ai_now (i := 0) h zi_0 (by omega), if_neg (by rw [zi_eq, hw2 0 (by omega), d0, zi_1]; decide)]
    · have hd : decide (D 0 = 1) = true := decide_eq_true d0
      rw [hd]
      obtain ⟨J3, q1, q2, q3⟩ := r_ans_h (N := N) (kx := fun (G : mm_M) => some (G, ())) (x4 := Int32.ofNat (12 * L.length)) h (by omega) h1 (zi_ofNat (by omega)) hL h6 d0 d4 E.length N 0 0 0 0 J2 _ zi_0 zi_0 (by omega) (by omega) (by omega) he2 hw2 k2
      exact ⟨J3, q1, q2, fr2.trans q3⟩
  · rw [if_neg hL] at g2
    rw [if_neg hL, if_neg hL, if_neg (by rw [zi_le, zi_m1, zi_0]; decide)]
    exact ⟨J1, rfl, g2, g3⟩
end RANS
