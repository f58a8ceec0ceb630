/-! the reference starts a lookup -/
def frt (J J' : Nat → Nat → Int32) (m i : Nat) : Prop := ∀ z j, z ≠ m + 21 → (z ≠ m ∨ (j ≠ 24 ∧ j ≠ 1)) → (z ≠ m + 7 ∨ j < 9 * i ∨ 9 * i + 9 ≤ j) → ((z ≠ m + 12 ∧ z ≠ m + 13 ∧ z ≠ m + 14 ∧ z ≠ m + 15 ∧ z ≠ m + 19) ∨ j ≠ i) → ((z ≠ m + 16 ∧ z ≠ m + 17 ∧ z ≠ m + 18 ∧ z ≠ m + 20) ∨ j < 12 * i ∨ 12 * i + 12 ≤ j) → J' z j = J z j
theorem frt.X {J J' : Nat → Nat → Int32} {m i : Nat} (h : frt J J' m i) : frX J J' m i := ⟨fun z j hz => h z j (by omega) (by omega) (by omega) (by omega) (by omega), ⟨h _ _ (by omega) (by omega) (by omega) (by omega) (by omega), fun j => h _ _ (by omega) (by omega) (by omega) (by omega) (by omega)⟩, fun i' hi => ⟨fun z hz => h _ _ (by omega) (by omega) (by omega) (by omega) (by omega), fun z hz j _ => h _ _ (by omega) (by omega) (by omega) (by omega) (by omega), fun j _ => h _ _ (by omega) (by omega) (by omega) (by omega) (by omega), fun z hz j _ => h _ _ (by omega) (by omega) (by omega) (by omega) (by omega)⟩⟩
theorem rtb_tch {J J' : Nat → Nat → Int32} {m i nr s st t now : Nat} {ids : List Nat} {bs : List Bk} {w : Int32} (hn : ids.Nodup) (h12 : ids.length ≤ 12) (h : rtb J m i ids nr s bs st) (ht : t < 256) (h1 : J' (m + 1) i = J (m + 1) i) (h6 : J' (m + 6) i = J (m + 6) i) (hj : ∀ j, j < 12 → J' (m + 3) (12 * i + j) = J (m + 3) (12 * i + j) ∧ J' (m + 4) (12 * i + j) = J (m + 4) (12 * i + j) ∧ J' (m + 5) (12 * i + j) = J (m + 5) (12 * i + j)) (h7 : ∀ y, y < 9 → J' (m + 7) (9 * i + y) = if y = bo nr s t then w else J (m + 7) (9 * i + y)) (hw : w.toInt = (now : Int)) : rtb J' m i ids nr s (tchB bs t now) st := by
  obtain ⟨hb, hr, hc⟩ := h
  have hs8 := hb.1
  have hk := rng_lt (bs := bs) t (tbk_len hb).1
  have hbg := bg_at hk
  have hx := rng_bo hb.2.1 hb.1 hr.1.2 ht
  refine ⟨tbk_tch hb, ⟨⟨by rw [h1]; exact hr.1.1, hr.1.2⟩, ⟨by rw [h6]; exact hr.2.1.1, hr.2.1.2⟩, fun j' hj' => ?_⟩, fun k' x' b' hx' hb' => ?_⟩
  · rw [(hj j' hj').1, hr.2.2 j' hj']
    unfold mB
    rw [cns_tch (tbk_len hb).1]
  · have hx8 := ordr_mem.mp (List.mem_of_getElem? hx')
    have key : ∀ b0 : Bk, bs[k']? = some b0 → (∀ c ∈ b0.2.2.2, (J' (m + 5) (12 * i + ix ids c.1)).toInt = (c.2 : Int) ∧ (J' (m + 4) (12 * i + ix ids c.1)).toInt ≤ (st : Int)) ∧ b0.2.2.2.Pairwise (fun c d => (J' (m + 4) (12 * i + ix ids c.1)).toInt < (J' (m + 4) (12 * i + ix ids d.1)).toInt) := by
      intro b0 hb0
      obtain ⟨a1, a2, a3⟩ := hc k' x' b0 hx' hb0
      have hiy : ∀ c ∈ b0.2.2.2, ix ids c.1 < 12 := fun c hcm => by
        have := (ix_mem hn ((hb.2.2 k' x' b0 hx' hb0).2.2 c hcm).2.1).1
        omega
      refine ⟨fun c hcm => ?_, ?_⟩
      · rw [(hj _ (hiy c hcm)).2.2, (hj _ (hiy c hcm)).2.1]
        exact a2 c hcm
      · refine List.Pairwise.imp_of_mem (fun {c d} hcm hdm h => ?_) a3
        rw [(hj _ (hiy c hcm)).2.1, (hj _ (hiy d hdm)).2.1]
        exact h
    rw [h7 x' (by omega)]
    unfold tchB at hb'
    rw [List.getElem?_set] at hb'
    by_cases hkk : rng bs t = k'
    · subst hkk
      rw [if_pos rfl, if_pos hk] at hb'
      cases hb'
      rw [hx] at hx'
      cases hx'
      rw [if_pos rfl]
      have hk2 := key (bg bs (rng bs t)) hbg
      exact ⟨hw, hk2⟩
    · rw [if_neg hkk] at hb'
      rw [if_neg (fun e => hkk (by subst e; exact ordr_inj hx hx'))]
      exact ⟨(hc k' x' b' hx' hb').1, key b' hb'⟩
section RSTART
variable {G : mm_M} {m N i nr s st now kd t : Nat} {ids : List Nat} {bs : List Bk} {x1 x2 x3 : Int32}
theorem r_clear {kx : mm_M → Int32 → Int32 → Int32 → Option (mm_M × Unit)} (h : sM G m) (hi12 : i < 12) (h1 : x1.toInt = (i : Int)) : ∀ (r n k : Nat) (z : Int32) (J : Nat → Nat → Int32), z.toInt = (k : Int) → k + r = 12 → r < n → ∃ J', pX7_start_27 N m kx n (mm_w G J) x1 x2 x3 z = kx (mm_w G J') x1 x2 x3 ∧ (∀ j, k ≤ j → j < 12 → J' (m + 16) (12 * i + j) = 0) ∧ ∀ z j, (z ≠ m + 16 ∨ j < 12 * i + k ∨ 12 * i + 12 ≤ j) → J' z j = J z j := by
  intro r
  induction r with
  | zero =>
    intro n k z J hz hk hn
    obtain ⟨n, rfl⟩ : ∃ m, n = m + 1 := ⟨n - 1, by omega⟩
    refine ⟨J, ?_, fun j j1 j2 => by omega, fun _ _ _ => rfl⟩
    show pX7_start_27_b N m _ kx _ x1 x2 x3 z = _
    unfold pX7_start_27_b
    rw [if_pos (by rw [zi_le, zi_12, hz]; omega)]
  | succ r ih =>
    intro n k z J hz hk hn
    obtain ⟨n, rfl⟩ : ∃ m, n = m + 1 := ⟨n - 1, by omega⟩
    obtain ⟨J', e1, e2, e3⟩ := ih n (k + 1) (z + 1) (js J (m + 16) (12 * i + k) 0) (zi_inc hz (by omega)) (by omega) (by omega)
    refine ⟨J', ?_, fun j j1 j2 => ?_, fun z j hz => by rw [e3 z j (by omega), js_ne _ (by omega)]⟩
    · show pX7_start_27_b N m _ kx _ x1 x2 x3 z = _
      unfold pX7_start_27_b
      rw [if_neg (by rw [zi_le, zi_12, hz]; omega), gr_state h, w_nn, si_state h (zi_12i h1 hz hi12 (by omega)) (by omega)]
      exact e1
    · by_cases hjk : j = k
      · subst hjk
        rw [e3 _ _ (by omega), js_same]
      · exact e2 j (by omega) j2
theorem r_str_n {se : Nat} {H : List Nat} {kx : mm_M → Int32 → Option (mm_M × Unit)} (h : sM G m) (hi12 : i < ids.length) (hN : 400 ≤ N) (h1 : x1.toInt = (i : Int)) (h3 : x3.toInt = (t : Int)) (ht : t < 256) (hb : tbk ids nr s bs) : ∀ (r n k : Nat) (z : Int32) (J : Nat → Nat → Int32) (C : List Cd), z.toInt = (k : Int) → k + r = 3 → r < n → rid J m ids → rt J m i nr s (mB ids bs) → rlv J m i ids kd t se C H → okC ids t C → (∀ c ∈ C, ∃ j : Nat, j < k ∧ (nA (cns bs) t (-1))[j]? = some c.1) → ∃ J', pX7_start_104 N m kx n (mm_w G J) x1 x3 z = kx (mm_w G J') x1 ∧ rlv J' m i ids kd t se ((((nA (cns bs) t (-1)).drop k).take r).foldl (fun C n => cadd C t n) C) H ∧ okC ids t ((((nA (cns bs) t (-1)).drop k).take r).foldl (fun C n => cadd C t n) C) ∧ ∀ z j, (z ≠ m + 16 ∨ j < 12 * i ∨ 12 * i + 12 ≤ j) → J' z j = J z j := by
  intro r
  induction r with
  | zero =>
    intro n k z J C hz hk hn hi hr hv hok hC
    obtain ⟨n, rfl⟩ : ∃ m, n = m + 1 := ⟨n - 1, by omega⟩
    refine ⟨J, ?_, by simpa using hv, by simpa using hok, fun _ _ _ => rfl⟩
    show pX7_start_104_b N m _ kx _ x1 x3 z = _
    unfold pX7_start_104_b
    rw [if_pos (by rw [zi_le, zi_3, hz]; omega)]
  | succ r ih =>
    intro n k z J C hz hk hn hi hr hv hok hC
    obtain ⟨n, rfl⟩ : ∃ m, n = m + 1 := ⟨n - 1, by omega⟩
    have h12 := hi.2.1
    have hnr := near_eq (t := t) (r := k) (e := (-1 : Int)) (w := (-1 : Int)) hi.2.2.1 (tbk_nodup hb) (fun u hu => (tbk_ids hb u hu).1) (M := mB ids bs) mB_iff hw_none
    have pre : pX7_start_104 N m kx (n + 1) (mm_w G J) x1 x3 z = if oI (((nA (cns bs) t (-1))[k]?).map (ix ids)) < 0 then pX7_start_104 N m kx n (mm_w G J) x1 x3 (z + 1) else q_sI (mm_w G J) (m + 16) 101 (((12 : Int32) * x1) + oI (((nA (cns bs) t (-1))[k]?).map (ix ids))) (1 : Int32) fun G => pX7_start_104 N m kx n G x1 x3 (z + (1 : Int32)) := by
      show pX7_start_104_b N m _ kx _ x1 x3 z = _
      unfold pX7_start_104_b
      rw [if_neg (by rw [zi_le, zi_3, hz]; omega), w_is h.1, r_near h hi hr (by omega) hN h1 h3 ht hz zi_m1, hnr, w_cl, gr_state h, w_nn]
    rw [pre]
    cases hk2 : (nA (cns bs) t (-1))[k]? with
    | none =>
      have hk3 := List.getElem?_eq_none_iff.mp hk2
      rw [Option.map_none, if_pos (by rw [zi_lt, oI_none, zi_0]; decide), drop_none hk2]
      obtain ⟨J', g1, g2, g3, g4⟩ := ih n (k + 1) (z + 1) J C (zi_inc hz (by omega)) (by omega) (by omega) hi hr hv hok (fun c hc => by
        obtain ⟨j, j1, j2⟩ := hC c hc
        exact ⟨j, by omega, j2⟩)
      rw [List.drop_eq_nil_of_le (by omega)] at g2 g3
      exact ⟨J', g1, by simpa using g2, by simpa using g3, g4⟩
    | some u =>
      have hum := tbk_ids hb u (nA_mem.mp (List.mem_of_getElem? hk2)).1
      obtain ⟨a1, a2, a3⟩ := ix_mem hi.2.2.1 hum.1
      have hIx := oI_some (n := ix ids u) (by omega)
      have hnew : ∀ c ∈ C, c.1 ≠ u := fun c hc e => by
        obtain ⟨j, j1, j2⟩ := hC c hc
        rw [e] at j2
        have := nA_lt (tbk_nodup hb) j2 hk2 j1
        omega
      have hcp : cpl C u = none := by
        cases hcp : cpl C u with
        | none => rfl
        | some j =>
          obtain ⟨c, c1, c2⟩ := cpl_mem hcp
          exact absurd c2 (hnew c c1)
      have hcadd : cadd C t u = cin C t u := by unfold cadd; rw [hcp]
      have hok1 : okC ids t (cin C t u) := by
        have := caddI_ok (v := (u : Int)) hok (Or.inr ⟨u, rfl, hum.1⟩)
        unfold caddI at this
        rw [if_neg (by omega), Int.toNat_natCast, hcadd] at this
        exact this
      rw [Option.map_some, if_neg (by rw [zi_lt, hIx, zi_0]; omega), si_state h (zi_12i h1 hIx (by omega) (by omega)) (by omega), drop_some hk2, List.take_succ_cons, List.foldl_cons, hcadd]
      have fr : ∀ z j, (z ≠ m + 16 ∨ j < 12 * i ∨ 12 * i + 12 ≤ j) → js J (m + 16) (12 * i + ix ids u) 1 z j = J z j := fun z j hz => js_ne _ (by omega)
      obtain ⟨J', g1, g2, g3, g4⟩ := ih n (k + 1) (z + 1) _ (cin C t u) (zi_inc hz (by omega)) (by omega) (by omega) (rid_congr hi (fr _ _ (by omega)) (fun _ => fr _ _ (by omega))) ⟨⟨by rw [fr _ _ (by omega)]; exact hr.1.1, hr.1.2⟩, ⟨by rw [fr _ _ (by omega)]; exact hr.2.1.1, hr.2.1.2⟩, fun j hj => by rw [fr _ _ (by omega)]; exact hr.2.2 j hj⟩ (rlv_add hi.2.2.1 hok hv hnew hum.1) hok1 (fun c hc => by
        rcases cin_iff.mp hc with rfl | hc
        · exact ⟨k, by omega, hk2⟩
        · obtain ⟨j, j1, j2⟩ := hC c hc
          exact ⟨j, by omega, j2⟩)
      exact ⟨J', g1, g2, g3, fun z j hz => by rw [g4 z j hz, fr z j hz]⟩
theorem r_start {J : Nat → Nat → Int32} {L : List Dg} {ser : Nat} (h : sM G m) (hi : rid J m ids) (hi12 : i < ids.length) (hN : 400 ≤ N) (h1 : x1.toInt = (i : Int)) (h2 : x2.toInt = (kd : Int)) (h3 : x3.toInt = (t : Int)) (ht : t < 256) (hb : rtb J m i ids (idg ids i) s bs st) (hl : rlin J m L) (hc : (J m 0).toInt = (now : Int)) (hs : (J m 1).toInt = (ser : Int)) (hs2 : ser < 100000) : ∃ J', pX7_start_0 N m (mm_w G J) x1 x2 x3 = some (mm_w G J', ()) ∧ rtb J' m i ids (idg ids i) s (tchB bs t now) st ∧ rlu J' m i ids (goS 1 (goL kd (idg ids i) (ser + 1) t now 2 (cl3 (tchB bs t now) t 3 (cbb (tchB bs t now) t (-1) (-1)) []) L).1, kd, t, ser + 1, (goL kd (idg ids i) (ser + 1) t now 2 (cl3 (tchB bs t now) t 3 (cbb (tchB bs t now) t (-1) (-1)) []) L).1, []) ∧ rlin J' m (goD kd (idg ids i) (ser + 1) t (goL kd (idg ids i) (ser + 1) t now 2 (cl3 (tchB bs t now) t 3 (cbb (tchB bs t now) t (-1) (-1)) []) L).1 (goL kd (idg ids i) (ser + 1) t now 2 (cl3 (tchB bs t now) t 3 (cbb (tchB bs t now) t (-1) (-1)) []) L).2) ∧ (J' m 1).toInt = ((ser + 1 : Nat) : Int) ∧ frt J J' m i := by
  have h12 := hi.2.1
  have hle := bo_le (idg ids i) s t
  have hs8 := hb.1.1
  have hxI := zi_ofNat (n := bo (idg ids i) s t) (by omega)
  have hx9 := zi_9i h1 hxI (by omega) (by omega)
  have hb1 := tbk_tch (t := t) (now := now) hb.1
  rw [cbb_0 (tbk_nodup hb1), cl3_nA (tbk_nodup hb1)]
  unfold pX7_start_0
  rw [w_is h.1, r_bo h (by omega) h1 hb.2.1.1.1 hb.2.1.2.1.1 hs8 h3 hN, w_cl, gr_touched h, w_gI h.1, w_nn, si_touched h hx9 (by omega)]
  obtain ⟨J1, e1, e2, e3⟩ := r_clear (N := N) (x2 := x2) (x3 := x3) (kx := fun (G : mm_M) (x1 : Int32) (x2 : Int32) (x3 : Int32) => q_gR G m 8 22 fun r54_8 => q_nn r54_8 fun b59_9 => q_sI G b59_9 101 x1 (0 : Int32) fun G => q_gR G m 8 16 fun r61_10 => q_nn r61_10 fun b66_11 => q_sI G b66_11 101 x1 x2 fun G => q_gR G m 8 17 fun r68_12 => q_nn r68_12 fun b73_13 => q_sI G b73_13 101 x1 x3 fun G => q_gI G m 8 1 fun v76_14 => q_pI G m 8 1 (v76_14 + (1 : Int32)) fun G => q_gR G m 8 18 fun r85_15 => q_gI G m 8 1 fun v90_16 => q_nn r85_15 fun b93_17 => q_sI G b93_17 101 x1 v90_16 fun G => q_gR G m 8 15 fun r95_18 => q_nn r95_18 fun b100_19 => q_sI G b100_19 101 x1 (1 : Int32) fun G => pX7_start_104 N m (fun (G : mm_M) (x1 : Int32) => q_is G m 8 <| q_cl (pX7_goOn_0 N m G x1) fun G _ => some (G, ())) N G x1 x3 (0 : Int32)) h (by omega) h1 12 N 0 0 (js J (m + 7) (9 * i + bo (idg ids i) s t) (J m 0)) zi_0 (by omega) (by omega)
  have hs1 : J1 m 1 = J m 1 := by rw [e3 _ _ (by omega), js_ne _ (by omega)]
  rw [e1, gr_founds h, w_nn, si_founds h h1 (by omega), gr_kind h, w_nn, si_kind h h1 (by omega), gr_goal h, w_nn, si_goal h h1 (by omega), w_gI h.1, js_ne (a := m + 14) (b := m) _ (Or.inl (by omega)), js_ne (a := m + 13) (b := m) _ (Or.inl (by omega)), js_ne (a := m + 19) (b := m) _ (Or.inl (by omega)), hs1, w_pI h.1, gr_serial h, w_gI h.1, js_same, w_nn, si_serial h h1 (by omega), gr_going h, w_nn, si_going h h1 (by omega)]
  generalize hJ2 : js (js (js (js (js (js J1 (m + 19) i 0) (m + 13) i x2) (m + 14) i x3) m 1 (J m 1 + 1)) (m + 15) i (J m 1 + 1)) (m + 12) i 1 = J2
  have f2 : ∀ z j, (z ≠ m ∨ j ≠ 1) → ((z ≠ m + 12 ∧ z ≠ m + 13 ∧ z ≠ m + 14 ∧ z ≠ m + 15 ∧ z ≠ m + 19) ∨ j ≠ i) → J2 z j = J1 z j := fun z j z1 z2 => by rw [← hJ2, js_ne _ (by omega), js_ne _ (by omega), js_ne _ (by omega), js_ne _ (by omega), js_ne _ (by omega), js_ne _ (by omega)]
  have g12 : J2 (m + 12) i = 1 := by rw [← hJ2, js_same]
  have g15 : J2 (m + 15) i = J m 1 + 1 := by rw [← hJ2, js_ne _ (by omega), js_same]
  have g1 : J2 m 1 = J m 1 + 1 := by rw [← hJ2, js_ne _ (by omega), js_ne _ (by omega), js_same]
  have g14 : J2 (m + 14) i = x3 := by rw [← hJ2, js_ne _ (by omega), js_ne _ (by omega), js_ne _ (by omega), js_same]
  have g13 : J2 (m + 13) i = x2 := by rw [← hJ2, js_ne _ (by omega), js_ne _ (by omega), js_ne _ (by omega), js_ne _ (by omega), js_same]
  have g19 : J2 (m + 19) i = 0 := by rw [← hJ2, js_ne _ (by omega), js_ne _ (by omega), js_ne _ (by omega), js_ne _ (by omega), js_ne _ (by omega), js_same]
  have f02 : ∀ z j, (z ≠ m ∨ j ≠ 1) → (z ≠ m + 7 ∨ j ≠ 9 * i + bo (idg ids i) s t) → ((z ≠ m + 12 ∧ z ≠ m + 13 ∧ z ≠ m + 14 ∧ z ≠ m + 15 ∧ z ≠ m + 19) ∨ j ≠ i) → (z ≠ m + 16 ∨ j < 12 * i ∨ 12 * i + 12 ≤ j) → J2 z j = J z j := fun z j z1 z2 z3 z4 => by rw [f2 z j z1 z3, e3 z j (by omega), js_ne _ z2]
  have h7 : ∀ y, y < 9 → J2 (m + 7) (9 * i + y) = if y = bo (idg ids i) s t then J m 0 else J (m + 7) (9 * i + y) := fun y hy => by
    rw [f2 _ _ (by omega) (by omega), e3 _ _ (by omega)]
    by_cases hyx : y = bo (idg ids i) s t
    · rw [if_pos hyx, hyx, js_same]
    · rw [if_neg hyx, js_ne _ (Or.inr (by omega))]
  have hb2 : rtb J2 m i ids (idg ids i) s (tchB bs t now) st := rtb_tch hi.2.2.1 h12 hb ht (f02 _ _ (by omega) (by omega) (by omega) (by omega)) (f02 _ _ (by omega) (by omega) (by omega) (by omega)) (fun j hj => ⟨f02 _ _ (by omega) (by omega) (by omega) (by omega), f02 _ _ (by omega) (by omega) (by omega) (by omega), f02 _ _ (by omega) (by omega) (by omega) (by omega)⟩) h7 hc
  have hi2 := rid_congr (J' := J2) hi (f02 _ _ (by omega) (by omega) (by omega) (by omega)) (fun _ => f02 _ _ (by omega) (by omega) (by omega) (by omega))
  have hv2 : rlv J2 m i ids kd t (ser + 1) [] [] := by
    refine ⟨⟨by rw [g13]; exact h2, by rw [g14]; exact h3, by rw [g15]; exact zi_inc hs (by omega)⟩, fun j hj => ?_, (fun c hc => by cases hc), (fun c hc => by cases hc), by rw [g19]; rfl, (fun k v hk => by cases hk)⟩
    have : cS ids [] j = 0 := by unfold cS; split <;> rfl
    rw [this, f2 _ _ (by omega) (by omega), e2 j (by omega) hj]
    rfl
  obtain ⟨J3, k1, k2, k3, k4⟩ := r_str_n (N := N) (kx := fun (G : mm_M) (x1 : Int32) => q_is G m 8 <| q_cl (pX7_goOn_0 N m G x1) fun G _ => some (G, ())) h hi12 hN h1 h3 ht hb1 3 N 0 0 J2 [] zi_0 (by omega) (by omega) hi2 hb2.2.1 hv2 ⟨List.Pairwise.nil, (fun c hc => by cases hc), (fun c hc => by cases hc)⟩ (fun c hc => by cases hc)
  have hi3 := rid_congr (J' := J3) hi2 (k4 _ _ (by omega)) (fun _ => k4 _ _ (by omega))
  have hl3 := rlin_congr (J' := J3) hl (by rw [k4 _ _ (by omega), f02 _ _ (by omega) (by omega) (by omega) (by omega)]) (fun _ => by rw [k4 _ _ (by omega), f02 _ _ (by omega) (by omega) (by omega) (by omega)])
  obtain ⟨J4, q1, q2, q3, q4, q5, q6⟩ := r_goon (N := N) (now := now) h hi12 hN h1 ht (by simp) hi3 hl3 (by rw [k4 _ _ (by omega), g12]; rfl) k2 k3 (by rw [k4 _ _ (by omega), f02 _ _ (by omega) (by omega) (by omega) (by omega)]; exact hc)
  have f24 : ∀ z j, z ≠ m + 21 → (z ≠ m ∨ j ≠ 24) → (z ≠ m + 12 ∨ j ≠ i) → ((z ≠ m + 16 ∧ z ≠ m + 17) ∨ j < 12 * i ∨ 12 * i + 12 ≤ j) → J4 z j = J2 z j := fun z j z1 z2 z3 z4 => by rw [q6 z j z1 z2 z3 z4, k4 z j (by omega)]
  refine ⟨J4, ?_, ?_, ⟨q2, fun _ => q3⟩, q4, ?_, fun z j z1 z2 z3 z4 z5 => by rw [f24 z j z1 (by omega) (by omega) (by omega), f02 z j (by omega) (by omega) (by omega) (by omega)]⟩
  · rw [k1, w_is h.1, q1, w_cl]
  · exact rtb_congr hi.2.2.1 h12 hb2 (f24 _ _ (by omega) (by omega) (by omega) (by omega)) (f24 _ _ (by omega) (by omega) (by omega) (by omega)) (fun j hj => ⟨f24 _ _ (by omega) (by omega) (by omega) (by omega), f24 _ _ (by omega) (by omega) (by omega) (by omega), f24 _ _ (by omega) (by omega) (by omega) (by omega)⟩) (fun y hy => f24 _ _ (by omega) (by omega) (by omega) (by omega)) (Nat.le_refl _)
  · rw [f24 _ _ (by omega) (by omega) (by omega) (by omega), g1]
    exact zi_inc hs (by omega)
end RSTART
