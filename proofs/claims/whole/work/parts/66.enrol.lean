/-! a peer enrols -/
theorem pv_sme {G G1 : mm_M} {J : Nat → Nat → Int32} {b : Nat} {p : Pe} (h : pv G J b p) (h9 : pe9 p) (hs : ∀ z, b ≤ z → z < b + 40 → sme (mm_w G J) G1 z) : pv G1 (mm_I G1) b p := by
  obtain ⟨h0, ⟨h1, h2⟩, ⟨w, hw, ht⟩, hk, he⟩ := h
  have hI : ∀ z, b ≤ z → z < b + 40 → ∀ j, mm_I G1 z j = J z j := fun z z1 z2 j => (hs z z1 z2).2.2.2 j
  refine ⟨sP_sme (G := mm_w G J) h0 hs, ⟨by rw [hI b (by omega) (by omega)]; exact h1, by rw [hI b (by omega) (by omega)]; exact h2⟩, ⟨w, sT_sme (G := mm_w G J) hw (fun z z1 z2 => hs z (by omega) (by omega)), tv_congr hw h9 ht (fun z z1 z2 j => hI z (by omega) (by omega) j)⟩, lk_congr hk (fun z z1 z2 j => hI z (by omega) (by omega) j), en_congr he (fun z z1 z2 j => hI z (by omega) (by omega) j)⟩
theorem sP_lt {G : mm_M} {b : Nat} (h : sP G b) : b + 40 ≤ mm_nx G := by
  have := K_lt (h.2.2.2.2 2 (by omega)).2.1 (by decide)
  omega
theorem sO_lt {G : mm_M} {a : Nat} (h : sO G a) : a + 6 ≤ mm_nx G := by
  have := K_lt h.2.2.2.2.2.1 (by decide)
  omega
theorem sO_sme {G G1 : mm_M} {a : Nat} (h : sO G a) (hs : ∀ z, a ≤ z → z < a + 6 → sme G G1 z) : sO G1 a := by
  obtain ⟨h0, ⟨h1, h2, h3, h4⟩, ⟨h5, h5'⟩, ⟨n0, n1, n2, n3⟩, ⟨h7, h7'⟩, h8, h8'⟩ := h
  have s0 := hs a (by omega) (by omega)
  have s1 := hs (a + 1) (by omega) (by omega)
  have s2 := hs (a + 2) (by omega) (by omega)
  have s3 := hs (a + 3) (by omega) (by omega)
  have s4 := hs (a + 4) (by omega) (by omega)
  have s5 := hs (a + 5) (by omega) (by omega)
  exact ⟨s0.1.trans h0, ⟨(s0.2.2.1 _).trans h1, (s0.2.2.1 _).trans h2, (s0.2.2.1 _).trans h3, (s0.2.2.1 _).trans h4⟩, ⟨s1.1.trans h5, s1.2.1.trans h5'⟩, ⟨s2.1.trans n0, (s2.2.2.1 _).trans n1, s3.1.trans n2, s3.2.1.trans n3⟩, ⟨s4.1.trans h7, s4.2.1.trans h7'⟩, s5.1.trans h8, s5.2.1.trans h8'⟩
theorem CW_sme {G G1 : mm_M} {J : Nat → Nat → Int32} {a now ser : Nat} {P : List (Nat × Pe)} {L : List Dg} (h : CW G J a P now ser L) (h9 : ∀ q ∈ P, pe9 q.2) (hs : ∀ z, z < mm_nx G → sme (mm_w G J) G1 z) : CW G1 (mm_I G1) a P now ser L := by
  obtain ⟨c0, ⟨c1, c2⟩, ⟨c3, c4, c5⟩, c6, c7, c8⟩ := h
  have ha := sO_lt c0
  have hI : ∀ z, z < mm_nx G → ∀ j, mm_I G1 z j = J z j := fun z z1 j => (hs z z1).2.2.2 j
  refine ⟨sO_sme (G := mm_w G J) c0 (fun z _ z2 => hs z (by omega)), ⟨c1, c2⟩, ⟨by rw [hI _ (by omega)]; exact c3, by rw [hI _ (by omega)]; exact c4, by rw [hI _ (by omega)]; exact c5⟩, ⟨by rw [hI _ (by omega)]; exact c6.1, fun k D hD c hc => by rw [hI _ (by omega)]; exact c6.2 k D hD c hc⟩, fun k p hk => ?_, c8⟩
  obtain ⟨r1, r2, r3⟩ := c7 k p hk
  have hb := sP_lt r3.1
  exact ⟨((hs (a + 1) (by omega)).2.2.1 k).trans r1, r2, pv_sme r3 (h9 p (List.mem_of_getElem? hk)) (fun z z1 z2 => hs z (by omega))⟩
def sgA (G : mm_M) (a c i : Nat) : Nat → Option Nat := fun m => if i < m ∧ m ≤ c then mm_R G (a + 1) (m - 1) else mm_R G (a + 1) m
/-- whose number is greater -/
def ngt (P : List (Nat × Pe)) (u k : Nat) : Bool := decide (u < (P.getD k (0, 0, false, [], (0, 0, 0, 0, [], []), [])).2.1)
def eat (P : List (Nat × Pe)) (u : Nat) : Nat := ipf (ngt P u) P.length
def p00 (u : Nat) : Pe := (u, false, [], (0, 0, 0, 0, [], []), [])
def enr (P : List (Nat × Pe)) (u b : Nat) : List (Nat × Pe) := P.take (eat P u) ++ (b, p00 u) :: P.drop (eat P u)
theorem e_enrol_l {G : mm_M} {J : Nat → Nat → Int32} {a b u now ser N : Nat} {P : List (Nat × Pe)} {L : List Dg} {x : Int32} {kx : mm_M → Option Nat → Int32 → Option (mm_M × Option Nat)} (h : CW G J a P now ser L) (hc : P.length < 12) (hx : x.toInt = (u : Int)) : ∀ (i n : Nat) (y : Int32), y.toInt = (i : Int) → i ≤ P.length → i < n → ∃ y' : Int32, y'.toInt = ((ipf (ngt P u) i : Nat) : Int) ∧ pX6_enrolIfRoom_35 N a kx n (mm_w (mm_rw G (a + 1) (sgA G a P.length i)) J) x (some b) y = kx (mm_w (mm_rw G (a + 1) (sgA G a P.length (ipf (ngt P u) i))) J) (some b) y' := by
  intro i
  induction i with
  | zero =>
    intro n y hy hi hn
    obtain ⟨n, rfl⟩ : ∃ m, n = m + 1 := ⟨n - 1, by omega⟩
    refine ⟨y, hy, ?_⟩
    show pX6_enrolIfRoom_35_b N a _ kx _ x (some b) y = _
    unfold pX6_enrolIfRoom_35_b
    rw [if_pos (by rw [zi_le, hy, zi_0]; omega)]
    rfl
  | succ i ih =>
    intro n y hy hi hn
    obtain ⟨n, rfl⟩ : ∃ m, n = m + 1 := ⟨n - 1, by omega⟩
    have hlt : i < P.length := by omega
    obtain ⟨q1, q2, q3⟩ := h.2.2.2.2.1 i P[i] (List.getElem?_eq_getElem hlt)
    have hy1 := zi_dec hy (by omega)
    have hK : mm_K (mm_rw G (a + 1) (sgA G a P.length (i + 1))) (a + 1) = 103 := h.1.2.2.1.1
    have hln : i < mm_ln (mm_rw G (a + 1) (sgA G a P.length (i + 1))) (a + 1) := by
      show i < mm_ln G (a + 1)
      rw [h.1.2.2.1.2]; omega
    have hK0 : mm_K (mm_rw G (a + 1) (sgA G a P.length (i + 1))) a = 7 := h.1.1
    have hR0 : mm_R (mm_rw G (a + 1) (sgA G a P.length (i + 1))) a 0 = some (a + 1) := by
      rw [mm_rw_ne _ _ _ (by omega)]; exact h.1.2.1.1
    have hg : mm_R (mm_rw G (a + 1) (sgA G a P.length (i + 1))) (a + 1) i = some P[i].1 := by
      rw [mm_rw_at]; unfold sgA; rw [if_neg (by omega)]; exact q1
    have hKp : mm_K (mm_rw G (a + 1) (sgA G a P.length (i + 1))) P[i].1 = 5 := q3.1.1
    have hgt : ngt P u i = decide (u < P[i].2.1) := by
      unfold ngt
      rw [List.getD_eq_getElem?_getD, List.getElem?_eq_getElem hlt]
      rfl
    have pre : pX6_enrolIfRoom_35 N a kx (n + 1) (mm_w (mm_rw G (a + 1) (sgA G a P.length (i + 1))) J) x (some b) y = if J P[i].1 0 ≤ x then kx (mm_w (mm_rw G (a + 1) (sgA G a P.length (i + 1))) J) (some b) y else q_sR (mm_w (mm_rw G (a + 1) (sgA G a P.length (i + 1))) J) (a + 1) 103 5 y (some P[i].1) fun G => pX6_enrolIfRoom_35 N a kx n G x (some b) (y + (-1 : Int32)) := by
      show pX6_enrolIfRoom_35_b N a _ kx _ x (some b) y = _
      unfold pX6_enrolIfRoom_35_b
      rw [if_neg (by rw [zi_le, hy, zi_0]; omega), w_gR hK0, hR0, w_nn, w_aR hK hy1 hln, hg, w_op, w_gR hK0, hR0, w_nn, w_aR hK hy1 hln, hg, w_nn, w_gI hKp, w_gR hK0, hR0, w_gR hK0, hR0, w_nn, w_aR hK hy1 hln, hg, w_nn]
    rw [pre]
    show ∃ y', y'.toInt = (((if ngt P u i = true then ipf (ngt P u) i else i + 1) : Nat) : Int) ∧ _ = kx (mm_w (mm_rw G (a + 1) (sgA G a P.length (if ngt P u i = true then ipf (ngt P u) i else i + 1))) J) (some b) y'
    rw [hgt]
    by_cases hv : u < P[i].2.1
    · have hle : ¬ J P[i].1 0 ≤ x := by rw [zi_le, q3.2.1.1, hx]; omega
      have hde : decide (u < P[i].2.1) = true := decide_eq_true hv
      rw [if_neg hle, if_pos hde]
      rw [w_sR (i := i + 1) h.1.2.2.1.1 hy (by rw [h.1.2.2.1.2]; omega) (fun c hc => by cases hc; exact hKp)]
      have e2 : (fun k => if k = i + 1 then some P[i].1 else sgA G a P.length (i + 1) k) = sgA G a P.length i := by
        funext k
        unfold sgA
        by_cases hk : k = i + 1
        · rw [if_pos hk, if_pos (by omega), hk, Nat.add_sub_cancel]; exact q1.symm
        · rw [if_neg hk]
          by_cases hk2 : i + 1 < k ∧ k ≤ P.length
          · rw [if_pos hk2, if_pos (by omega)]
          · rw [if_neg hk2, if_neg (by omega)]
      rw [e2]
      clear hy1 hln hK hK0 hR0 hg hKp pre
      exact ih n _ (zi_dec2 hy (by omega)) (by omega) (by omega)
    · have hle : J P[i].1 0 ≤ x := by rw [zi_le, q3.2.1.1, hx]; omega
      have hde : ¬ decide (u < P[i].2.1) = true := fun e => hv (of_decide_eq_true e)
      rw [if_pos hle, if_neg hde]
      exact ⟨y, hy, rfl⟩
theorem ipf_len (P : List (Nat × Pe)) (u : Nat) : eat P u ≤ P.length := ipf_le _ _
theorem enr_at (P : List (Nat × Pe)) (u b j : Nat) : (enr P u b)[j]? = if j < eat P u then P[j]? else if j = eat P u then some (b, p00 u) else P[j - 1]? := by
  have hl := ipf_len P u
  unfold enr
  generalize eat P u = i at hl ⊢
  by_cases h1 : j < i
  · rw [if_pos h1, List.getElem?_append_left (by simp; omega), List.getElem?_take, if_pos h1]
  · rw [if_neg h1, List.getElem?_append_right (by simp; omega)]
    simp only [List.length_take, Nat.min_eq_left hl]
    by_cases h2 : j = i
    · rw [if_pos h2, h2, Nat.sub_self]; rfl
    · rw [if_neg h2, show j - i = (j - i - 1) + 1 by omega, List.getElem?_cons_succ, List.getElem?_drop]
      congr 1; omega
theorem enr_len (P : List (Nat × Pe)) (u b : Nat) : (enr P u b).length = P.length + 1 := by
  have hl := ipf_len P u
  unfold enr
  simp; omega
theorem lin_congr {J J' : Nat → Nat → Int32} {q : Nat} {L : List Dg} (h : lin J q L) (h0 : ∀ j, J' q j = J q j) (h1 : ∀ j, J' (q + 1) j = J (q + 1) j) : lin J' q L := ⟨by rw [h0]; exact h.1, fun k D hD c hc => by rw [h1]; exact h.2 k D hD c hc⟩
theorem e_enrol {G : mm_M} {J : Nat → Nat → Int32} {a b u now ser N : Nat} {P : List (Nat × Pe)} {L : List Dg} {x : Int32} (h : CW G J a P now ser L) (h9 : ∀ q ∈ P, pe9 q.2) (hl : lok G) (hb : mm_nx G = b) (hab : a + 29 ≤ b) (hc : P.length < 12) (hN : 400 ≤ N) (hx : x.toInt = (u : Int)) (hf : fp P (u : Int) = none) : ∃ G' J', pX6_enrolIfRoom_0 N a (mm_w G J) x = some (mm_w G' J', some b) ∧ CW G' J' a (enr P u b) now ser L ∧ lok G' ∧ mm_nx G' = b + 40 ∧ ∀ z, a + 6 ≤ z → z < a + 29 → sme (mm_w G J) (mm_w G' J') z := by
  obtain ⟨G1, m1, ⟨m2, m3, m4, m5⟩, m6, ⟨w, m7⟩, m8, m9, m10, m11, m12, m13⟩ := made4 (G := mm_w G J) (b := b) (N := N) (x := x) hl hb
  have h1 := CW_sme (G1 := G1) h h9 (fun z hz => m5 z (by omega))
  have hcI := zi_ofNat (n := P.length) (by omega)
  obtain ⟨y', l1, l2⟩ := e_enrol_l (b := b) (u := u) (N := N) (x := x) (kx := fun (G : mm_M) (x2 : Option Nat) (x3 : Int32) => q_gR G a 7 0 fun r86_22 => q_nn r86_22 fun b91_23 => q_sR G b91_23 103 5 x3 x2 fun G => q_gI G a 7 4 fun v94_24 => q_pI G a 7 4 (v94_24 + (1 : Int32)) fun G => some (G, x2)) h1 hc hx P.length N (mm_I G1 a 4) h1.2.2.1.1 (Nat.le_refl _) (by omega)
  have e0 : mm_rw G1 (a + 1) (sgA G1 a P.length P.length) = G1 := by
    have : sgA G1 a P.length P.length = mm_R G1 (a + 1) := by
      funext k; unfold sgA; rw [if_neg (by omega)]
    rw [this, mm_rwR]
  rw [e0] at l2
  rw [show ipf (ngt P u) P.length = eat P u from rfl] at l1 l2
  have hle := ipf_len P u
  have hK0 : mm_K (mm_rw G1 (a + 1) (sgA G1 a P.length (eat P u))) a = 7 := h1.1.1
  have hR0 : mm_R (mm_rw G1 (a + 1) (sgA G1 a P.length (eat P u))) a 0 = some (a + 1) := by
    rw [mm_rw_ne _ _ _ (by omega)]; exact h1.1.2.1.1
  rw [w_gR hK0, hR0, w_nn, w_sR (i := eat P u) h1.1.2.2.1.1 l1 (by rw [h1.1.2.2.1.2]; omega) (fun c hc => by cases hc; exact m6.1)] at l2
  have hprog : pX6_enrolIfRoom_0 N a (mm_w G J) x = pX6_enrolIfRoom_35 N a (fun (G : mm_M) (x2 : Option Nat) (x3 : Int32) => q_gR G a 7 0 fun r86_22 => q_nn r86_22 fun b91_23 => q_sR G b91_23 103 5 x3 x2 fun G => q_gI G a 7 4 fun v94_24 => q_pI G a 7 4 (v94_24 + (1 : Int32)) fun G => some (G, x2)) N G1 x (some b) (mm_I G1 a 4) := by
    unfold pX6_enrolIfRoom_0
    rw [w_is h.1.1, e_known h hN, w_cl, hx, hf]
    simp only [Option.map_none]
    rw [w_op0, w_gI h.1.1, if_pos (by rw [zi_lt, h.2.2.1.1, zi_12]; omega), w_new (G := mm_w G J) (b := b) hb, m1, w_cl]
    exact if_pos h1.1.1
  generalize hg : (fun k => if k = eat P u then some b else sgA G1 a P.length (eat P u) k) = g at l2
  rw [w_gI (show mm_K (mm_rw G1 (a + 1) g) a = 7 from hK0), w_pI (show mm_K (mm_rw G1 (a + 1) g) a = 7 from hK0)] at l2
  have hgk : ∀ k, g k = if k = eat P u then some b else sgA G1 a P.length (eat P u) k := fun k => by rw [← hg]
  have fr : ∀ z j, z ≠ a → js (mm_I G1) a 4 (mm_I G1 a 4 + 1) z j = mm_I G1 z j := fun z j hz => js_ne _ (Or.inl hz)
  refine ⟨mm_rw G1 (a + 1) g, js (mm_I G1) a 4 (mm_I G1 a 4 + 1), hprog.trans l2, ?_, m2, m4, ?_⟩
  · obtain ⟨c0, ⟨c1, c2⟩, ⟨c3, c4, c5⟩, c6, c7, c8⟩ := h1
    have hpb : ∀ (k : Nat) (p : Nat × Pe), P[k]? = some p → p.1 + 40 ≤ b := fun k p hk => by
      have := sP_lt (h.2.2.2.2.1 k p hk).2.2.1
      omega
    refine ⟨?_, ⟨by rw [enr_len]; omega, c2⟩, ⟨?_, by rw [js_ne _ (Or.inr (by omega))]; exact c4, by rw [js_ne _ (Or.inr (by omega))]; exact c5⟩, lin_congr c6 (fun j => fr _ _ (by omega)) (fun j => fr _ _ (by omega)), fun k p hk => ?_, fun i j p q hi hj hij => ?_⟩
    · obtain ⟨h0, ⟨h1, h2, h3, h4⟩, h5, ⟨n0, n1, n2⟩, h7, h8⟩ := c0
      exact ⟨h0, ⟨by rw [mm_rw_ne _ _ _ (by omega)]; exact h1, by rw [mm_rw_ne _ _ _ (by omega)]; exact h2, by rw [mm_rw_ne _ _ _ (by omega)]; exact h3, by rw [mm_rw_ne _ _ _ (by omega)]; exact h4⟩, h5, ⟨n0, by rw [mm_rw_ne _ _ _ (by omega)]; exact n1, n2⟩, h7, h8⟩
    · rw [js_same, enr_len, zi_inc c3 (by omega)]
    · rw [enr_at] at hk
      have keep : ∀ k0, P[k0]? = some p → g k = mm_R G1 (a + 1) k0 → mm_R (mm_rw G1 (a + 1) g) (a + 1) k = some p.1 ∧ a + 29 ≤ p.1 ∧ pv (mm_rw G1 (a + 1) g) (js (mm_I G1) a 4 (mm_I G1 a 4 + 1)) p.1 p.2 := by
        intro k0 hk0 hgk0
        obtain ⟨r1, r2, r3⟩ := c7 k0 p hk0
        refine ⟨by rw [mm_rw_at, hgk0]; exact r1, r2, pv_keep r3 (h9 p (List.mem_of_getElem? hk0)) (by omega) (fun z z1 z2 j => fr z j (by omega))⟩
      by_cases k1 : k < eat P u
      · rw [if_pos k1] at hk
        refine keep k hk ?_
        rw [hgk, if_neg (by omega)]; unfold sgA; rw [if_neg (by omega)]
      · rw [if_neg k1] at hk
        by_cases k2 : k = eat P u
        · rw [if_pos k2] at hk
          cases hk
          refine ⟨by rw [mm_rw_at, hgk, if_pos k2], hab, ?_⟩
          have hp0 : pv G1 (mm_I G1) b (p00 u) := by
            refine ⟨m6, ⟨by rw [m8]; exact hx, by rw [m9]; rfl⟩, ⟨w, m7, by rw [m10]; exact hx, by rw [m11]; rfl, fun k b hk => by cases hk⟩, ⟨⟨by rw [m12]; rfl, by rw [m12]; rfl, by rw [m12]; rfl, by rw [m12]; rfl⟩, ⟨by rw [m12]; rfl, by rw [m12]; rfl⟩, fun j c hj => (by cases hj), fun j c hj => (by cases hj)⟩, by rw [m13]; rfl, fun j c hj => (by cases hj)⟩
          exact pv_keep hp0 (Nat.zero_le _) (by dsimp only; omega) (fun z z1 z2 j => fr z j (by dsimp only at z1; omega))
        · rw [if_neg k2] at hk
          refine keep (k - 1) hk ?_
          have hkl := (List.getElem?_eq_some_iff.mp hk).1
          rw [hgk, if_neg k2]; unfold sgA; rw [if_pos (by omega)]
    · rw [enr_at] at hi hj
      by_cases i1 : i < eat P u
      · rw [if_pos i1] at hi
        by_cases j1 : j < eat P u
        · rw [if_pos j1] at hj; exact c8 i j p q hi hj hij
        · rw [if_neg j1] at hj
          by_cases j2 : j = eat P u
          · rw [if_pos j2] at hj; cases hj; exact Or.inl (hpb i p hi)
          · rw [if_neg j2] at hj; exact c8 i (j - 1) p q hi hj (by omega)
      · rw [if_neg i1] at hi
        by_cases i2 : i = eat P u
        · rw [if_pos i2] at hi; cases hi
          by_cases j1 : j < eat P u
          · rw [if_pos j1] at hj; exact Or.inr (hpb j q hj)
          · rw [if_neg j1] at hj
            by_cases j2 : j = eat P u
            · omega
            · rw [if_neg j2] at hj; exact Or.inr (hpb (j - 1) q hj)
        · rw [if_neg i2] at hi
          by_cases j1 : j < eat P u
          · rw [if_pos j1] at hj; exact c8 (i - 1) j p q hi hj (by omega)
          · rw [if_neg j1] at hj
            by_cases j2 : j = eat P u
            · rw [if_pos j2] at hj; cases hj; exact Or.inl (hpb (i - 1) p hi)
            · rw [if_neg j2] at hj; exact c8 (i - 1) (j - 1) p q hi hj (by omega)
  · intro z z1 z2
    have := m5 z (by omega)
    exact ⟨this.1, this.2.1, fun j => by
      show mm_R (mm_rw G1 (a + 1) g) z j = _
      rw [mm_rw_ne _ _ _ (by omega)]; exact this.2.2.1 j, fun j => (fr z j (by omega)).trans (this.2.2.2 j)⟩
