/-! what is made anew -/
def sme (G G' : mm_M) (z : Nat) : Prop := mm_K G' z = mm_K G z ∧ mm_ln G' z = mm_ln G z ∧ (∀ j, mm_R G' z j = mm_R G z j) ∧ ∀ j, mm_I G' z j = mm_I G z j
theorem sme.trans {G G' G'' : mm_M} {z : Nat} (h : sme G G' z) (k : sme G' G'' z) : sme G G'' z := ⟨k.1.trans h.1, k.2.1.trans h.2.1, fun j => (k.2.2.1 j).trans (h.2.2.1 j), fun j => (k.2.2.2 j).trans (h.2.2.2 j)⟩
theorem sB_sme {G G' : mm_M} {q : Nat} (h : sB G q) (hs : ∀ z, q ≤ z → z < q + 3 → sme G G' z) : sB G' q := by
  obtain ⟨h0, h1, h2, ⟨h3, h4⟩, h5, h6⟩ := h
  have s0 := hs q (by omega) (by omega)
  have s1 := hs (q + 1) (by omega) (by omega)
  have s2 := hs (q + 2) (by omega) (by omega)
  exact ⟨s0.1.trans h0, (s0.2.2.1 0).trans h1, (s0.2.2.1 1).trans h2, ⟨s1.1.trans h3, s1.2.1.trans h4⟩, s2.1.trans h5, s2.2.1.trans h6⟩
theorem sL_sme {G G' : mm_M} {q : Nat} (h : sL G q) (hs : ∀ z, q ≤ z → z < q + 6 → sme G G' z) : sL G' q := by
  obtain ⟨h0, h1⟩ := h
  have s0 := hs q (by omega) (by omega)
  refine ⟨s0.1.trans h0, fun i hi => ?_⟩
  have si := hs (q + 1 + i) (by omega) (by omega)
  obtain ⟨a, b, c⟩ := h1 i hi
  exact ⟨(s0.2.2.1 i).trans a, si.1.trans b, si.2.1.trans c⟩
theorem sE_sme {G G' : mm_M} {q : Nat} (h : sE G q) (hs : ∀ z, q ≤ z → z < q + 4 → sme G G' z) : sE G' q := by
  obtain ⟨h0, h1⟩ := h
  have s0 := hs q (by omega) (by omega)
  refine ⟨s0.1.trans h0, fun i hi => ?_⟩
  have si := hs (q + 1 + i) (by omega) (by omega)
  obtain ⟨a, b, c⟩ := h1 i hi
  exact ⟨(s0.2.2.1 i).trans a, si.1.trans b, si.2.1.trans c⟩
theorem sT_sme {G G' : mm_M} {q : Nat} {w : Nat → Nat} (h : sT G q w) (hs : ∀ z, q ≤ z → z < q + 29 → sme G G' z) : sT G' q w := by
  obtain ⟨h0, h1, ⟨h2, h3⟩, h4, h5, h6⟩ := h
  have s0 := hs q (by omega) (by omega)
  have s1 := hs (q + 1) (by omega) (by omega)
  exact ⟨s0.1.trans h0, (s0.2.2.1 1).trans h1, ⟨s1.1.trans h2, s1.2.1.trans h3⟩, fun k hk => ⟨(s1.2.2.1 k).trans (h4 k hk).1, (h4 k hk).2⟩, h5, fun m hm => sB_sme (h6 m hm) (fun z z1 z2 => hs z (by omega) (by omega))⟩
theorem sP_sme {G G' : mm_M} {b : Nat} (h : sP G b) (hs : ∀ z, b ≤ z → z < b + 40 → sme G G' z) : sP G' b := by
  obtain ⟨h0, ⟨h1, h2, h3⟩, h4, h5⟩ := h
  have s0 := hs b (by omega) (by omega)
  exact ⟨s0.1.trans h0, ⟨(s0.2.2.1 1).trans h1, (s0.2.2.1 2).trans h2, (s0.2.2.1 3).trans h3⟩, sL_sme h4 (fun z z1 z2 => hs z (by omega) (by omega)), sE_sme h5 (fun z z1 z2 => hs z (by omega) (by omega))⟩
def lok (G : mm_M) : Prop := mm_lo G ≤ mm_nx G
theorem lok_nw {G : mm_M} {kd n : Nat} (h : lok G) : lok (mm_nw G kd n) := Nat.le_succ_of_le h
theorem lok_sR {G : mm_M} {a k : Nat} {v : Option Nat} : lok (mm_sR G a k v) = lok G := rfl
theorem lok_sI {G : mm_M} {a k : Nat} {v : Int32} : lok (mm_sI G a k v) = lok G := rfl
theorem nx_nw {G : mm_M} {kd n : Nat} : mm_nx (mm_nw G kd n) = mm_nx G + 1 := rfl
theorem nx_sR {G : mm_M} {a k : Nat} {v : Option Nat} : mm_nx (mm_sR G a k v) = mm_nx G := rfl
theorem nx_sI {G : mm_M} {a k : Nat} {v : Int32} : mm_nx (mm_sI G a k v) = mm_nx G := rfl
theorem lo_nw {G : mm_M} {kd n : Nat} : mm_lo (mm_nw G kd n) = mm_lo G := rfl
theorem lo_sR {G : mm_M} {a k : Nat} {v : Option Nat} : mm_lo (mm_sR G a k v) = mm_lo G := rfl
theorem lo_sI {G : mm_M} {a k : Nat} {v : Int32} : mm_lo (mm_sI G a k v) = mm_lo G := rfl
theorem K_sR {G : mm_M} {a k b : Nat} {v : Option Nat} : mm_K (mm_sR G a k v) b = mm_K G b := rfl
theorem K_sI {G : mm_M} {a k b : Nat} {v : Int32} : mm_K (mm_sI G a k v) b = mm_K G b := rfl
theorem K_nw {G : mm_M} {kd n b : Nat} (h : lok G) : mm_K (mm_nw G kd n) b = if b = mm_nx G then kd else mm_K G b := by
  have h' : mm_lo G ≤ mm_nx G := h
  unfold mm_K
  rw [lo_nw, nx_nw]
  by_cases hb : b = mm_nx G
  · rw [if_pos (by omega), if_pos hb]
    show (if b = mm_nx G then kd else mm_kd G b) = kd
    rw [if_pos hb]
  · rw [if_neg hb]
    by_cases hc : mm_lo G ≤ b ∧ b < mm_nx G
    · rw [if_pos (by omega), if_pos hc]
      show (if b = mm_nx G then kd else mm_kd G b) = _
      rw [if_neg hb]
    · rw [if_neg (by omega), if_neg hc]
theorem ln_sR {G : mm_M} {a k b : Nat} {v : Option Nat} : mm_ln (mm_sR G a k v) b = mm_ln G b := rfl
theorem ln_sI {G : mm_M} {a k b : Nat} {v : Int32} : mm_ln (mm_sI G a k v) b = mm_ln G b := rfl
theorem ln_nw {G : mm_M} {kd n b : Nat} : mm_ln (mm_nw G kd n) b = if b = mm_nx G then n else mm_ln G b := rfl
theorem R_sR {G : mm_M} {a k b j : Nat} {v : Option Nat} : mm_R (mm_sR G a k v) b j = if b = a ∧ j = k then v else mm_R G b j := rfl
theorem R_sI {G : mm_M} {a k b j : Nat} {v : Int32} : mm_R (mm_sI G a k v) b j = mm_R G b j := rfl
theorem R_nw {G : mm_M} {kd n b j : Nat} : mm_R (mm_nw G kd n) b j = if b = mm_nx G then none else mm_R G b j := rfl
theorem I_sR {G : mm_M} {a k b j : Nat} {v : Option Nat} : mm_I (mm_sR G a k v) b j = mm_I G b j := rfl
theorem I_sI {G : mm_M} {a k b j : Nat} {v : Int32} : mm_I (mm_sI G a k v) b j = if b = a ∧ j = k then v else mm_I G b j := rfl
theorem I_nw {G : mm_M} {kd n b j : Nat} : mm_I (mm_nw G kd n) b j = if b = mm_nx G then 0 else mm_I G b j := rfl
/-- an array made and put into a field -/
def aS (b : Nat) (G : mm_M) (t : Nat × Nat × Nat) : mm_M := mm_sR (mm_nw G t.1 t.2.1) b t.2.2 (some (mm_nx G))
theorem lok_aS {G : mm_M} {b : Nat} {t : Nat × Nat × Nat} (h : lok G) : lok (aS b G t) := lok_nw (kd := t.1) (n := t.2.1) h
theorem aS_K {G : mm_M} {b z kd : Nat} {t : Nat × Nat × Nat} (hl : lok G) (h : mm_K G z = kd) (hk : kd ≠ 0) : mm_K (aS b G t) z = kd := by
  unfold aS
  rw [K_sR, K_nw hl, if_neg, h]
  intro e
  unfold mm_K at h
  rw [if_neg (by omega)] at h
  exact hk h.symm
theorem K_lt {G : mm_M} {z kd : Nat} (h : mm_K G z = kd) (hk : kd ≠ 0) : z < mm_nx G := by
  unfold mm_K at h
  by_cases hz : z < mm_nx G
  · exact hz
  · rw [if_neg (by omega)] at h
    exact absurd h.symm hk
theorem w_aS {α : Type} {G : mm_M} {b kd ak n k : Nat} {f : Nat → mm_M → Option α} (hl : lok G) (h : mm_K G b = kd) (hk : kd ≠ 0) : (q_arr G ak n fun G c => q_pR G b kd k (some c) (f c)) = f (mm_nx G) (aS b G (ak, n, k)) := if_pos (by
  rw [K_nw hl, if_neg (by have := K_lt h hk; omega), h])
theorem w_pI2 {α : Type} {G : mm_M} {b kd k : Nat} {v : Int32} {f : mm_M → Option α} (h : mm_K G b = kd) : q_pI G b kd k v f = f (mm_sI G b k v) := if_pos h
theorem kI {G : mm_M} {b c k kd : Nat} {v : Int32} (h : mm_K G b = kd) : mm_K (mm_sI G c k v) b = kd := h
theorem w_pR2 {α : Type} {G : mm_M} {b kd k : Nat} {v : Option Nat} {f : mm_M → Option α} (h : mm_K G b = kd) : q_pR G b kd k v f = f (mm_sR G b k v) := if_pos h
def mkA (b : Nat) : List (Nat × Nat × Nat) → mm_M → mm_M
  | [], G => G
  | t :: l, G => mkA b l (aS b G t)
theorem mkA_spec {b kd : Nat} (hk : kd ≠ 0) : ∀ (l : List (Nat × Nat × Nat)) (G : mm_M), lok G → mm_K G b = kd → (l.map (fun t => t.2.2)).Nodup → (lok (mkA b l G) ∧ mm_lo (mkA b l G) = mm_lo G ∧ mm_nx (mkA b l G) = mm_nx G + l.length ∧ mm_K (mkA b l G) b = kd) ∧ (∀ z, z < mm_nx G → mm_K (mkA b l G) z = mm_K G z ∧ mm_ln (mkA b l G) z = mm_ln G z ∧ (∀ j, mm_I (mkA b l G) z j = mm_I G z j) ∧ (z ≠ b → ∀ j, mm_R (mkA b l G) z j = mm_R G z j)) ∧ (∀ j, j ∉ l.map (fun t => t.2.2) → mm_R (mkA b l G) b j = mm_R G b j) ∧ ∀ (i : Nat) (t : Nat × Nat × Nat), l[i]? = some t → mm_K (mkA b l G) (mm_nx G + i) = t.1 ∧ mm_ln (mkA b l G) (mm_nx G + i) = t.2.1 ∧ mm_R (mkA b l G) b t.2.2 = some (mm_nx G + i) ∧ (∀ j, mm_I (mkA b l G) (mm_nx G + i) j = 0) ∧ ∀ j, mm_R (mkA b l G) (mm_nx G + i) j = none
  | [], G, hl, hb, _ => ⟨⟨hl, rfl, rfl, hb⟩, fun z _ => ⟨rfl, rfl, fun _ => rfl, fun _ _ => rfl⟩, fun _ _ => rfl, fun i t h => by cases h⟩
  | t :: l, G, hl, hb, hn => by
    have hlt := K_lt hb hk
    rw [List.map_cons, List.nodup_cons] at hn
    obtain ⟨⟨h1, h2, h3, h4⟩, h5, h6, h7⟩ := mkA_spec hk l (aS b G t) (lok_aS hl) (aS_K hl hb hk) hn.2
    have hnx : mm_nx (aS b G t) = mm_nx G + 1 := rfl
    rw [hnx] at h3 h5 h7
    refine ⟨⟨h1, h2, ?_, h4⟩, fun z hz => ?_, fun j hj => ?_, fun i s hi => ?_⟩
    · show mm_nx (mkA b l (aS b G t)) = _
      rw [h3, List.length_cons]; omega
    · obtain ⟨k1, k2, k3, k4⟩ := h5 z (by omega)
      refine ⟨k1.trans ?_, k2.trans ?_, fun j => (k3 j).trans ?_, fun hzb j => (k4 hzb j).trans ?_⟩
      · unfold aS; rw [K_sR, K_nw hl, if_neg (by omega)]
      · unfold aS; rw [ln_sR, ln_nw, if_neg (by omega)]
      · unfold aS; rw [I_sR, I_nw, if_neg (by omega)]
      · unfold aS; rw [R_sR, if_neg (fun e => hzb e.1), R_nw, if_neg (by omega)]
    · rw [List.map_cons, List.mem_cons, not_or] at hj
      refine (h6 j hj.2).trans ?_
      unfold aS
      rw [R_sR, if_neg (fun e => hj.1 e.2), R_nw, if_neg (by omega)]
    · cases i with
      | zero =>
        cases hi
        obtain ⟨k1, k2, k3, k4⟩ := h5 (mm_nx G) (by omega)
        refine ⟨k1.trans ?_, k2.trans ?_, (h6 _ hn.1).trans ?_, fun j => (k3 j).trans ?_, fun j => (k4 (by omega) j).trans ?_⟩
        · unfold aS; rw [K_sR, K_nw hl, if_pos rfl]
        · unfold aS; rw [ln_sR, ln_nw, if_pos rfl]
        · unfold aS; rw [R_sR, if_pos ⟨rfl, rfl⟩]; rfl
        · unfold aS; rw [I_sR, I_nw, if_pos rfl]
        · unfold aS; rw [R_sR, if_neg (by omega), R_nw, if_pos rfl]
      | succ i =>
        have := h7 i s hi
        rw [Nat.add_right_comm, Nat.add_assoc] at this
        exact this
def mkI (b : Nat) : List Nat → mm_M → mm_M
  | [], G => G
  | k :: l, G => mkI b l (mm_sI G b k 0)
theorem mkI_spec {b : Nat} : ∀ (l : List Nat) (G : mm_M), (lok (mkI b l G) = lok G ∧ mm_lo (mkI b l G) = mm_lo G ∧ mm_nx (mkI b l G) = mm_nx G ∧ mm_K (mkI b l G) = mm_K G ∧ mm_ln (mkI b l G) = mm_ln G ∧ mm_R (mkI b l G) = mm_R G) ∧ ∀ z j, (z ≠ b → mm_I (mkI b l G) z j = mm_I G z j) ∧ (mm_I G z j = 0 → mm_I (mkI b l G) z j = 0)
  | [], G => ⟨⟨rfl, rfl, rfl, rfl, rfl, rfl⟩, fun z j => ⟨fun _ => rfl, fun h => h⟩⟩
  | k :: l, G => by
    obtain ⟨⟨h1, h2, h3, h4, h5, h6⟩, h7⟩ := mkI_spec l (mm_sI G b k 0)
    refine ⟨⟨h1, h2, h3, h4, h5, h6⟩, fun z j => ⟨fun hz => ((h7 z j).1 hz).trans ?_, fun hz => (h7 z j).2 ?_⟩⟩
    · rw [I_sI, if_neg (fun e => hz e.1)]
    · rw [I_sI]; split
      · rfl
      · exact hz
/-- an object with its arrays, its ints 0 -/
def mkO (b kd : Nat) (l : List (Nat × Nat × Nat)) (ks : List Nat) (G : mm_M) : mm_M := mkI b ks (mkA b l (mm_nw G kd 0))
theorem mkO_spec {G : mm_M} {b kd : Nat} {l : List (Nat × Nat × Nat)} {ks : List Nat} (hk : kd ≠ 0) (hl : lok G) (hb : mm_nx G = b) (hn : (l.map (fun t => t.2.2)).Nodup) : (lok (mkO b kd l ks G) ∧ mm_lo (mkO b kd l ks G) = mm_lo G ∧ mm_nx (mkO b kd l ks G) = b + 1 + l.length ∧ mm_K (mkO b kd l ks G) b = kd) ∧ (∀ z, z < b → sme G (mkO b kd l ks G) z) ∧ (∀ (i : Nat) (t : Nat × Nat × Nat), l[i]? = some t → mm_K (mkO b kd l ks G) (b + 1 + i) = t.1 ∧ mm_ln (mkO b kd l ks G) (b + 1 + i) = t.2.1 ∧ mm_R (mkO b kd l ks G) b t.2.2 = some (b + 1 + i) ∧ ∀ j, mm_R (mkO b kd l ks G) (b + 1 + i) j = none) ∧ ∀ z, b ≤ z → z < b + 1 + l.length → ∀ j, mm_I (mkO b kd l ks G) z j = 0 := by
  subst hb
  have hK : mm_K (mm_nw G kd 0) (mm_nx G) = kd := by rw [K_nw hl, if_pos rfl]
  obtain ⟨⟨h1, h2, h3, h4⟩, h5, h6, h7⟩ := mkA_spec hk l (mm_nw G kd 0) (lok_nw hl) hK hn
  obtain ⟨⟨g1, g2, g3, g4, g5, g6⟩, g7⟩ := mkI_spec (b := mm_nx G) ks (mkA (mm_nx G) l (mm_nw G kd 0))
  rw [nx_nw] at h3 h5 h7
  unfold mkO
  refine ⟨⟨by rw [g1]; exact h1, by rw [g2, h2]; rfl, by rw [g3, h3], by rw [g4]; exact h4⟩, fun z hz => ?_, fun i t ht => ?_, fun z z1 z2 j => ?_⟩
  · obtain ⟨k1, k2, k3, k4⟩ := h5 z (by omega)
    refine ⟨?_, ?_, fun j => ?_, fun j => ?_⟩
    · rw [g4, k1, K_nw hl, if_neg (by omega)]
    · rw [g5, k2, ln_nw, if_neg (by omega)]
    · rw [g6, k4 (by omega) j, R_nw, if_neg (by omega)]
    · rw [(g7 z j).1 (by omega), k3 j, I_nw, if_neg (by omega)]
  · obtain ⟨k1, k2, k3, k4, k5⟩ := h7 i t ht
    exact ⟨by rw [g4]; exact k1, by rw [g5]; exact k2, by rw [g6]; exact k3, fun j => by rw [g6]; exact k5 j⟩
  · refine (g7 z j).2 ?_
    by_cases hz : z = mm_nx G
    · obtain ⟨k1, k2, k3, k4⟩ := h5 z (by omega)
      rw [k3 j, I_nw, if_pos hz]
    · have := (h7 (z - (mm_nx G + 1)) (l[z - (mm_nx G + 1)]'(by omega)) (List.getElem?_eq_getElem _)).2.2.2.1 j
      rw [show mm_nx G + 1 + (z - (mm_nx G + 1)) = z by omega] at this
      exact this
theorem mk0_eq {G : mm_M} {b N : Nat} (hl : lok G) (hb : mm_nx G = b) : pX0_init_0 N b (mm_nw G 1 0) = some (mkO b 1 [(101, 3, 0), (101, 3, 1)] [2, 3, 4, 5] G, ()) := by
  have l0 : lok (mm_nw G 1 0) := lok_nw hl
  have h0 : mm_K (mm_nw G 1 0) b = 1 := by rw [K_nw hl, if_pos hb.symm]
  unfold pX0_init_0
  refine (w_aS l0 h0 (by decide)).trans ?_
  have h1 := aS_K (b := b) (t := (101, 3, 0)) l0 h0 (by decide)
  have l1 := lok_aS (b := b) (t := (101, 3, 0)) l0
  refine (w_aS l1 h1 (by decide)).trans ?_
  have h2 := aS_K (b := b) (t := (101, 3, 1)) l1 h1 (by decide)
  have l2 := lok_aS (b := b) (t := (101, 3, 1)) l1
  refine (w_pI2 h2).trans ?_
  refine (w_pI2 (kI h2)).trans ?_
  refine (w_pI2 (kI (kI h2))).trans ?_
  refine (w_pI2 (kI (kI (kI h2)))).trans ?_
  rfl
theorem mk1_eq {G : mm_M} {b N : Nat} (hl : lok G) (hb : mm_nx G = b) : pX1_init_0 N b (mm_nw G 2 0) = some (mkO b 2 [(101, 6, 0), (101, 6, 1), (101, 6, 2)] [3] G, ()) := by
  have l0 : lok (mm_nw G 2 0) := lok_nw hl
  have h0 : mm_K (mm_nw G 2 0) b = 2 := by rw [K_nw hl, if_pos hb.symm]
  unfold pX1_init_0
  refine (w_aS l0 h0 (by decide)).trans ?_
  have h1 := aS_K (b := b) (t := (101, 6, 0)) l0 h0 (by decide)
  have l1 := lok_aS (b := b) (t := (101, 6, 0)) l0
  refine (w_aS l1 h1 (by decide)).trans ?_
  have h2 := aS_K (b := b) (t := (101, 6, 1)) l1 h1 (by decide)
  have l2 := lok_aS (b := b) (t := (101, 6, 1)) l1
  refine (w_aS l2 h2 (by decide)).trans ?_
  have h3 := aS_K (b := b) (t := (101, 6, 2)) l2 h2 (by decide)
  have l3 := lok_aS (b := b) (t := (101, 6, 2)) l2
  refine (w_pI2 h3).trans ?_
  rfl
theorem mk2_eq {G : mm_M} {b N : Nat} (hl : lok G) (hb : mm_nx G = b) : pX2_init_0 N b (mm_nw G 3 0) = some (mkO b 3 [(101, 288, 0)] [1] G, ()) := by
  have l0 : lok (mm_nw G 3 0) := lok_nw hl
  have h0 : mm_K (mm_nw G 3 0) b = 3 := by rw [K_nw hl, if_pos hb.symm]
  unfold pX2_init_0
  refine (w_aS l0 h0 (by decide)).trans ?_
  have h1 := aS_K (b := b) (t := (101, 288, 0)) l0 h0 (by decide)
  have l1 := lok_aS (b := b) (t := (101, 288, 0)) l0
  refine (w_pI2 h1).trans ?_
  rfl
theorem mk3_eq {G : mm_M} {b N : Nat} (hl : lok G) (hb : mm_nx G = b) : pX3_init_0 N b (mm_nw G 4 0) = some (mkO b 4 [(101, 12, 0), (101, 12, 1), (101, 12, 2), (101, 12, 3), (101, 12, 4)] [5, 9, 10] G, ()) := by
  have l0 : lok (mm_nw G 4 0) := lok_nw hl
  have h0 : mm_K (mm_nw G 4 0) b = 4 := by rw [K_nw hl, if_pos hb.symm]
  unfold pX3_init_0
  refine (w_aS l0 h0 (by decide)).trans ?_
  have h1 := aS_K (b := b) (t := (101, 12, 0)) l0 h0 (by decide)
  have l1 := lok_aS (b := b) (t := (101, 12, 0)) l0
  refine (w_aS l1 h1 (by decide)).trans ?_
  have h2 := aS_K (b := b) (t := (101, 12, 1)) l1 h1 (by decide)
  have l2 := lok_aS (b := b) (t := (101, 12, 1)) l1
  refine (w_aS l2 h2 (by decide)).trans ?_
  have h3 := aS_K (b := b) (t := (101, 12, 2)) l2 h2 (by decide)
  have l3 := lok_aS (b := b) (t := (101, 12, 2)) l2
  refine (w_aS l3 h3 (by decide)).trans ?_
  have h4 := aS_K (b := b) (t := (101, 12, 3)) l3 h3 (by decide)
  have l4 := lok_aS (b := b) (t := (101, 12, 3)) l3
  refine (w_aS l4 h4 (by decide)).trans ?_
  have h5 := aS_K (b := b) (t := (101, 12, 4)) l4 h4 (by decide)
  have l5 := lok_aS (b := b) (t := (101, 12, 4)) l4
  refine (w_pI2 h5).trans ?_
  refine (w_pI2 (kI h5)).trans ?_
  refine (w_pI2 (kI (kI h5))).trans ?_
  rfl
theorem mk7_eq {G : mm_M} {b N : Nat} (hl : lok G) (hb : mm_nx G = b) : pX7_init_0 N b (mm_nw G 8 0) = some (mkO b 8 [(101, 12, 4), (102, 12, 5), (102, 144, 6), (101, 144, 7), (101, 144, 8), (101, 12, 9), (101, 108, 10), (101, 12, 11), (101, 72, 12), (101, 72, 13), (101, 72, 14), (101, 12, 15), (101, 12, 16), (101, 12, 17), (101, 12, 18), (101, 144, 19), (101, 144, 20), (101, 144, 21), (101, 12, 22), (101, 144, 23), (101, 288, 25), (101, 12, 26)] [] G, ()) := by
  have l0 : lok (mm_nw G 8 0) := lok_nw hl
  have h0 : mm_K (mm_nw G 8 0) b = 8 := by rw [K_nw hl, if_pos hb.symm]
  unfold pX7_init_0
  refine (w_aS l0 h0 (by decide)).trans ?_
  have h1 := aS_K (b := b) (t := (101, 12, 4)) l0 h0 (by decide)
  have l1 := lok_aS (b := b) (t := (101, 12, 4)) l0
  refine (w_aS l1 h1 (by decide)).trans ?_
  have h2 := aS_K (b := b) (t := (102, 12, 5)) l1 h1 (by decide)
  have l2 := lok_aS (b := b) (t := (102, 12, 5)) l1
  refine (w_aS l2 h2 (by decide)).trans ?_
  have h3 := aS_K (b := b) (t := (102, 144, 6)) l2 h2 (by decide)
  have l3 := lok_aS (b := b) (t := (102, 144, 6)) l2
  refine (w_aS l3 h3 (by decide)).trans ?_
  have h4 := aS_K (b := b) (t := (101, 144, 7)) l3 h3 (by decide)
  have l4 := lok_aS (b := b) (t := (101, 144, 7)) l3
  refine (w_aS l4 h4 (by decide)).trans ?_
  have h5 := aS_K (b := b) (t := (101, 144, 8)) l4 h4 (by decide)
  have l5 := lok_aS (b := b) (t := (101, 144, 8)) l4
  refine (w_aS l5 h5 (by decide)).trans ?_
  have h6 := aS_K (b := b) (t := (101, 12, 9)) l5 h5 (by decide)
  have l6 := lok_aS (b := b) (t := (101, 12, 9)) l5
  refine (w_aS l6 h6 (by decide)).trans ?_
  have h7 := aS_K (b := b) (t := (101, 108, 10)) l6 h6 (by decide)
  have l7 := lok_aS (b := b) (t := (101, 108, 10)) l6
  refine (w_aS l7 h7 (by decide)).trans ?_
  have h8 := aS_K (b := b) (t := (101, 12, 11)) l7 h7 (by decide)
  have l8 := lok_aS (b := b) (t := (101, 12, 11)) l7
  refine (w_aS l8 h8 (by decide)).trans ?_
  have h9 := aS_K (b := b) (t := (101, 72, 12)) l8 h8 (by decide)
  have l9 := lok_aS (b := b) (t := (101, 72, 12)) l8
  refine (w_aS l9 h9 (by decide)).trans ?_
  have h10 := aS_K (b := b) (t := (101, 72, 13)) l9 h9 (by decide)
  have l10 := lok_aS (b := b) (t := (101, 72, 13)) l9
  refine (w_aS l10 h10 (by decide)).trans ?_
  have h11 := aS_K (b := b) (t := (101, 72, 14)) l10 h10 (by decide)
  have l11 := lok_aS (b := b) (t := (101, 72, 14)) l10
  refine (w_aS l11 h11 (by decide)).trans ?_
  have h12 := aS_K (b := b) (t := (101, 12, 15)) l11 h11 (by decide)
  have l12 := lok_aS (b := b) (t := (101, 12, 15)) l11
  refine (w_aS l12 h12 (by decide)).trans ?_
  have h13 := aS_K (b := b) (t := (101, 12, 16)) l12 h12 (by decide)
  have l13 := lok_aS (b := b) (t := (101, 12, 16)) l12
  refine (w_aS l13 h13 (by decide)).trans ?_
  have h14 := aS_K (b := b) (t := (101, 12, 17)) l13 h13 (by decide)
  have l14 := lok_aS (b := b) (t := (101, 12, 17)) l13
  refine (w_aS l14 h14 (by decide)).trans ?_
  have h15 := aS_K (b := b) (t := (101, 12, 18)) l14 h14 (by decide)
  have l15 := lok_aS (b := b) (t := (101, 12, 18)) l14
  refine (w_aS l15 h15 (by decide)).trans ?_
  have h16 := aS_K (b := b) (t := (101, 144, 19)) l15 h15 (by decide)
  have l16 := lok_aS (b := b) (t := (101, 144, 19)) l15
  refine (w_aS l16 h16 (by decide)).trans ?_
  have h17 := aS_K (b := b) (t := (101, 144, 20)) l16 h16 (by decide)
  have l17 := lok_aS (b := b) (t := (101, 144, 20)) l16
  refine (w_aS l17 h17 (by decide)).trans ?_
  have h18 := aS_K (b := b) (t := (101, 144, 21)) l17 h17 (by decide)
  have l18 := lok_aS (b := b) (t := (101, 144, 21)) l17
  refine (w_aS l18 h18 (by decide)).trans ?_
  have h19 := aS_K (b := b) (t := (101, 12, 22)) l18 h18 (by decide)
  have l19 := lok_aS (b := b) (t := (101, 12, 22)) l18
  refine (w_aS l19 h19 (by decide)).trans ?_
  have h20 := aS_K (b := b) (t := (101, 144, 23)) l19 h19 (by decide)
  have l20 := lok_aS (b := b) (t := (101, 144, 23)) l19
  refine (w_aS l20 h20 (by decide)).trans ?_
  have h21 := aS_K (b := b) (t := (101, 288, 25)) l20 h20 (by decide)
  have l21 := lok_aS (b := b) (t := (101, 288, 25)) l20
  refine (w_aS l21 h21 (by decide)).trans ?_
  have h22 := aS_K (b := b) (t := (101, 12, 26)) l21 h21 (by decide)
  have l22 := lok_aS (b := b) (t := (101, 12, 26)) l21
  rfl
