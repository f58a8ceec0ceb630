/-! the law begins -/
theorem aS_k {G : mm_M} {b z : Nat} {t : Nat × Nat × Nat} (hl : lok G) : mm_K (aS b G t) z = if z = mm_nx G then t.1 else mm_K G z := by
  unfold aS
  rw [K_sR, K_nw hl]
theorem aS_ln {G : mm_M} {b z : Nat} {t : Nat × Nat × Nat} : mm_ln (aS b G t) z = if z = mm_nx G then t.2.1 else mm_ln G z := rfl
theorem aS_r {G : mm_M} {b z j : Nat} {t : Nat × Nat × Nat} : mm_R (aS b G t) z j = if z = b ∧ j = t.2.2 then some (mm_nx G) else if z = mm_nx G then none else mm_R G z j := rfl
theorem aS_i {G : mm_M} {b z j : Nat} {t : Nat × Nat × Nat} : mm_I (aS b G t) z j = if z = mm_nx G then 0 else mm_I G z j := rfl
theorem aS_nx {G : mm_M} {b : Nat} {t : Nat × Nat × Nat} : mm_nx (aS b G t) = mm_nx G + 1 := rfl
theorem made6 {G : mm_M} {b N : Nat} (hl : lok G) (hb : mm_nx G = b) : ∃ G', pX6_init_0 N b (mm_nw G 7 0) = some (G', ()) ∧ lok G' ∧ mm_nx G' = b + 6 ∧ sO G' b ∧ (∀ j, mm_I G' b j = 0) ∧ ∀ j, mm_I G' (b + 2) j = 0 := by
  have h0 : mm_K (mm_nw G 7 0) b = 7 := by rw [K_nw hl, if_pos hb.symm]
  have l0 : lok (mm_nw G 7 0) := lok_nw hl
  have n0 : mm_nx (mm_nw G 7 0) = b + 1 := by rw [nx_nw, hb]
  have i0 : ∀ j, mm_I (mm_nw G 7 0) b j = 0 := fun j => by rw [I_nw, if_pos hb.symm]
  generalize mm_nw G 7 0 = A0 at h0 l0 n0 i0 ⊢
  have l1 : lok (aS b A0 (103, 12, 0)) := lok_aS l0
  have n1 : mm_nx (aS b A0 (103, 12, 0)) = b + 2 := by rw [aS_nx, n0]
  have k1 : mm_K (aS b A0 (103, 12, 0)) b = 7 := by rw [aS_k l0, n0, if_neg (by omega)]; exact h0
  have k1' : mm_K (aS b A0 (103, 12, 0)) (b + 1) = 103 := by rw [aS_k l0, n0, if_pos rfl]
  have e1' : mm_ln (aS b A0 (103, 12, 0)) (b + 1) = 12 := by rw [aS_ln, n0, if_pos rfl]
  have r1 : mm_R (aS b A0 (103, 12, 0)) b 0 = some (b + 1) := by rw [aS_r, if_pos ⟨rfl, rfl⟩, n0]
  have i1 : ∀ j, mm_I (aS b A0 (103, 12, 0)) b j = 0 := fun j => by rw [aS_i, n0, if_neg (by omega)]; exact i0 j
  have p1 : ∀ (f : Nat → mm_M → Option (mm_M × Unit)), (q_arr A0 103 12 fun G c => q_pR G b 7 0 (some c) (f c)) = f (b + 1) (aS b A0 (103, 12, 0)) := fun f => by rw [w_aS l0 h0 (by decide), n0]
  generalize aS b A0 (103, 12, 0) = A1 at l1 n1 k1 k1' e1' r1 i1 p1
  obtain ⟨A2, q2, ⟨m1, m2, m3, m4⟩, m5, m6⟩ := made2 (N := N) l1 n1
  have s0 := m4 b (by omega)
  have s1 := m4 (b + 1) (by omega)
  have k2 : mm_K A2 b = 7 := by rw [s0.1]; exact k1
  have l3 : lok (mm_sR A2 b 1 (some (b + 2))) := by rw [lok_sR]; exact m1
  have n3 : mm_nx (mm_sR A2 b 1 (some (b + 2))) = b + 4 := by rw [nx_sR, m3]
  have k3 : ∀ z, mm_K (mm_sR A2 b 1 (some (b + 2))) z = mm_K A2 z := fun z => K_sR
  have e3 : ∀ z, mm_ln (mm_sR A2 b 1 (some (b + 2))) z = mm_ln A2 z := fun z => ln_sR
  have r3 : ∀ z j, mm_R (mm_sR A2 b 1 (some (b + 2))) z j = if z = b ∧ j = 1 then some (b + 2) else mm_R A2 z j := fun z j => R_sR
  have i3 : ∀ z j, mm_I (mm_sR A2 b 1 (some (b + 2))) z j = mm_I A2 z j := fun z j => I_sR
  have p3 : ∀ (f : mm_M → Option (mm_M × Unit)), q_pR A2 b 7 1 (some (b + 2)) f = f (mm_sR A2 b 1 (some (b + 2))) := fun f => w_pR2 k2
  generalize mm_sR A2 b 1 (some (b + 2)) = A3 at l3 n3 k3 e3 r3 i3 p3
  have k4 : ∀ z, mm_K (aS b A3 (101, 12, 2)) z = if z = b + 4 then 101 else mm_K A2 z := fun z => by rw [aS_k l3, n3, k3]
  have e4 : ∀ z, mm_ln (aS b A3 (101, 12, 2)) z = if z = b + 4 then 12 else mm_ln A2 z := fun z => by rw [aS_ln, n3, e3]
  have r4 : ∀ z j, mm_R (aS b A3 (101, 12, 2)) z j = if z = b ∧ j = 2 then some (b + 4) else if z = b + 4 then none else if z = b ∧ j = 1 then some (b + 2) else mm_R A2 z j := fun z j => by rw [aS_r, n3, r3]
  have i4 : ∀ z j, mm_I (aS b A3 (101, 12, 2)) z j = if z = b + 4 then 0 else mm_I A2 z j := fun z j => by rw [aS_i, n3, i3]
  have l4 : lok (aS b A3 (101, 12, 2)) := lok_aS l3
  have n4 : mm_nx (aS b A3 (101, 12, 2)) = b + 5 := by rw [aS_nx, n3]
  have p4 : ∀ (f : Nat → mm_M → Option (mm_M × Unit)), (q_arr A3 101 12 fun G c => q_pR G b 7 2 (some c) (f c)) = f (b + 4) (aS b A3 (101, 12, 2)) := fun f => by rw [w_aS l3 (by rw [k3]; exact k2) (by decide), n3]
  generalize aS b A3 (101, 12, 2) = A4 at k4 e4 r4 i4 l4 n4 p4
  have k4b : mm_K A4 b = 7 := by rw [k4, if_neg (by omega)]; exact k2
  have k5 : ∀ z, mm_K (aS b A4 (101, 12, 3)) z = if z = b + 5 then 101 else if z = b + 4 then 101 else mm_K A2 z := fun z => by rw [aS_k l4, n4, k4]
  have e5 : ∀ z, mm_ln (aS b A4 (101, 12, 3)) z = if z = b + 5 then 12 else if z = b + 4 then 12 else mm_ln A2 z := fun z => by rw [aS_ln, n4, e4]
  have r5 : ∀ z j, mm_R (aS b A4 (101, 12, 3)) z j = if z = b ∧ j = 3 then some (b + 5) else if z = b + 5 then none else if z = b ∧ j = 2 then some (b + 4) else if z = b + 4 then none else if z = b ∧ j = 1 then some (b + 2) else mm_R A2 z j := fun z j => by rw [aS_r, n4, r4]
  have i5 : ∀ z j, mm_I (aS b A4 (101, 12, 3)) z j = if z = b + 5 then 0 else if z = b + 4 then 0 else mm_I A2 z j := fun z j => by rw [aS_i, n4, i4]
  have l5 : lok (aS b A4 (101, 12, 3)) := lok_aS l4
  have n5 : mm_nx (aS b A4 (101, 12, 3)) = b + 6 := by rw [aS_nx, n4]
  have p5 : ∀ (f : Nat → mm_M → Option (mm_M × Unit)), (q_arr A4 101 12 fun G c => q_pR G b 7 3 (some c) (f c)) = f (b + 5) (aS b A4 (101, 12, 3)) := fun f => by rw [w_aS l4 k4b (by decide), n4]
  generalize aS b A4 (101, 12, 3) = A5 at k5 e5 r5 i5 l5 n5 p5
  have k5b : mm_K A5 b = 7 := by rw [k5, if_neg (by omega), if_neg (by omega)]; exact k2
  have hI : ∀ z j, mm_I (mm_sI (mm_sI (mm_sI A5 b 4 0) b 5 0) b 6 0) z j = if z = b ∧ j = 6 then 0 else if z = b ∧ j = 5 then 0 else if z = b ∧ j = 4 then 0 else mm_I A5 z j := fun z j => by rw [I_sI, I_sI, I_sI]
  have hK : ∀ z, mm_K (mm_sI (mm_sI (mm_sI A5 b 4 0) b 5 0) b 6 0) z = mm_K A5 z := fun z => by rw [K_sI, K_sI, K_sI]
  have hE : ∀ z, mm_ln (mm_sI (mm_sI (mm_sI A5 b 4 0) b 5 0) b 6 0) z = mm_ln A5 z := fun z => by rw [ln_sI, ln_sI, ln_sI]
  have hR : ∀ z j, mm_R (mm_sI (mm_sI (mm_sI A5 b 4 0) b 5 0) b 6 0) z j = mm_R A5 z j := fun z j => by rw [R_sI, R_sI, R_sI]
  have lF : lok (mm_sI (mm_sI (mm_sI A5 b 4 0) b 5 0) b 6 0) := by rw [lok_sI, lok_sI, lok_sI]; exact l5
  have nF : mm_nx (mm_sI (mm_sI (mm_sI A5 b 4 0) b 5 0) b 6 0) = b + 6 := by rw [nx_sI, nx_sI, nx_sI]; exact n5
  have pF : pX6_init_0 N b A0 = some (mm_sI (mm_sI (mm_sI A5 b 4 0) b 5 0) b 6 0, ()) := by
    unfold pX6_init_0
    rw [p1, w_new n1, q2, w_cl, p3, p4, p5, w_pI2 k5b, w_pI2 (kI k5b), w_pI2 (kI (kI k5b))]
  generalize mm_sI (mm_sI (mm_sI A5 b 4 0) b 5 0) b 6 0 = A6 at hI hK hE hR lF nF pF
  refine ⟨A6, pF, lF, nF, ⟨by rw [hK]; exact k5b, ⟨?_, ?_, ?_, ?_⟩, ⟨?_, ?_⟩, ⟨?_, ?_, ?_, ?_⟩, ⟨?_, ?_⟩, ?_, ?_⟩, fun j => ?_, fun j => ?_⟩
  · rw [hR, r5, if_neg (by omega), if_neg (by omega), if_neg (by omega), if_neg (by omega), if_neg (by omega), s0.2.2.1]; exact r1
  · rw [hR, r5, if_neg (by omega), if_neg (by omega), if_neg (by omega), if_neg (by omega), if_pos ⟨rfl, rfl⟩]
  · rw [hR, r5, if_neg (by omega), if_neg (by omega), if_pos ⟨rfl, rfl⟩]
  · rw [hR, r5, if_pos ⟨rfl, rfl⟩]
  · rw [hK, k5, if_neg (by omega), if_neg (by omega), s1.1]; exact k1'
  · rw [hE, e5, if_neg (by omega), if_neg (by omega), s1.2.1]; exact e1'
  · rw [hK, k5, if_neg (by omega), if_neg (by omega)]; exact m5.1
  · rw [hR, r5, if_neg (by omega), if_neg (by omega), if_neg (by omega), if_neg (by omega), if_neg (by omega)]; exact m5.2.1
  · rw [hK, k5, if_neg (by omega), if_neg (by omega)]; exact m5.2.2.1
  · rw [hE, e5, if_neg (by omega), if_neg (by omega)]; exact m5.2.2.2
  · rw [hK, k5, if_neg (by omega), if_pos rfl]
  · rw [hE, e5, if_neg (by omega), if_pos rfl]
  · rw [hK, k5, if_pos rfl]
  · rw [hE, e5, if_pos rfl]
  · rw [hI]
    split
    · rfl
    · split
      · rfl
      · split
        · rfl
        · rw [i5, if_neg (by omega), if_neg (by omega), s0.2.2.2]; exact i1 j
  · rw [hI, if_neg (by omega), if_neg (by omega), if_neg (by omega), i5, if_neg (by omega), if_neg (by omega)]
    exact m6 _ (by omega) (by omega) j
theorem IN_0 {lo N : Nat} {f : mm_M → Option Nat → Option Nat → Option (mm_M × Int32)} : ∃ Gm, (q_new (mm_0 lo) 7 fun G b0_1 => q_cl (pX6_init_0 N b0_1 G) fun G _ => q_new G 8 fun G b8_3 => q_cl (pX7_init_0 N b8_3 G) fun G _ => f G (some b0_1) (some b8_3)) = f Gm (some lo) (some (lo + 6)) ∧ IN lo 0 Gm := by
  obtain ⟨G1, e1, e2, e3, e4, e5, e6⟩ := made6 (G := mm_0 lo) (b := lo) (N := N) (Nat.le_refl lo) rfl
  obtain ⟨⟨h1, h2, h3, h4⟩, h5, h6, h7⟩ := mkO_spec (G := G1) (b := lo + 6) (kd := 8) (l := [(101, 12, 4), (102, 12, 5), (102, 144, 6), (101, 144, 7), (101, 144, 8), (101, 12, 9), (101, 108, 10), (101, 12, 11), (101, 72, 12), (101, 72, 13), (101, 72, 14), (101, 12, 15), (101, 12, 16), (101, 12, 17), (101, 12, 18), (101, 144, 19), (101, 144, 20), (101, 144, 21), (101, 12, 22), (101, 144, 23), (101, 288, 25), (101, 12, 26)]) (ks := []) (by decide) e2 e3 (by decide)
  have hp := mk7_eq (N := N) e2 e3
  generalize mkO (lo + 6) 8 [(101, 12, 4), (102, 12, 5), (102, 144, 6), (101, 144, 7), (101, 144, 8), (101, 12, 9), (101, 108, 10), (101, 12, 11), (101, 72, 12), (101, 72, 13), (101, 72, 14), (101, 12, 15), (101, 12, 16), (101, 12, 17), (101, 12, 18), (101, 144, 19), (101, 144, 20), (101, 144, 21), (101, 12, 22), (101, 144, 23), (101, 288, 25), (101, 12, 26)] [] G1 = G2 at h1 h2 h3 h4 h5 h6 h7 hp
  refine ⟨G2, ?_, G2, mm_I G2, [], 0, 0, [], [], 0, (mm_w_self G2).symm, ?_, ⟨h1, ?_⟩, ?_, ?_, ?_⟩
  · rw [w_new (b := lo) rfl, e1, w_cl, w_new e3, hp, w_cl]
  · have hC : CW G1 (mm_I G1) lo [] 0 0 [] := by
      refine ⟨e4, ⟨Nat.zero_le _, Nat.zero_le _⟩, ⟨by rw [e5]; rfl, by rw [e5]; rfl, by rw [e5]; rfl⟩, ⟨by rw [e6]; rfl, (fun k D hD => by cases hD)⟩, (fun k p hk => by cases hk), (fun i j p q hi => by cases hi)⟩
    exact CW_sme hC (fun q hq => by cases hq) (fun z hz => by
      rw [e3] at hz
      exact h5 z hz)
  · rw [h3]
    simp only [List.length_cons, List.length_nil]
    omega
  · have g : ∀ (i : Nat) (t : Nat × Nat × Nat), [(101, 12, 4), (102, 12, 5), (102, 144, 6), (101, 144, 7), (101, 144, 8), (101, 12, 9), (101, 108, 10), (101, 12, 11), (101, 72, 12), (101, 72, 13), (101, 72, 14), (101, 12, 15), (101, 12, 16), (101, 12, 17), (101, 12, 18), (101, 144, 19), (101, 144, 20), (101, 144, 21), (101, 12, 22), (101, 144, 23), (101, 288, 25), (101, 12, 26)][i]? = some t → mm_R G2 (lo + 6) t.2.2 = some (lo + 6 + 1 + i) ∧ mm_K G2 (lo + 6 + 1 + i) = t.1 ∧ mm_ln G2 (lo + 6 + 1 + i) = t.2.1 := fun i t ht => ⟨(h6 i t ht).2.2.1, (h6 i t ht).1, (h6 i t ht).2.1⟩
    exact ⟨h4, g 0 _ rfl, g 1 _ rfl, g 2 _ rfl, g 3 _ rfl, g 4 _ rfl, g 5 _ rfl, g 6 _ rfl, g 7 _ rfl, g 8 _ rfl, g 9 _ rfl, g 10 _ rfl, g 11 _ rfl, g 12 _ rfl, g 13 _ rfl, g 14 _ rfl, g 15 _ rfl, g 16 _ rfl, g 17 _ rfl, g 18 _ rfl, g 19 _ rfl, g 20 _ rfl, g 21 _ rfl⟩
  · have hz : ∀ j, mm_I G2 (lo + 6) j = 0 := h7 (lo + 6) (Nat.le_refl _) (by simp only [List.length_cons, List.length_nil]; omega)
    refine ⟨⟨by rw [hz]; rfl, Nat.zero_le _, List.nodup_nil, (fun j u hj => by cases hj)⟩, ⟨by rw [hz]; rfl, by rw [hz]; rfl, by rw [hz]; rfl⟩, ⟨by rw [hz]; rfl, Nat.zero_le _, (fun k D hD => by cases hD)⟩, (fun p hp => by cases hp)⟩
  · exact ⟨⟨Nat.le_refl _, Nat.le_refl _, Nat.le_refl _, by omega⟩, ⟨List.nodup_nil, Nat.zero_le _, (fun u hu => by cases hu)⟩, fun u => Iff.rfl, List.Pairwise.nil, (fun p hp => by cases hp), (fun D hD => by cases hD)⟩
