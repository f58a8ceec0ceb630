/-! a peer made anew -/
/-- from G to G' the cells b .. b + n - 1 are new, ints 0 but for what is said -/
def mkd (G G' : mm_M) (b n : Nat) : Prop := lok G' ∧ mm_lo G' = mm_lo G ∧ mm_nx G' = b + n ∧ ∀ z, z < b → sme G G' z
theorem made0 {G : mm_M} {b N : Nat} (hl : lok G) (hb : mm_nx G = b) : ∃ G', pX0_init_0 N b (mm_nw G 1 0) = some (G', ()) ∧ mkd G G' b 3 ∧ sB G' b ∧ ∀ z, b ≤ z → z < b + 3 → ∀ j, mm_I G' z j = 0 := by
  obtain ⟨⟨h1, h2, h3, h4⟩, h5, h6, h7⟩ := mkO_spec (G := G) (b := b) (kd := 1) (l := [(101, 3, 0), (101, 3, 1)]) (ks := [2, 3, 4, 5]) (by decide) hl hb (by decide)
  refine ⟨_, mk0_eq hl hb, ⟨h1, h2, h3, h5⟩, ?_, h7⟩
  obtain ⟨a1, a2, a3, -⟩ := h6 0 _ rfl
  obtain ⟨b1, b2, b3, -⟩ := h6 1 _ rfl
  exact ⟨h4, a3, b3, ⟨a1, a2⟩, b1, b2⟩
theorem made1 {G : mm_M} {b N : Nat} (hl : lok G) (hb : mm_nx G = b) : ∃ G', pX1_init_0 N b (mm_nw G 2 0) = some (G', ()) ∧ mkd G G' b 4 ∧ sE G' b ∧ ∀ z, b ≤ z → z < b + 4 → ∀ j, mm_I G' z j = 0 := by
  obtain ⟨⟨h1, h2, h3, h4⟩, h5, h6, h7⟩ := mkO_spec (G := G) (b := b) (kd := 2) (l := [(101, 6, 0), (101, 6, 1), (101, 6, 2)]) (ks := [3]) (by decide) hl hb (by decide)
  refine ⟨_, mk1_eq hl hb, ⟨h1, h2, h3, h5⟩, ⟨h4, fun i hi => ?_⟩, h7⟩
  rcases (by omega : i = 0 ∨ i = 1 ∨ i = 2) with rfl | rfl | rfl
  · obtain ⟨a1, a2, a3, -⟩ := h6 0 _ rfl; exact ⟨a3, a1, a2⟩
  · obtain ⟨a1, a2, a3, -⟩ := h6 1 _ rfl; exact ⟨a3, a1, a2⟩
  · obtain ⟨a1, a2, a3, -⟩ := h6 2 _ rfl; exact ⟨a3, a1, a2⟩
theorem made2 {G : mm_M} {b N : Nat} (hl : lok G) (hb : mm_nx G = b) : ∃ G', pX2_init_0 N b (mm_nw G 3 0) = some (G', ()) ∧ mkd G G' b 2 ∧ sN G' b ∧ ∀ z, b ≤ z → z < b + 2 → ∀ j, mm_I G' z j = 0 := by
  obtain ⟨⟨h1, h2, h3, h4⟩, h5, h6, h7⟩ := mkO_spec (G := G) (b := b) (kd := 3) (l := [(101, 288, 0)]) (ks := [1]) (by decide) hl hb (by decide)
  obtain ⟨a1, a2, a3, -⟩ := h6 0 _ rfl
  exact ⟨_, mk2_eq hl hb, ⟨h1, h2, h3, h5⟩, ⟨h4, a3, a1, a2⟩, h7⟩
theorem made3 {G : mm_M} {b N : Nat} (hl : lok G) (hb : mm_nx G = b) : ∃ G', pX3_init_0 N b (mm_nw G 4 0) = some (G', ()) ∧ mkd G G' b 6 ∧ sL G' b ∧ ∀ z, b ≤ z → z < b + 6 → ∀ j, mm_I G' z j = 0 := by
  obtain ⟨⟨h1, h2, h3, h4⟩, h5, h6, h7⟩ := mkO_spec (G := G) (b := b) (kd := 4) (l := [(101, 12, 0), (101, 12, 1), (101, 12, 2), (101, 12, 3), (101, 12, 4)]) (ks := [5, 9, 10]) (by decide) hl hb (by decide)
  refine ⟨_, mk3_eq hl hb, ⟨h1, h2, h3, h5⟩, ⟨h4, fun i hi => ?_⟩, h7⟩
  rcases (by omega : i = 0 ∨ i = 1 ∨ i = 2 ∨ i = 3 ∨ i = 4) with rfl | rfl | rfl | rfl | rfl
  · obtain ⟨a1, a2, a3, -⟩ := h6 0 _ rfl; exact ⟨a3, a1, a2⟩
  · obtain ⟨a1, a2, a3, -⟩ := h6 1 _ rfl; exact ⟨a3, a1, a2⟩
  · obtain ⟨a1, a2, a3, -⟩ := h6 2 _ rfl; exact ⟨a3, a1, a2⟩
  · obtain ⟨a1, a2, a3, -⟩ := h6 3 _ rfl; exact ⟨a3, a1, a2⟩
  · obtain ⟨a1, a2, a3, -⟩ := h6 4 _ rfl; exact ⟨a3, a1, a2⟩
theorem w_new {α : Type} {G : mm_M} {b kd : Nat} {f : mm_M → Nat → Option α} (hb : mm_nx G = b) : q_new G kd f = f (mm_nw G kd 0) b := by subst hb; rfl
theorem w_gR2 {α : Type} {G : mm_M} {a kd k : Nat} {f : Option Nat → Option α} (h : mm_K G a = kd) : q_gR G a kd k f = f (mm_R G a k) := if_pos h
theorem w_sR2 {α : Type} {G : mm_M} {a kd ke i : Nat} {x : Int32} {v : Option Nat} {f : mm_M → Option α} (h : mm_K G a = kd) (hx : x.toInt = (i : Int)) (hi : i < mm_ln G a) (hv : ∀ b, v = some b → mm_K G b = ke) : q_sR G a kd ke x v f = f (mm_sR G a i v) := by
  unfold q_sR
  rw [if_pos ⟨⟨h, by omega, by omega⟩, hv⟩, hx]
  rfl
/-- the rows of a table, made one after another -/
theorem made5_l {q N : Nat} {kx : mm_M → Option (mm_M × Unit)} : ∀ (r n i : Nat) (y : Int32) (G : mm_M), y.toInt = (i : Int) → i + r = 9 → r < n → lok G → mm_nx G = q + 2 + 3 * i → (mm_K G q = 6 ∧ mm_R G q 1 = some (q + 1) ∧ mm_K G (q + 1) = 104 ∧ mm_ln G (q + 1) = 9) → (∀ k, k < i → mm_R G (q + 1) k = some (q + 2 + 3 * k) ∧ sB G (q + 2 + 3 * k)) → ∃ G', pX5_init_20 N q kx n G y = kx G' ∧ lok G' ∧ mm_lo G' = mm_lo G ∧ mm_nx G' = q + 29 ∧ (∀ z, z < q + 1 → sme G G' z) ∧ (mm_K G' q = 6 ∧ mm_R G' q 1 = some (q + 1) ∧ mm_K G' (q + 1) = 104 ∧ mm_ln G' (q + 1) = 9) ∧ (∀ k, k < 9 → mm_R G' (q + 1) k = some (q + 2 + 3 * k) ∧ sB G' (q + 2 + 3 * k)) := by
  intro r
  induction r with
  | zero =>
    intro n i y G hy hi hn hl hx h0 hr
    obtain ⟨n, rfl⟩ : ∃ m, n = m + 1 := ⟨n - 1, by omega⟩
    refine ⟨G, ?_, hl, rfl, by omega, fun z _ => ⟨rfl, rfl, fun _ => rfl, fun _ => rfl⟩, h0, fun k hk => hr k (by omega)⟩
    show pX5_init_20_b N q _ kx G y = _
    unfold pX5_init_20_b
    rw [if_pos (by rw [zi_le, hy, zi_9]; omega)]
  | succ r ih =>
    intro n i y G hy hi hn hl hx h0 hr
    obtain ⟨n, rfl⟩ : ∃ m, n = m + 1 := ⟨n - 1, by omega⟩
    obtain ⟨h1, h2, h3, h4⟩ := h0
    obtain ⟨G1, e1, ⟨m1, m2, m3, m4⟩, m5, m6⟩ := made0 (N := N) hl hx
    have s0 := m4 q (by omega)
    have s1 := m4 (q + 1) (by omega)
    have e2 : pX5_init_20 N q kx (n + 1) G y = pX5_init_20 N q kx n (mm_sR G1 (q + 1) i (some (q + 2 + 3 * i))) (y + 1) := by
      show pX5_init_20_b N q _ kx G y = _
      unfold pX5_init_20_b
      rw [if_neg (by rw [zi_le, hy, zi_9]; omega), w_gR2 h1, h2, w_new hx, e1, w_cl, w_nn, w_sR2 (i := i) (s1.1.trans h3) hy (by rw [s1.2.1, h4]; omega) (fun b hb => by cases hb; exact m5.1)]
    have hs : ∀ z, z ≠ q + 1 → sme G1 (mm_sR G1 (q + 1) i (some (q + 2 + 3 * i))) z := fun z hz => ⟨rfl, rfl, fun j => by rw [R_sR, if_neg (fun e => hz e.1)], fun _ => rfl⟩
    obtain ⟨G2, f1, f2, f3, f4, f5, f6, f7⟩ := ih n (i + 1) (y + 1) (mm_sR G1 (q + 1) i (some (q + 2 + 3 * i))) (zi_inc hy (by omega)) (by omega) (by omega) m1 (by rw [nx_sR, m3]; omega) ⟨s0.1.trans h1, by rw [R_sR, if_neg (by omega), s0.2.2.1]; exact h2, s1.1.trans h3, s1.2.1.trans h4⟩ (fun k hk => by
      by_cases hki : k = i
      · subst hki
        exact ⟨by rw [R_sR, if_pos ⟨rfl, rfl⟩], sB_sme m5 (fun z z1 z2 => hs z (by omega))⟩
      · obtain ⟨g1, g2⟩ := hr k (by omega)
        exact ⟨by rw [R_sR, if_neg (fun e => hki e.2), s1.2.2.1]; exact g1, sB_sme (sB_sme g2 (fun z z1 z2 => m4 z (by omega))) (fun z z1 z2 => hs z (by omega))⟩)
    refine ⟨G2, e2.trans f1, f2, f3.trans m2, f4, fun z hz => ((m4 z (by omega)).trans (hs z (by omega))).trans (f5 z hz), f6, f7⟩
theorem made5 {G : mm_M} {q N : Nat} {x : Int32} (hl : lok G) (hb : mm_nx G = q) : ∃ G', pX5_init_0 N q (mm_nw G 6 0) x = some (G', ()) ∧ mkd G G' q 29 ∧ (∃ w, sT G' q w) ∧ mm_I G' q 0 = x ∧ mm_I G' q 2 = 0 := by
  have h0 : mm_K (mm_nw G 6 0) q = 6 := by rw [K_nw hl, if_pos hb.symm]
  have l0 : lok (mm_sI (mm_nw G 6 0) q 0 x) := by rw [lok_sI]; exact lok_nw hl
  have h0' : mm_K (mm_sI (mm_nw G 6 0) q 0 x) q = 6 := kI h0
  obtain ⟨⟨a1, a2, a3, a4⟩, a5, a6, a7⟩ := mkA_spec (b := q) (kd := 6) (by decide) [(104, 9, 1)] (mm_sI (mm_nw G 6 0) q 0 x) l0 h0' (by decide)
  obtain ⟨b1, b2, b3, -, -⟩ := a7 0 _ rfl
  have hnx : mm_nx (mm_sI (mm_nw G 6 0) q 0 x) = q + 1 := by rw [nx_sI, nx_nw, hb]
  rw [hnx] at a3 a5 b1 b2 b3
  obtain ⟨G2, f1, f2, f3, f4, f5, ⟨f6, f6', f6''⟩, f7⟩ := made5_l (q := q) (N := N) (kx := fun (G : mm_M) => q_pI G q 6 2 (0 : Int32) fun G => some (G, ())) 9 10 0 0 (mkA q [(104, 9, 1)] (mm_sI (mm_nw G 6 0) q 0 x)) zi_0 (by omega) (by omega) a1 a3 ⟨a4, b3, b1, b2⟩ (fun k hk => by omega)
  refine ⟨mm_sI G2 q 2 0, ?_, ⟨f2, ?_, f4, fun z hz => ?_⟩, ⟨fun k => k, ?_⟩, ?_, by rw [I_sI, if_pos ⟨rfl, rfl⟩]⟩
  · unfold pX5_init_0
    rw [w_pI2 h0]
    refine (w_aS l0 h0' (by decide)).trans ?_
    refine f1.trans ?_
    rw [w_pI2 f6]
  · show mm_lo G2 = _
    rw [f3, a2]; rfl
  · have g := f5 z (by omega)
    obtain ⟨k1, k2, k3, k4⟩ := a5 z (by omega)
    refine ⟨?_, ?_, fun j => ?_, fun j => ?_⟩
    · rw [K_sI, g.1, k1, K_sI, K_nw hl, if_neg (by omega)]
    · rw [ln_sI, g.2.1, k2, ln_sI, ln_nw, if_neg (by omega)]
    · rw [R_sI, g.2.2.1, k4 (by omega), R_sI, R_nw, if_neg (by omega)]
    · rw [I_sI, if_neg (by omega), g.2.2.2, k3, I_sI, if_neg (by omega), I_nw, if_neg (by omega)]
  · exact ⟨f6, f6', f6'', fun k hk => ⟨(f7 k hk).1, hk⟩, fun j k _ _ e => e, fun m hm => sB_sme (f7 m hm).2 (fun z z1 z2 => ⟨rfl, rfl, fun _ => rfl, fun j => by rw [I_sI, if_neg (by omega)]⟩)⟩
  · rw [I_sI, if_neg (by omega), (f5 q (by omega)).2.2.2, (a5 q (by omega)).2.2.1, I_sI, if_pos ⟨rfl, rfl⟩]
/-- a peer -/
theorem made4 {G : mm_M} {b N : Nat} {x : Int32} (hl : lok G) (hb : mm_nx G = b) : ∃ G', pX4_init_0 N b (mm_nw G 5 0) x = some (G', ()) ∧ mkd G G' b 40 ∧ sP G' b ∧ (∃ w, sT G' (b + 1) w) ∧ mm_I G' b 0 = x ∧ mm_I G' b 4 = 0 ∧ mm_I G' (b + 1) 0 = x ∧ mm_I G' (b + 1) 2 = 0 ∧ (∀ j, mm_I G' (b + 30) j = 0) ∧ ∀ j, mm_I G' (b + 36) j = 0 := by
  have h0 : mm_K (mm_nw G 5 0) b = 5 := by rw [K_nw hl, if_pos hb.symm]
  have l1 : lok (mm_sI (mm_nw G 5 0) b 0 x) := by rw [lok_sI]; exact lok_nw hl
  obtain ⟨G1, e1, ⟨m1, m2, m3, m4⟩, ⟨w, m5⟩, m6, m7⟩ := made5 (q := b + 1) (N := N) (x := x) l1 (by rw [nx_sI, nx_nw, hb])
  have sb1 := m4 b (by omega)
  have K1 : mm_K G1 b = 5 := by rw [sb1.1, K_sI]; exact h0
  obtain ⟨G2, e2, ⟨n1, n2, n3, n4⟩, n5, n6⟩ := made3 (G := mm_sR G1 b 1 (some (b + 1))) (b := b + 30) (N := N) m1 (by rw [nx_sR, m3])
  have sb2 := n4 b (by omega)
  have K2 : mm_K G2 b = 5 := by rw [sb2.1, K_sR]; exact K1
  obtain ⟨G3, e3, ⟨o1, o2, o3, o4⟩, o5, o6⟩ := made1 (G := mm_sR G2 b 2 (some (b + 30))) (b := b + 36) (N := N) n1 (by rw [nx_sR, n3])
  have sb3 := o4 b (by omega)
  have K3 : mm_K G3 b = 5 := by rw [sb3.1, K_sR]; exact K2
  have t1 : ∀ z, z ≠ b → sme G1 (mm_sR G1 b 1 (some (b + 1))) z := fun z hz => ⟨rfl, rfl, fun j => by rw [R_sR, if_neg (fun e => hz e.1)], fun _ => rfl⟩
  have t2 : ∀ z, z ≠ b → sme G2 (mm_sR G2 b 2 (some (b + 30))) z := fun z hz => ⟨rfl, rfl, fun j => by rw [R_sR, if_neg (fun e => hz e.1)], fun _ => rfl⟩
  have t3 : ∀ z, z ≠ b → sme G3 (mm_sI (mm_sR G3 b 3 (some (b + 36))) b 4 0) z := fun z hz => ⟨rfl, rfl, fun j => by rw [R_sI, R_sR, if_neg (fun e => hz e.1)], fun j => by rw [I_sI, if_neg (fun e => hz e.1), I_sR]⟩
  have T2 : ∀ z, z < b + 36 → z ≠ b → sme G2 (mm_sI (mm_sR G3 b 3 (some (b + 36))) b 4 0) z := fun z hz hne => ((t2 z hne).trans (o4 z hz)).trans (t3 z hne)
  have T1 : ∀ z, z < b + 30 → z ≠ b → sme G1 (mm_sI (mm_sR G3 b 3 (some (b + 36))) b 4 0) z := fun z hz hne => ((t1 z hne).trans (n4 z hz)).trans (T2 z (by omega) hne)
  refine ⟨mm_sI (mm_sR G3 b 3 (some (b + 36))) b 4 0, ?_, ⟨o1, ?_, o3, fun z hz => ?_⟩, ⟨K3, ⟨?_, ?_, ?_⟩, sL_sme n5 (fun z z1 z2 => T2 z (by omega) (by omega)), sE_sme o5 (fun z z1 z2 => t3 z (by omega))⟩, ⟨w, sT_sme m5 (fun z z1 z2 => T1 z (by omega) (by omega))⟩, ?_, ?_, ?_, ?_, fun j => ?_, fun j => ?_⟩
  · unfold pX4_init_0
    rw [w_pI2 h0, w_new (b := b + 1) (by rw [nx_sI, nx_nw, hb]), e1, w_cl, w_pR2 K1, w_new (b := b + 30) (by rw [nx_sR, m3]), e2, w_cl, w_pR2 K2, w_new (b := b + 36) (by rw [nx_sR, n3]), e3, w_cl, w_pR2 K3, w_pI2 (by rw [K_sR]; exact K3)]
  · rw [lo_sI, lo_sR, o2, lo_sR, n2, lo_sR, m2]; rfl
  · have := T1 z (by omega) (by omega)
    have g := m4 z (by omega)
    refine sme.trans (sme.trans ⟨?_, ?_, fun j => ?_, fun j => ?_⟩ g) this
    · rw [K_sI, K_nw hl, if_neg (by omega)]
    · rw [ln_sI, ln_nw, if_neg (by omega)]
    · rw [R_sI, R_nw, if_neg (by omega)]
    · rw [I_sI, if_neg (by omega), I_nw, if_neg (by omega)]
  · rw [R_sI, R_sR, if_neg (by omega), sb3.2.2.1, R_sR, if_neg (by omega), sb2.2.2.1, R_sR, if_pos ⟨rfl, rfl⟩]
  · rw [R_sI, R_sR, if_neg (by omega), sb3.2.2.1, R_sR, if_pos ⟨rfl, rfl⟩]
  · rw [R_sI, R_sR, if_pos ⟨rfl, rfl⟩]
  · rw [I_sI, if_neg (by omega), I_sR, sb3.2.2.2, I_sR, sb2.2.2.2, I_sR, sb1.2.2.2, I_sI, if_pos ⟨rfl, rfl⟩]
  · rw [I_sI, if_pos ⟨rfl, rfl⟩]
  · rw [(T1 (b + 1) (by omega) (by omega)).2.2.2]; exact m6
  · rw [(T1 (b + 1) (by omega) (by omega)).2.2.2]; exact m7
  · rw [(T2 (b + 30) (by omega) (by omega)).2.2.2]; exact n6 _ (by omega) (by omega) j
  · rw [(t3 (b + 36) (by omega)).2.2.2]; exact o6 _ (by omega) (by omega) j
