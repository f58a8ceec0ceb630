/-! both programs side by side -/
theorem CW_cong {G : mm_M} {J J' : Nat → Nat → Int32} {a now ser : Nat} {P : List (Nat × Pe)} {L : List Dg} (h : CW G J a P now ser L) (h9 : ∀ q ∈ P, pe9 q.2) (hj : ∀ z j, z < a + 6 ∨ a + 6 + 22 < z → J' z j = J z j) : CW G J' a P now ser L := by
  obtain ⟨h1, h2, ⟨h3, h4, h5⟩, h6, h7, h8⟩ := h
  refine ⟨h1, h2, ⟨by rw [hj _ _ (by omega)]; exact h3, by rw [hj _ _ (by omega)]; exact h4, by rw [hj _ _ (by omega)]; exact h5⟩, lin_congr h6 (fun j => hj _ _ (by omega)) (fun j => hj _ _ (by omega)), fun k p hk => ⟨(h7 k p hk).1, (h7 k p hk).2.1, ?_⟩, h8⟩
  have hb := (h7 k p hk).2.1
  have := pv_keep (c := a) (g := mm_R G a) (J' := J') (h7 k p hk).2.2 (h9 p (List.mem_of_getElem? hk)) (Or.inl (by omega)) (fun x x1 _ j => hj _ _ (by omega))
  rw [mm_rwR] at this
  exact this
theorem sM_sme {G G' : mm_M} {m : Nat} (h : sM G m) (hs : ∀ z, m ≤ z → z ≤ m + 22 → mm_K G' z = mm_K G z ∧ mm_ln G' z = mm_ln G z ∧ ∀ j, mm_R G' z j = mm_R G z j) : sM G' m := by
  have k : ∀ i, i ≤ 22 → mm_K G' (m + i) = mm_K G (m + i) ∧ mm_ln G' (m + i) = mm_ln G (m + i) := fun i hi => ⟨(hs _ (by omega) (by omega)).1, (hs _ (by omega) (by omega)).2.1⟩
  have r : ∀ j, mm_R G' m j = mm_R G m j := (hs m (by omega) (by omega)).2.2
  unfold sM at h ⊢
  rw [(hs m (by omega) (by omega)).1, r, r, r, r, r, r, r, r, r, r, r, r, r, r, r, r, r, r, r, r, r, r, (k 1 (by omega)).1, (k 1 (by omega)).2, (k 2 (by omega)).1, (k 2 (by omega)).2, (k 3 (by omega)).1, (k 3 (by omega)).2, (k 4 (by omega)).1, (k 4 (by omega)).2, (k 5 (by omega)).1, (k 5 (by omega)).2, (k 6 (by omega)).1, (k 6 (by omega)).2, (k 7 (by omega)).1, (k 7 (by omega)).2, (k 8 (by omega)).1, (k 8 (by omega)).2, (k 9 (by omega)).1, (k 9 (by omega)).2, (k 10 (by omega)).1, (k 10 (by omega)).2, (k 11 (by omega)).1, (k 11 (by omega)).2, (k 12 (by omega)).1, (k 12 (by omega)).2, (k 13 (by omega)).1, (k 13 (by omega)).2, (k 14 (by omega)).1, (k 14 (by omega)).2, (k 15 (by omega)).1, (k 15 (by omega)).2, (k 16 (by omega)).1, (k 16 (by omega)).2, (k 17 (by omega)).1, (k 17 (by omega)).2, (k 18 (by omega)).1, (k 18 (by omega)).2, (k 19 (by omega)).1, (k 19 (by omega)).2, (k 20 (by omega)).1, (k 20 (by omega)).2, (k 21 (by omega)).1, (k 21 (by omega)).2, (k 22 (by omega)).1, (k 22 (by omega)).2]
  exact h
def IN (a n : Nat) (Gm : mm_M) : Prop := ∃ (G : mm_M) (J : Nat → Nat → Int32) (P : List (Nat × Pe)) (now ser : Nat) (L : List Dg) (ids : List Nat) (st : Nat), Gm = mm_w G J ∧ CW G J a P now ser L ∧ (lok G ∧ a + 29 ≤ mm_nx G) ∧ sM G (a + 6) ∧ RW J (a + 6) ids P now ser L st ∧ IV ids P now ser L st n
/-- one call of both: the same answer, and all is kept -/
def OKs (a n : Nat) (f g : mm_M → Option (mm_M × Int32)) (Gm : mm_M) : Prop := ∃ G1 v G2, f Gm = some (G1, v) ∧ mm_K G1 (a + 6) = 8 ∧ g G1 = some (G2, v) ∧ IN a (n + 1) G2
theorem look_step {a n : Nat} {f g : mm_M → Option (mm_M × Int32)} {Gm : mm_M} (hi : IN a n Gm) (hn : n + 1 ≤ 512) (hfg : ∀ (G : mm_M) (J : Nat → Nat → Int32) (P : List (Nat × Pe)) (now ser : Nat) (L : List Dg) (ids : List Nat) (st : Nat), CW G J a P now ser L → sM G (a + 6) → RW J (a + 6) ids P now ser L st → IV ids P now ser L st n → ∃ A : Int, (∃ v : Int32, f (mm_w G J) = some (mm_w G J, v) ∧ v.toInt = A) ∧ ∃ v : Int32, g (mm_w G J) = some (mm_w G J, v) ∧ v.toInt = A) : OKs a n f g Gm := by
  obtain ⟨G, J, P, now, ser, L, ids, st, rfl, h1, h2, h3, h4, h5⟩ := hi
  obtain ⟨A, ⟨v, f1, f2⟩, w, g1, g2⟩ := hfg G J P now ser L ids st h1 h3 h4 h5
  have : w = v := by rw [zi_eq, g2, f2]
  subst this
  exact ⟨_, w, _, f1, h3.1, g1, G, J, P, now, ser, L, ids, st, rfl, h1, h2, h3, h4, IV_n h5 hn⟩
section STEPS
variable {a n N : Nat} {Gm : mm_M} {x y z : Int32}
theorem pk_pe9 {ids : List Nat} {P : List (Nat × Pe)} {now ser st : Nat} {L : List Dg} (h : IV ids P now ser L st n) : ∀ q ∈ P, pe9 q.2 := (pok_IV h).1.pe9
theorem st_clock (hi : IN a n Gm) (hn : n + 1 ≤ 512) : OKs a n (fun G => pX6_clock_0 N a G) (fun G => pX7_clock_0 N (a + 6) G) Gm := look_step hi hn (fun G J P now ser L ids st h1 h3 h4 h5 => ⟨_, e_clock h1, r_clock h3 h4⟩)
theorem st_waiting (hi : IN a n Gm) (hn : n + 1 ≤ 512) : OKs a n (fun G => pX6_waiting_0 N a G) (fun G => pX7_waiting_0 N (a + 6) G) Gm := look_step hi hn (fun G J P now ser L ids st h1 h3 h4 h5 => ⟨_, e_waiting h1, r_waiting h3 h4⟩)
theorem st_datagram (hi : IN a n Gm) (hn : n + 1 ≤ 512) : OKs a n (fun G => pX6_datagram_0 N a G x y) (fun G => pX7_datagram_0 N (a + 6) G x y) Gm := look_step hi hn (fun G J P now ser L ids st h1 h3 h4 h5 => ⟨_, e_datagram h1, r_datagram h3 h4⟩)
theorem st_lookup (hi : IN a n Gm) (hn : n + 1 ≤ 512) (hN : 400 ≤ N) : OKs a n (fun G => pX6_lookup_0 N a G x) (fun G => pX7_lookup_0 N (a + 6) G x) Gm := look_step hi hn (fun G J P now ser L ids st h1 h3 h4 h5 => ⟨_, e_lookup h1 hN, r_lookup h3 h4 h5 hN⟩)
theorem st_candidate (hi : IN a n Gm) (hn : n + 1 ≤ 512) (hN : 400 ≤ N) : OKs a n (fun G => pX6_candidate_0 N a G x y) (fun G => pX7_candidate_0 N (a + 6) G x y) Gm := look_step hi hn (fun G J P now ser L ids st h1 h3 h4 h5 => ⟨_, e_candidate h1 hN (fun p hp => by
  have pk := (h5.2.2.2.2.1 p hp).2.2.1.2.2.1
  exact ⟨srtC_len pk.1 pk.2.1 h5.2.1.2.1, fun c hc => ⟨h5.2.1.2.2 _ (pk.2.1 c hc), by have := pk.2.2 c hc; omega⟩⟩), r_candidate h3 h4 h5 hN⟩)
theorem st_found (hi : IN a n Gm) (hn : n + 1 ≤ 512) (hN : 400 ≤ N) : OKs a n (fun G => pX6_found_0 N a G x y) (fun G => pX7_found_0 N (a + 6) G x y) Gm := look_step hi hn (fun G J P now ser L ids st h1 h3 h4 h5 => ⟨_, e_found h1 hN (fun p hp => by
  have pk := (h5.2.2.2.2.1 p hp).2.2.1.2.2.2.2
  exact Nat.le_trans (pig _ ids pk.1 pk.2) h5.2.1.2.1), r_foundc h3 h4 h5 hN⟩)
theorem st_buckets (hi : IN a n Gm) (hn : n + 1 ≤ 512) (hN : 400 ≤ N) : OKs a n (fun G => pX6_buckets_0 N a G x) (fun G => pX7_buckets_0 N (a + 6) G x) Gm := look_step hi hn (fun G J P now ser L ids st h1 h3 h4 h5 => ⟨_, e_buckets h1 hN, r_buckets h3 h4 h5 hN⟩)
theorem st_bucket (hi : IN a n Gm) (hn : n + 1 ≤ 512) (hN : 400 ≤ N) : OKs a n (fun G => pX6_bucket_0 N a G x y) (fun G => pX7_bucket_0 N (a + 6) G x y) Gm := look_step hi hn (fun G J P now ser L ids st h1 h3 h4 h5 => by
  obtain ⟨w1, w2, w3, w4⟩ := pok_IV h5
  have hb := h5.1
  exact ⟨_, e_bucket h1 hN w1.pe9 (fun p hp c hc => by
    have q1 := w2 p hp c hc
    have q2 := w3 p hp c hc
    refine ⟨by omega, q1.1, ?_⟩
    have := q1.2.2.2
    omega) (by omega), r_bucket h3 h4 h5 hN⟩)
theorem st_contact (hi : IN a n Gm) (hn : n + 1 ≤ 512) (hN : 400 ≤ N) : OKs a n (fun G => pX6_contact_0 N a G x y z) (fun G => pX7_contact_0 N (a + 6) G x y z) Gm := look_step hi hn (fun G J P now ser L ids st h1 h3 h4 h5 => by
  obtain ⟨w1, w2, w3, w4⟩ := pok_IV h5
  have hb := h5.1
  exact ⟨_, e_contact h1 hN w1.pe9 (fun p hp c hc => by
    have q1 := w2 p hp c hc
    refine ⟨q1.1, fun d hd => ⟨(q1.2.2.1 d hd).1, ?_⟩⟩
    have := (q1.2.2.1 d hd).2
    omega), r_contact h3 h4 h5 hN⟩)
theorem st_closest (hi : IN a n Gm) (hn : n + 1 ≤ 512) (hN : 400 ≤ N) : OKs a n (fun G => pX6_closest_0 N a G x y z) (fun G => pX7_closest_0 N (a + 6) G x y z) Gm := look_step hi hn (fun G J P now ser L ids st h1 h3 h4 h5 => by
  obtain ⟨w1, w2, w3, w4⟩ := pok_IV h5
  exact ⟨_, e_closest h1 hN (fun p hp => by
    obtain ⟨q1, q2, q3⟩ := qB_ok (w2 p hp)
    exact ⟨w1.pe9 p hp, q1, q2⟩), r_closest h3 h4 h5 hN⟩)
theorem st_entry (hi : IN a n Gm) (hn : n + 1 ≤ 512) (hN : 400 ≤ N) : OKs a n (fun G => pX6_entry_0 N a G x y) (fun G => pX7_entry_0 N (a + 6) G x y) Gm := look_step hi hn (fun G J P now ser L ids st h1 h3 h4 h5 => by
  have hb := h5.1
  exact ⟨_, e_entry h1 hN (fun p hp => by
    have pk := (h5.2.2.2.2.1 p hp).2.2.2
    refine ⟨pk.1, fun c hc => ?_⟩
    obtain ⟨k1, k2, k3, k4⟩ := pk.2 c hc
    exact ⟨k1, h5.2.1.2.2 _ k2, by omega⟩) (by omega), r_entry h3 h4 h5 hN⟩)
end STEPS
