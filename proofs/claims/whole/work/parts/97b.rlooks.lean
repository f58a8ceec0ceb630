/-! what the reference shows -/
theorem chn_pw : ∀ (F : List (Nat × Nat)) (lo hi : Nat), chn lo F hi → F.Pairwise (fun p q => p.1 < q.1)
  | [], _, _, _ => List.Pairwise.nil
  | p :: F, lo, hi, h => by
    refine List.pairwise_cons.mpr ⟨fun q hq => ?_, chn_pw F _ hi h.2.2⟩
    obtain ⟨k, hk⟩ := List.getElem?_of_mem hq
    have := (chn_at F _ hi k q h.2.2 hk).1
    have := h.1
    have := h.2.1
    omega
def flt (nr s y x : Nat) : Bool := decide (fst' nr s y < fst' nr s x)
theorem bat_eq {nr s b : Nat} (hn : nr < 256) (hs : s ≤ 8) : nth (fun _ => true) (flt nr s) (s + 1) b = (ordr nr s)[b]? := by
  apply nth_eq
  · intro j
    rw [ordr_mem]
    exact ⟨fun h => ⟨by omega, rfl⟩, fun h => by omega⟩
  · intro a _ c _ e
    unfold flt at e ⊢
    have := of_decide_eq_true e
    exact decide_eq_false (by omega)
  · have h1 := chn_pw _ _ _ (FZ_chn hn s hs)
    unfold FZ at h1
    rw [List.pairwise_map] at h1
    exact h1.imp (fun h => decide_eq_true h)
section RBAT
variable {G : mm_M} {J : Nat → Nat → Int32} {m N i nr s : Nat} {x1 x2 x3 : Int32}
theorem r_bat_i {x : Nat} {kx : mm_M → Int32 → Int32 → Int32 → Int32 → Option (mm_M × Int32)} (h : sM G m) (hi12 : i < 12) (h1 : x1.toInt = (i : Int)) (hnr : (J (m + 1) i).toInt = (nr : Int)) (hn : nr < 256) (hs : (J (m + 6) i).toInt = (s : Int)) (hs8 : s ≤ 8) (h3 : x3.toInt = (x : Int)) (hx : x ≤ s) : ∀ (r n k c : Nat) (w z : Int32), z.toInt = (k : Int) → w.toInt = (c : Int) → c ≤ k → k + r = s + 1 → r < n → pX7_bucketAt_18 N m kx n (mm_w G J) x1 x2 x3 w z = kx (mm_w G J) x1 x2 x3 (Int32.ofNat (c + cn (fun y => flt nr s y x) k r)) := by
  intro r
  induction r with
  | zero =>
    intro n k c w z hz hw hc hk hn'
    obtain ⟨n, rfl⟩ : ∃ m, n = m + 1 := ⟨n - 1, by omega⟩
    show pX7_bucketAt_18_b N m _ kx _ x1 x2 x3 w z = _
    unfold pX7_bucketAt_18_b
    rw [gr_splits h, w_nn, ai_splits h h1 hi12, if_pos (by rw [zi_lt, hs, hz]; omega), zi_eqN hw (by omega)]
    rfl
  | succ r ih =>
    intro n k c w z hz hw hc hk hn'
    obtain ⟨n, rfl⟩ : ∃ m, n = m + 1 := ⟨n - 1, by omega⟩
    obtain ⟨v1, e1, f1⟩ := r_first (N := N) (k := k) (y := z) h hi12 h1 hnr hn hs hs8 hz (by omega)
    obtain ⟨v2, e2, f2⟩ := r_first (N := N) (k := x) (y := x3) h hi12 h1 hnr hn hs hs8 h3 hx
    show pX7_bucketAt_18_b N m _ kx _ x1 x2 x3 w z = _
    unfold pX7_bucketAt_18_b
    rw [gr_splits h, w_nn, ai_splits h h1 hi12, if_neg (by rw [zi_lt, hs, hz]; omega), w_is h.1, e1, w_cl, w_is h.1, e2, w_cl]
    show _ = kx _ x1 x2 x3 (Int32.ofNat (c + ((if flt nr s k x = true then 1 else 0) + cn (fun y => flt nr s y x) (k + 1) r)))
    by_cases hf : fst' nr s k < fst' nr s x
    · rw [if_neg (by rw [zi_le, f1, f2]; omega), if_pos (show flt nr s k x = true from decide_eq_true hf), ih n (k + 1) (c + 1) (w + 1) (z + 1) (zi_inc hz (by omega)) (zi_inc hw (by omega)) (by omega) (by omega) (by omega), Nat.add_assoc]
    · rw [if_pos (by rw [zi_le, f1, f2]; omega), if_neg (show ¬ flt nr s k x = true from fun e => hf (of_decide_eq_true e)), ih n (k + 1) c w (z + 1) (zi_inc hz (by omega)) hw (by omega) (by omega) (by omega), Nat.zero_add]
theorem r_bat_o {b : Nat} {kx : mm_M → Option (mm_M × Int32)} (h : sM G m) (hi12 : i < 12) (hN : 400 ≤ N) (h1 : x1.toInt = (i : Int)) (hnr : (J (m + 1) i).toInt = (nr : Int)) (hn : nr < 256) (hs : (J (m + 6) i).toInt = (s : Int)) (hs8 : s ≤ 8) (h2 : x2.toInt = (b : Int)) : ∀ (r n k : Nat) (z : Int32), z.toInt = (k : Int) → k + r = s + 1 → r < n → pX7_bucketAt_2 N m kx n (mm_w G J) x1 x2 z = match fi (fun j => (fun _ => true) j && decide (cn (fun k => (fun _ => true) k && flt nr s k j) 0 (s + 1) = b)) k r with | some j => some (mm_w G J, Int32.ofNat j) | none => kx (mm_w G J) := by
  intro r
  induction r with
  | zero =>
    intro n k z hz hk hn'
    obtain ⟨n, rfl⟩ : ∃ m, n = m + 1 := ⟨n - 1, by omega⟩
    show pX7_bucketAt_2_b N m _ kx _ x1 x2 z = _
    unfold pX7_bucketAt_2_b
    rw [gr_splits h, w_nn, ai_splits h h1 hi12, if_pos (by rw [zi_lt, hs, hz]; omega)]
    rfl
  | succ r ih =>
    intro n k z hz hk hn'
    obtain ⟨n, rfl⟩ : ∃ m, n = m + 1 := ⟨n - 1, by omega⟩
    have hcl := cn_le (fun y => flt nr s y k) (s + 1) 0
    have hcI := zi_ofNat (n := cn (fun y => flt nr s y k) 0 (s + 1)) (by omega)
    have go := ih n (k + 1) (z + 1) (zi_inc hz (by omega)) (by omega) (by omega)
    show pX7_bucketAt_2_b N m _ kx _ x1 x2 z = _
    unfold pX7_bucketAt_2_b fi
    rw [gr_splits h, w_nn, ai_splits h h1 hi12, if_neg (by rw [zi_lt, hs, hz]; omega), r_bat_i h hi12 h1 hnr hn hs hs8 hz (by omega) (s + 1) N 0 0 0 0 zi_0 zi_0 (by omega) (by omega) (by omega), Nat.zero_add]
    by_cases hc : cn (fun y => flt nr s y k) 0 (s + 1) = b
    · rw [if_pos (by rw [zi_eq, hcI, h2, hc]), if_pos (by simp only [Bool.true_and]; exact decide_eq_true hc), zi_eqN hz (by omega)]
    · rw [if_neg (by rw [zi_eq, hcI, h2]; omega), if_neg (by simp only [Bool.true_and]; exact fun e => hc (of_decide_eq_true e))]
      exact go
theorem r_bat {b : Nat} (h : sM G m) (hi12 : i < 12) (hN : 400 ≤ N) (h1 : x1.toInt = (i : Int)) (hnr : (J (m + 1) i).toInt = (nr : Int)) (hn : nr < 256) (hs : (J (m + 6) i).toInt = (s : Int)) (hs8 : s ≤ 8) (h2 : x2.toInt = (b : Int)) : pX7_bucketAt_0 N m (mm_w G J) x1 x2 = some (mm_w G J, oI ((ordr nr s)[b]?)) := by
  rw [← bat_eq hn hs8]
  unfold pX7_bucketAt_0 nth
  rw [r_bat_o h hi12 hN h1 hnr hn hs hs8 h2 (s + 1) N 0 0 zi_0 (by omega) (by omega)]
  cases fi (fun j => (fun _ => true) j && decide (cn (fun k => (fun _ => true) k && flt nr s k j) 0 (s + 1) = b)) 0 (s + 1) with
  | none => rfl
  | some j => rfl
end RBAT
section RLOOK
variable {G : mm_M} {J : Nat → Nat → Int32} {m N now ser st n : Nat} {ids : List Nat} {P : List (Nat × Pe)} {L : List Dg} {x y z : Int32}
theorem up_some {v : Int} {p : Nat × Pe} (hw : RW J m ids P now ser L st) (hI : IV ids P now ser L st n) (hu : ups P v = some p) : (∃ k : Nat, P[k]? = some p) ∧ p.2.2.1 = true ∧ (p.2.1 : Int) = v ∧ pok ids now (12 * n) p.2 ∧ rpe J m ids st p.2 ∧ ix ids p.2.1 < ids.length ∧ idg ids (ix ids p.2.1) = p.2.1 ∧ ids[ix ids p.2.1]? = some p.2.1 := by
  obtain ⟨h1, h2⟩ := ups_fp hu
  obtain ⟨k, k1, k2⟩ := fp_mem h1
  have hm := List.mem_of_getElem? k1
  have hp := hI.2.2.2.2.1 p hm
  exact ⟨⟨k, k1⟩, h2, k2, hp, hw.2.2.2 p hm, ix_mem hw.1.2.2.1 hp.1.2⟩
theorem r_at2 (h : sM G m) (hw : RW J m ids P now ser L st) (hI : IV ids P now ser L st n) (hN : 400 ≤ N) : pX7_at_0 N m (mm_w G J) x = some (mm_w G J, oI ((ups P x.toInt).map (fun p => ix ids p.2.1))) := by
  have hk := fp_ix (v := x.toInt) hw.1.2.2.1 hI.2.2.1
  cases hf : fp P x.toInt with
  | none =>
    rw [hf, Option.map_none] at hk
    rw [r_at_n h hw.1 hN hk]
    have : ups P x.toInt = none := by unfold ups; rw [hf]
    rw [this]
    rfl
  | some p =>
    rw [hf, Option.map_some] at hk
    obtain ⟨k, k1, k2⟩ := fp_mem hf
    have hr := hw.2.2.2 p (List.mem_of_getElem? k1)
    rw [r_at_s h hw.1 hN hk hr.1]
    have : ups P x.toInt = if p.2.2.1 = true then some p else none := by unfold ups; rw [hf]
    rw [this]
    split <;> rfl
theorem r_clock (h : sM G m) (hw : RW J m ids P now ser L st) : ∃ v : Int32, pX7_clock_0 N m (mm_w G J) = some (mm_w G J, v) ∧ v.toInt = (now : Int) := by
  unfold pX7_clock_0
  rw [w_gI h.1]
  exact ⟨_, rfl, hw.2.1.1⟩
theorem r_waiting (h : sM G m) (hw : RW J m ids P now ser L st) : ∃ v : Int32, pX7_waiting_0 N m (mm_w G J) = some (mm_w G J, v) ∧ v.toInt = (L.length : Int) := by
  unfold pX7_waiting_0
  rw [w_gI h.1]
  exact ⟨_, rfl, hw.2.2.1.1⟩
theorem r_datagram (h : sM G m) (hw : RW J m ids P now ser L st) : ∃ v : Int32, pX7_datagram_0 N m (mm_w G J) x y = some (mm_w G J, v) ∧ v.toInt = aDg L x.toInt y.toInt := by
  obtain ⟨l1, l2, l3⟩ := hw.2.2.1
  unfold pX7_datagram_0 aDg
  rw [w_is h.1, r_inline h hw.2.2.1, w_cl]
  by_cases h0 : 0 ≤ x.toInt ∧ x.toInt < L.length
  · rw [if_pos h0, if_neg (by decide)]
    by_cases h1 : y.toInt < 0
    · rw [if_pos (by rw [zi_lt, zi_0]; exact h1), if_neg (by omega)]
      exact ⟨_, rfl, zi_m1⟩
    · rw [if_neg (by rw [zi_lt, zi_0]; exact h1)]
      by_cases h2 : 11 < y.toInt
      · rw [if_pos (by rw [zi_lt, zi_11]; exact h2), if_neg (by omega)]
        exact ⟨_, rfl, zi_m1⟩
      · have hx : x.toInt = ((x.toInt.toNat : Nat) : Int) := by omega
        have hy : y.toInt = ((y.toInt.toNat : Nat) : Int) := by omega
        have hlt : x.toInt.toNat < L.length := by omega
        rw [if_neg (by rw [zi_lt, zi_11]; exact h2), if_pos (by omega), gr_line h, w_nn, ai_line (i := 12 * x.toInt.toNat + y.toInt.toNat) h (by rw [zi_add (zi_k12 hx (by omega)) hy (by omega) (by omega)]; omega) (by omega)]
        refine ⟨_, rfl, ?_⟩
        rw [List.getD_eq_getElem?_getD, List.getElem?_eq_getElem hlt]
        exact l3 _ _ (List.getElem?_eq_getElem hlt) _ (by omega)
  · rw [if_neg h0, if_pos rfl, if_neg (by omega)]
    exact ⟨_, rfl, zi_m1⟩
theorem r_lookup (h : sM G m) (hw : RW J m ids P now ser L st) (hI : IV ids P now ser L st n) (hN : 400 ≤ N) : ∃ v : Int32, pX7_lookup_0 N m (mm_w G J) x = some (mm_w G J, v) ∧ v.toInt = aLook P x.toInt := by
  have h12 := hw.1.2.1
  unfold pX7_lookup_0 aLook
  rw [w_is h.1, r_at2 h hw hI hN, w_cl]
  cases hu : ups P x.toInt with
  | none =>
    rw [Option.map_none, if_neg (by rw [zi_le, oI_none, zi_0]; decide)]
    exact ⟨_, rfl, zi_m1⟩
  | some p =>
    obtain ⟨-, -, -, pk, pr, a1, a2, a3⟩ := up_some hw hI hu
    have hIx := oI_some (n := ix ids p.2.1) (by omega)
    rw [Option.map_some, if_pos (by rw [zi_le, hIx, zi_0]; omega), gr_going h, w_nn, ai_going h hIx (by omega)]
    exact ⟨_, rfl, pr.2.2.1.1⟩
theorem r_candidate (h : sM G m) (hw : RW J m ids P now ser L st) (hI : IV ids P now ser L st n) (hN : 400 ≤ N) : ∃ v : Int32, pX7_candidate_0 N m (mm_w G J) x y = some (mm_w G J, v) ∧ v.toInt = aCand P x.toInt y.toInt := by
  have h12 := hw.1.2.1
  unfold pX7_candidate_0 aCand
  rw [w_is h.1, r_at2 h hw hI hN, w_cl]
  cases hu : ups P x.toInt with
  | none =>
    rw [Option.map_none, if_pos (by rw [zi_lt, oI_none, zi_0]; decide)]
    exact ⟨_, rfl, zi_m1⟩
  | some p =>
    obtain ⟨-, -, -, pk, pr, a1, a2, a3⟩ := up_some hw hI hu
    have hIx := oI_some (n := ix ids p.2.1) (by omega)
    obtain ⟨g1, g2⟩ := pr.2.2.1
    have hok := pk.2.2.1.2.2.1
    have hcl := srtC_len hok.1 hok.2.1 h12
    rw [Option.map_some, if_neg (by rw [zi_lt, hIx, zi_0]; omega), gr_going h, w_nn, ai_going h hIx (by omega)]
    dsimp only
    by_cases h0 : p.2.2.2.2.1.1 = 0
    · have hC := (pk.2.2.1.1.2 h0).1
      rw [if_pos (by rw [zi_eq, g1, h0, zi_0]; rfl), hC, if_neg (by simp)]
      exact ⟨_, rfl, zi_m1⟩
    · rw [if_neg (by rw [zi_eq, g1, zi_0]; omega)]
      by_cases hy0 : y.toInt < 0
      · rw [if_pos (by rw [zi_lt, zi_0]; exact hy0), if_neg (by omega)]
        exact ⟨_, rfl, zi_m1⟩
      · rw [if_neg (by rw [zi_lt, zi_0]; exact hy0)]
        by_cases hy1 : y.toInt ≤ 11
        · have hy : y.toInt = ((y.toInt.toNat : Nat) : Int) := by omega
          have hv := g2 h0
          rw [if_pos (by rw [zi_le, zi_11]; exact hy1), w_is h.1, r_rank (S := cS ids p.2.2.2.2.1.2.2.2.2.1) h hw.1 hv.2.1 (by omega) hN hIx hv.1.2.1 pk.2.2.1.2.1 hy, rank_eq hw.1.2.2.1 hok.1 hok.2.1, w_cl]
          by_cases hlt : y.toInt.toNat < p.2.2.2.2.1.2.2.2.2.1.length
          · have hcm := List.mem_of_getElem? (cgt_at hlt)
            obtain ⟨c1, c2, c3⟩ := ix_mem hw.1.2.2.1 (hok.2.1 _ hcm)
            have hcx := oI_some (n := ix ids (cgt p.2.2.2.2.1.2.2.2.2.1 y.toInt.toNat).1) (by omega)
            have hSx := hv.2.1 _ (show ix ids (cgt p.2.2.2.2.1.2.2.2.2.1 y.toInt.toNat).1 < 12 by omega)
            rw [cS_ix hw.1.2.2.1 hok.1 hcm (hok.2.1 _ hcm)] at hSx
            obtain ⟨i1, i2⟩ := hw.1.2.2.2 _ _ c3
            have hm3 := hok.2.2 _ hcm
            rw [cgt_at hlt, Option.map_some, if_pos (by rw [zi_le, hcx, zi_0]; omega), gr_id h, w_nn, ai_id h hcx (by omega), gr_state h, w_nn, ai_state h (zi_12i hIx hcx (by omega) (by omega)) (by omega), if_pos (by omega)]
            refine ⟨_, rfl, ?_⟩
            have hd : (J (m + 16) (12 * ix ids p.2.1 + ix ids (cgt p.2.2.2.2.1.2.2.2.2.1 y.toInt.toNat).1) - 1).toInt = ((cgt p.2.2.2.2.1.2.2.2.2.1 y.toInt.toNat).2.1 : Int) := zi_dec hSx (by omega)
            rw [zi_add i1 (zi_mul zi_256 hd (by omega) (by omega)) (by omega) (by omega)]
          · rw [List.getElem?_eq_none (by omega), Option.map_none, if_neg (by rw [zi_le, oI_none, zi_0]; decide), if_neg (by omega)]
            exact ⟨_, rfl, zi_m1⟩
        · rw [if_neg (by rw [zi_le, zi_11]; exact hy1), if_neg (by omega)]
          exact ⟨_, rfl, zi_m1⟩
theorem r_foundc (h : sM G m) (hw : RW J m ids P now ser L st) (hI : IV ids P now ser L st n) (hN : 400 ≤ N) : ∃ v : Int32, pX7_found_0 N m (mm_w G J) x y = some (mm_w G J, v) ∧ v.toInt = aFound P x.toInt y.toInt := by
  have h12 := hw.1.2.1
  unfold pX7_found_0 aFound
  rw [w_is h.1, r_at2 h hw hI hN, w_cl]
  cases hu : ups P x.toInt with
  | none =>
    rw [Option.map_none, if_pos (by rw [zi_lt, oI_none, zi_0]; decide)]
    exact ⟨_, rfl, zi_m1⟩
  | some p =>
    obtain ⟨-, -, -, pk, pr, a1, a2, a3⟩ := up_some hw hI hu
    have hIx := oI_some (n := ix ids p.2.1) (by omega)
    obtain ⟨g1, g2⟩ := pr.2.2.1
    have hH : p.2.2.2.2.1.2.2.2.2.2.length ≤ 12 := Nat.le_trans (pig _ ids pk.2.2.1.2.2.2.2.1 pk.2.2.1.2.2.2.2.2) h12
    rw [Option.map_some, if_neg (by rw [zi_lt, hIx, zi_0]; omega), gr_going h, w_nn, ai_going h hIx (by omega)]
    dsimp only
    by_cases h0 : p.2.2.2.2.1.1 = 0
    · have hC := (pk.2.2.1.1.2 h0).2
      rw [if_pos (by rw [zi_eq, g1, h0, zi_0]; rfl), hC, if_neg (by simp)]
      exact ⟨_, rfl, zi_m1⟩
    · have hv := g2 h0
      rw [if_neg (by rw [zi_eq, g1, zi_0]; omega)]
      by_cases hy0 : y.toInt < 0
      · rw [if_pos (by rw [zi_lt, zi_0]; exact hy0), if_neg (by omega)]
        exact ⟨_, rfl, zi_m1⟩
      · rw [if_neg (by rw [zi_lt, zi_0]; exact hy0), gr_founds h, w_nn, ai_founds h hIx (by omega)]
        have hfl := hv.2.2.2.2.1
        by_cases hlt : y.toInt < p.2.2.2.2.1.2.2.2.2.2.length
        · have hy : y.toInt = ((y.toInt.toNat : Nat) : Int) := by omega
          have hlt2 : y.toInt.toNat < p.2.2.2.2.1.2.2.2.2.2.length := by omega
          rw [if_pos (by rw [zi_lt, hfl]; exact hlt), gr_find h, w_nn, ai_find h (zi_12i hIx hy (by omega) (by omega)) (by omega), if_pos (by omega)]
          refine ⟨_, rfl, ?_⟩
          rw [List.getD_eq_getElem?_getD, List.getElem?_eq_getElem hlt2]
          exact hv.2.2.2.2.2 _ _ (List.getElem?_eq_getElem hlt2)
        · rw [if_neg (by rw [zi_lt, hfl]; exact hlt), if_neg (by omega)]
          exact ⟨_, rfl, zi_m1⟩
theorem r_buckets (h : sM G m) (hw : RW J m ids P now ser L st) (hI : IV ids P now ser L st n) (hN : 400 ≤ N) : ∃ v : Int32, pX7_buckets_0 N m (mm_w G J) x = some (mm_w G J, v) ∧ v.toInt = aBks P x.toInt := by
  have h12 := hw.1.2.1
  unfold pX7_buckets_0 aBks
  rw [w_is h.1, r_at2 h hw hI hN, w_cl]
  cases hu : ups P x.toInt with
  | none =>
    rw [Option.map_none, if_neg (by rw [zi_le, oI_none, zi_0]; decide)]
    exact ⟨_, rfl, zi_m1⟩
  | some p =>
    obtain ⟨-, -, -, pk, pr, a1, a2, a3⟩ := up_some hw hI hu
    have hIx := oI_some (n := ix ids p.2.1) (by omega)
    obtain ⟨s, hs⟩ := pr.2.1
    have hs8 := hs.1.1
    rw [Option.map_some, if_pos (by rw [zi_le, hIx, zi_0]; omega), gr_splits h, w_nn, ai_splits h hIx (by omega)]
    refine ⟨_, rfl, ?_⟩
    dsimp only
    rw [zi_inc hs.2.1.2.1.1 (by omega), shp_len hs.1.2.1]
theorem r_bucket (h : sM G m) (hw : RW J m ids P now ser L st) (hI : IV ids P now ser L st n) (hN : 400 ≤ N) : ∃ v : Int32, pX7_bucket_0 N m (mm_w G J) x y = some (mm_w G J, v) ∧ v.toInt = aBk P now x.toInt y.toInt := by
  have h12 := hw.1.2.1
  unfold pX7_bucket_0 aBk gB
  rw [w_is h.1, r_at2 h hw hI hN, w_cl]
  cases hu : ups P x.toInt with
  | none =>
    rw [Option.map_none, if_pos (by rw [zi_lt, oI_none, zi_0]; decide)]
    exact ⟨_, rfl, zi_m1⟩
  | some p =>
    obtain ⟨-, -, -, pk, pr, a1, a2, a3⟩ := up_some hw hI hu
    have hIx := oI_some (n := ix ids p.2.1) (by omega)
    obtain ⟨s, hs⟩ := pr.2.1
    have hs8 := hs.1.1
    have hlen := shp_len hs.1.2.1
    have hnow := hI.1.1
    have hn5 := hI.1.2.2.2
    rw [Option.map_some, if_neg (by rw [zi_lt, hIx, zi_0]; omega)]
    by_cases hy0 : y.toInt < 0
    · rw [if_pos (by rw [zi_lt, zi_0]; exact hy0)]
      dsimp only
      rw [if_neg (by omega)]
      exact ⟨_, rfl, zi_m1⟩
    · rw [if_neg (by rw [zi_lt, zi_0]; exact hy0), gr_splits h, w_nn, ai_splits h hIx (by omega)]
      dsimp only
      by_cases hy1 : y.toInt ≤ (s : Int)
      · have hy : y.toInt = ((y.toInt.toNat : Nat) : Int) := by omega
        have hkl : y.toInt.toNat < p.2.2.2.1.length := by omega
        have hb := bg_at hkl
        obtain ⟨xx, x1, x2, x3, x4⟩ := tbk_x hs.1 hb
        have hxI := oI_some (n := xx) (by omega)
        obtain ⟨v, e1, f1⟩ := r_first (N := N) (k := xx) (y := oI (some xx)) h (by omega) hIx hs.2.1.1.1 hs.2.1.1.2 hs.2.1.2.1.1 hs8 hxI x2
        have hl3 := (hs.1.2.2 _ _ _ x1 hb).2.1
        have htch := (hs.2.2 _ _ _ x1 hb).1
        have hq := (pk.2.1.2 _ (List.mem_of_getElem? hb)).2.2.2
        have h256 := tbk_256 hs.1 hs.2.1.1.2 _ (List.mem_of_getElem? hb)
        have hheld := rtb_held hw.1.2.2.1 hI.2.1.2.2 hs x1 hb
        rw [if_pos (by rw [zi_le, hs.2.1.2.1.1]; exact hy1), w_is h.1, r_bat h (by omega) hN hIx hs.2.1.1.1 hs.2.1.1.2 hs.2.1.2.1.1 hs8 hy, x1, w_cl, w_is h.1, e1, w_cl, w_is h.1, r_held h hw.1 hs.2.1 (by omega) hN hIx hxI (by omega), hheld, w_cl, w_gI h.1, gr_touched h, w_nn, ai_touched h (zi_9i hIx hxI (by omega) (by omega)) (by omega)]
        have hcond : 0 ≤ y.toInt ∧ y.toInt < p.2.2.2.1.length := by omega
        rw [if_pos hcond]
        refine ⟨_, rfl, ?_⟩
        dsimp only
        have hc := hw.2.1.1
        generalize bg p.2.2.2.1 y.toInt.toNat = b at *
        rw [← x3] at f1
        have hsub := zi_sub hc htch (by omega) (by omega)
        rw [zi_add (zi_add f1 (zi_mul zi_256 (zi_ofNat (by omega)) (by omega) (by omega)) (by omega) (by omega)) (zi_mul zi_1024 hsub (by omega) (by omega)) (by omega) (by omega)]
      · rw [if_neg (by rw [zi_le, hs.2.1.2.1.1]; exact hy1), if_neg (by omega)]
        exact ⟨_, rfl, zi_m1⟩
theorem r_contact (h : sM G m) (hw : RW J m ids P now ser L st) (hI : IV ids P now ser L st n) (hN : 400 ≤ N) : ∃ v : Int32, pX7_contact_0 N m (mm_w G J) x y z = some (mm_w G J, v) ∧ v.toInt = aCt P x.toInt y.toInt z.toInt := by
  have h12 := hw.1.2.1
  unfold pX7_contact_0 aCt gB
  rw [w_is h.1, r_at2 h hw hI hN, w_cl]
  cases hu : ups P x.toInt with
  | none =>
    rw [Option.map_none, if_pos (by rw [zi_lt, oI_none, zi_0]; decide)]
    exact ⟨_, rfl, zi_m1⟩
  | some p =>
    obtain ⟨-, -, -, pk, pr, a1, a2, a3⟩ := up_some hw hI hu
    have hIx := oI_some (n := ix ids p.2.1) (by omega)
    obtain ⟨s, hs⟩ := pr.2.1
    have hs8 := hs.1.1
    have hlen := shp_len hs.1.2.1
    have hn5 := hI.1.2.2.2
    rw [Option.map_some, if_neg (by rw [zi_lt, hIx, zi_0]; omega)]
    by_cases hy0 : y.toInt < 0
    · rw [if_pos (by rw [zi_lt, zi_0]; exact hy0)]
      dsimp only
      rw [if_neg (by omega)]
      exact ⟨_, rfl, zi_m1⟩
    · rw [if_neg (by rw [zi_lt, zi_0]; exact hy0), gr_splits h, w_nn, ai_splits h hIx (by omega)]
      dsimp only
      by_cases hy1 : y.toInt ≤ (s : Int)
      · have hy : y.toInt = ((y.toInt.toNat : Nat) : Int) := by omega
        have hkl : y.toInt.toNat < p.2.2.2.1.length := by omega
        have hb := bg_at hkl
        obtain ⟨xx, x1, x2, x3, x4⟩ := tbk_x hs.1 hb
        have hxI := oI_some (n := xx) (by omega)
        have hl3 := (hs.1.2.2 _ _ _ x1 hb).2.1
        have hq := (pk.2.1.2 _ (List.mem_of_getElem? hb)).2.2.1
        have hcond : 0 ≤ y.toInt ∧ y.toInt < p.2.2.2.1.length := by omega
        rw [if_neg (by rw [zi_lt, hs.2.1.2.1.1]; omega), if_pos hcond]
        dsimp only
        by_cases hz0 : z.toInt < 0
        · rw [if_pos (by rw [zi_lt, zi_0]; exact hz0), if_neg (by omega)]
          exact ⟨_, rfl, zi_m1⟩
        · rw [if_neg (by rw [zi_lt, zi_0]; exact hz0)]
          by_cases hz2 : z.toInt ≤ 2
          · have hz : z.toInt = ((z.toInt.toNat : Nat) : Int) := by omega
            rw [if_pos (by rw [zi_le, zi_2]; exact hz2), w_is h.1, r_bat h (by omega) hN hIx hs.2.1.1.1 hs.2.1.1.2 hs.2.1.2.1.1 hs8 hy, x1, w_cl, w_is h.1, r_ord h hw.1 hs.2.1 (by omega) hN hIx hxI (by omega) hz, rtb_ord hw.1.2.2.1 hI.2.1.2.2 hs x1 hb, w_cl]
            have hcon := (hs.1.2.2 _ _ _ x1 hb).2.2
            have hmis := (hs.2.2 _ _ _ x1 hb).2.1
            generalize bg p.2.2.2.1 y.toInt.toNat = b at hb hl3 hq hcon hmis ⊢
            by_cases hlt : z.toInt.toNat < b.2.2.2.length
            · have hgs := List.getElem?_eq_getElem hlt
              have hgm := List.getElem_mem hlt
              rw [hgs, Option.map_some, List.getD_eq_getElem?_getD, hgs, Option.getD_some]
              generalize b.2.2.2[z.toInt.toNat] = c at hgm ⊢
              obtain ⟨c1, c2, c3⟩ := ix_mem hw.1.2.2.1 (hcon c hgm).2.1
              have hcx := oI_some (n := ix ids c.1) (by omega)
              obtain ⟨i1, i2⟩ := hw.1.2.2.2 _ _ c3
              have hm := (hmis c hgm).1
              have hm2 := (hq c hgm).2
              rw [if_pos (by rw [zi_le, hcx, zi_0]; omega), gr_id h, w_nn, ai_id h hcx (by omega), gr_misses h, w_nn, ai_misses h (zi_12i hIx hcx (by omega) (by omega)) (by omega), if_pos (by omega)]
              refine ⟨_, rfl, ?_⟩
              rw [zi_add i1 (zi_mul zi_256 hm (by omega) (by omega)) (by omega) (by omega)]
            · rw [List.getElem?_eq_none (by omega), Option.map_none, if_neg (by rw [zi_le, oI_none, zi_0]; decide), if_neg (by omega)]
              exact ⟨_, rfl, zi_m1⟩
          · rw [if_neg (by rw [zi_le, zi_2]; exact hz2), if_neg (by omega)]
            exact ⟨_, rfl, zi_m1⟩
      · rw [if_pos (by rw [zi_lt, hs.2.1.2.1.1]; omega), if_neg (by omega)]
        exact ⟨_, rfl, zi_m1⟩
theorem r_closest (h : sM G m) (hw : RW J m ids P now ser L st) (hI : IV ids P now ser L st n) (hN : 400 ≤ N) : ∃ v : Int32, pX7_closest_0 N m (mm_w G J) x y z = some (mm_w G J, v) ∧ v.toInt = aClo P x.toInt y.toInt z.toInt := by
  have h12 := hw.1.2.1
  unfold pX7_closest_0 aClo
  rw [w_is h.1, r_at2 h hw hI hN, w_cl]
  cases hu : ups P x.toInt with
  | none =>
    rw [Option.map_none, if_pos (by rw [zi_lt, oI_none, zi_0]; decide)]
    exact ⟨_, rfl, zi_m1⟩
  | some p =>
    obtain ⟨-, -, -, pk, pr, a1, a2, a3⟩ := up_some hw hI hu
    have hIx := oI_some (n := ix ids p.2.1) (by omega)
    obtain ⟨s, hs⟩ := pr.2.1
    rw [Option.map_some, if_neg (by rw [zi_lt, hIx, zi_0]; omega), w_is h.1, r_number, w_cl]
    dsimp only
    by_cases hy : 0 ≤ y.toInt ∧ y.toInt < 256
    · rw [if_pos hy, if_neg (by decide)]
      by_cases hz0 : z.toInt < 0
      · rw [if_pos (by rw [zi_lt, zi_0]; exact hz0), if_neg (by omega)]
        exact ⟨_, rfl, zi_m1⟩
      · rw [if_neg (by rw [zi_lt, zi_0]; exact hz0)]
        by_cases hz2 : z.toInt ≤ 2
        · have hyN : y.toInt = ((y.toInt.toNat : Nat) : Int) := by omega
          have hzN : z.toInt = ((z.toInt.toNat : Nat) : Int) := by omega
          have hcond : (0 ≤ y.toInt ∧ y.toInt < 256) ∧ 0 ≤ z.toInt ∧ z.toInt < 3 := by omega
          have hnr := near_eq (t := y.toInt.toNat) (r := z.toInt.toNat) (e := (-1 : Int)) (w := (-1 : Int)) hw.1.2.2.1 (tbk_nodup hs.1) (fun u hu => (tbk_ids hs.1 u hu).1) (M := mB ids p.2.2.2.1) mB_iff hw_none
          rw [if_pos (by rw [zi_le, zi_2]; exact hz2), w_is h.1, r_near h hw.1 hs.2.1 (by omega) hN hIx hyN (by omega) hzN zi_m1, hnr, w_cl, if_pos hcond, cbb_0 (tbk_nodup hs.1), nth3_nA (tbk_nodup hs.1), Nat.zero_add]
          cases hk : (nA (cns p.2.2.2.1) y.toInt.toNat (-1))[z.toInt.toNat]? with
          | none =>
            rw [Option.map_none, if_neg (by rw [zi_le, oI_none, zi_0]; decide)]
            exact ⟨_, rfl, zi_m1⟩
          | some u =>
            have hui := (tbk_ids hs.1 u (nA_mem.mp (List.mem_of_getElem? hk)).1).1
            obtain ⟨c1, c2, c3⟩ := ix_mem hw.1.2.2.1 hui
            have hcx := oI_some (n := ix ids u) (by omega)
            rw [Option.map_some, if_pos (by rw [zi_le, hcx, zi_0]; omega), gr_id h, w_nn, ai_id h hcx (by omega)]
            exact ⟨_, rfl, (hw.1.2.2.2 _ _ c3).1⟩
        · rw [if_neg (by rw [zi_le, zi_2]; exact hz2), if_neg (by omega)]
          exact ⟨_, rfl, zi_m1⟩
    · rw [if_neg hy, if_pos rfl, if_neg (fun e => hy e.1)]
      exact ⟨_, rfl, zi_m1⟩
theorem r_entry (h : sM G m) (hw : RW J m ids P now ser L st) (hI : IV ids P now ser L st n) (hN : 400 ≤ N) : ∃ v : Int32, pX7_entry_0 N m (mm_w G J) x y = some (mm_w G J, v) ∧ v.toInt = aEnt P now x.toInt y.toInt := by
  have h12 := hw.1.2.1
  unfold pX7_entry_0 aEnt
  rw [w_is h.1, r_at2 h hw hI hN, w_cl]
  cases hu : ups P x.toInt with
  | none =>
    rw [Option.map_none, if_pos (by rw [zi_lt, oI_none, zi_0]; decide)]
    exact ⟨_, rfl, zi_m1⟩
  | some p =>
    obtain ⟨-, -, -, pk, pr, a1, a2, a3⟩ := up_some hw hI hu
    have hIx := oI_some (n := ix ids p.2.1) (by omega)
    obtain ⟨e1, e2⟩ := pr.2.2.2
    have h6 := pk.2.2.2.1
    have hnow := hI.1.1
    have hn5 := hI.1.2.2.2
    rw [Option.map_some, if_neg (by rw [zi_lt, hIx, zi_0]; omega)]
    dsimp only
    by_cases hy0 : y.toInt < 0
    · rw [if_pos (by rw [zi_lt, zi_0]; exact hy0), if_neg (by omega)]
      exact ⟨_, rfl, zi_m1⟩
    · rw [if_neg (by rw [zi_lt, zi_0]; exact hy0), gr_entries h, w_nn, ai_entries h hIx (by omega)]
      by_cases hlt : y.toInt < p.2.2.2.2.2.length
      · have hy : y.toInt = ((y.toInt.toNat : Nat) : Int) := by omega
        have hlt2 : y.toInt.toNat < p.2.2.2.2.2.length := by omega
        have hx6 := zi_6i hIx hy (by omega) (by omega)
        have heg := egt_at hlt2
        obtain ⟨f1, f2, f3⟩ := e2 _ _ heg
        obtain ⟨k1, k2, k3, k4⟩ := pk.2.2.2.2 _ (List.mem_of_getElem? heg)
        have k5 := hI.2.1.2.2 _ k2
        have hc := hw.2.1.1
        rw [if_pos (by rw [zi_lt, e1]; exact hlt), gr_key h, w_nn, ai_key h hx6 (by omega), gr_holder h, w_nn, ai_holder h hx6 (by omega), gr_until h, w_nn, ai_until h hx6 (by omega), w_gI h.1, if_pos (by omega)]
        refine ⟨_, rfl, ?_⟩
        generalize egt p.2.2.2.2.2 y.toInt.toNat = e at *
        have hsub := zi_sub f3 hc (by omega) (by omega)
        rw [zi_add (zi_add f1 (zi_mul zi_256 f2 (by omega) (by omega)) (by omega) (by omega)) (zi_mul zi_65536 hsub (by omega) (by omega)) (by omega) (by omega)]
      · rw [if_neg (by rw [zi_lt, e1]; exact hlt), if_neg (by omega)]
        exact ⟨_, rfl, zi_m1⟩
end RLOOK
