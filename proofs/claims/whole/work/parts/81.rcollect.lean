section RCOL2
variable {G : mm_M} {m N i kd tg se now : Nat} {ids : List Nat} {x1 : Int32}
theorem r_found_l {J : Nat → Nat → Int32} {H : List Nat} {u : Nat} {x2 : Int32} {kx : mm_M → Int32 → Option (mm_M × Int32)} (h : sM G m) (hi12 : i < 12) (h1 : x1.toInt = (i : Int)) (h2 : x2.toInt = (u : Int)) (hH : H.length ≤ 12) (hc : (J (m + 19) i).toInt = (H.length : Int)) (hf : ∀ (k h : Nat), H[k]? = some h → (J (m + 20) (12 * i + k)).toInt = (h : Int)) : ∀ (r n k : Nat) (b : Bool) (z : Int32), z.toInt = (k : Int) → k + r = H.length → r < n → pX7_hasFound_5 N m kx n (mm_w G J) x1 x2 (if b = true then 1 else 0) z = kx (mm_w G J) (if (b || decide (u ∈ H.drop k)) = true then 1 else 0) := by
  intro r
  induction r with
  | zero =>
    intro n k b z hz hk hn
    obtain ⟨n, rfl⟩ : ∃ m, n = m + 1 := ⟨n - 1, by omega⟩
    show pX7_hasFound_5_b N m _ kx _ x1 x2 _ z = _
    unfold pX7_hasFound_5_b
    rw [gr_founds h, w_nn, ai_founds h h1 hi12, if_pos (by rw [zi_le, hc, hz]; omega), List.drop_eq_nil_of_le (by omega)]
    simp
  | succ r ih =>
    intro n k b z hz hk hn
    obtain ⟨n, rfl⟩ : ∃ m, n = m + 1 := ⟨n - 1, by omega⟩
    have hlt : k < H.length := by omega
    have hfk := hf k _ (List.getElem?_eq_getElem hlt)
    have go := fun b => ih n (k + 1) b (z + 1) (zi_inc hz (by omega)) (by omega) (by omega)
    have g1 := go true
    have g0 := go false
    show pX7_hasFound_5_b N m _ kx _ x1 x2 _ z = _
    unfold pX7_hasFound_5_b
    rw [gr_founds h, w_nn, ai_founds h h1 hi12, if_neg (by rw [zi_le, hc, hz]; omega), gr_find h, w_nn, ai_find h (zi_12i h1 hz hi12 (by omega)) (by omega), List.drop_eq_getElem_cons hlt]
    cases b with
    | true =>
      rw [if_neg (by decide)]
      simpa using g1
    | false =>
      rw [if_pos (by decide)]
      by_cases hu : H[k] = u
      · rw [if_pos (by rw [zi_eq, hfk, h2, hu])]
        simpa [hu] using g1
      · rw [if_neg (by rw [zi_eq, hfk, h2]; omega)]
        have : (u ∈ H[k] :: H.drop (k + 1)) ↔ u ∈ H.drop (k + 1) := by
          rw [List.mem_cons]
          exact ⟨fun e => e.resolve_left (fun e => hu e.symm), Or.inr⟩
        simp only [this]
        simpa using g0
theorem r_found {J : Nat → Nat → Int32} {H : List Nat} {u : Nat} {x2 : Int32} (h : sM G m) (hi12 : i < 12) (hN : 400 ≤ N) (h1 : x1.toInt = (i : Int)) (h2 : x2.toInt = (u : Int)) (hH : H.length ≤ 12) (hc : (J (m + 19) i).toInt = (H.length : Int)) (hf : ∀ (k h : Nat), H[k]? = some h → (J (m + 20) (12 * i + k)).toInt = (h : Int)) : pX7_hasFound_0 N m (mm_w G J) x1 x2 = some (mm_w G J, if u ∈ H then 1 else 0) := by
  unfold pX7_hasFound_0
  have := r_found_l (N := N) (J := J) (kx := fun (G : mm_M) (x3 : Int32) => q_bit x3 <| some (G, x3)) h hi12 h1 h2 hH hc hf H.length N 0 false 0 zi_0 (by omega) (by omega)
  rw [List.drop_zero, if_neg (show ¬ (false = true) by decide)] at this
  rw [this]
  by_cases hu : u ∈ H
  · simp [hu, q_bit]
  · simp [hu, q_bit]
theorem rlv_hadd {J : Nat → Nat → Int32} {C : List Cd} {H : List Nat} {u : Nat} {v w : Int32} (h : rlv J m i ids kd tg se C H) (hv : v.toInt = (u : Int)) (hw : w.toInt = ((H.length + 1 : Nat) : Int)) : rlv (js (js J (m + 20) (12 * i + H.length) v) (m + 19) i w) m i ids kd tg se C (H ++ [u]) := by
  obtain ⟨⟨h1, h2, h3⟩, h4, h5, h6, h7, h8⟩ := h
  have fr : ∀ z k, z ≠ m + 19 → z ≠ m + 20 → js (js J (m + 20) (12 * i + H.length) v) (m + 19) i w z k = J z k := fun z k z1 z2 => by rw [js_ne _ (Or.inl z1), js_ne _ (Or.inl z2)]
  refine ⟨⟨by rw [fr _ _ (by omega) (by omega)]; exact h1, by rw [fr _ _ (by omega) (by omega)]; exact h2, by rw [fr _ _ (by omega) (by omega)]; exact h3⟩, fun k hk => by rw [fr _ _ (by omega) (by omega)]; exact h4 k hk, fun c hc e => by rw [fr _ _ (by omega) (by omega)]; exact h5 c hc e, fun c hc e => by rw [fr _ _ (by omega) (by omega)]; exact h6 c hc e, by rw [js_same, hw, List.length_append]; rfl, fun k x hk => ?_⟩
  rw [js_ne _ (Or.inl (by omega))]
  by_cases hkl : k < H.length
  · rw [List.getElem?_append_left hkl] at hk
    rw [js_ne _ (Or.inr (by omega))]
    exact h8 k x hk
  · rw [List.getElem?_append_right (by omega)] at hk
    have : k = H.length := by
      refine Decidable.byContradiction fun hne => ?_
      rw [show k - H.length = (k - H.length - 1) + 1 by omega] at hk
      cases hk
    subst this
    rw [Nat.sub_self] at hk
    cases hk
    rw [js_same]; exact hv
theorem haddI_ok {H : List Nat} {v : Int} (h : H.Nodup ∧ ∀ x ∈ H, x ∈ ids) (hv : okI ids v) : (haddI H v).Nodup ∧ ∀ x ∈ haddI H v, x ∈ ids := by
  unfold haddI
  rcases hv with rfl | ⟨u, rfl, hu⟩
  · rw [if_pos rfl]; exact h
  · rw [if_neg (by omega), Int.toNat_natCast]
    exact hadd_inS h hu
theorem r_coll_h {D : Dg} {C : List Cd} {kx : mm_M → Int32 → Option (mm_M × Unit)} (h : sM G m) (hi12 : i < ids.length) (hN : 400 ≤ N) (h1 : x1.toInt = (i : Int)) (hD : ∀ c, c < 3 → okI ids (D (9 + c))) : ∀ (r n c : Nat) (z : Int32) (J : Nat → Nat → Int32) (H : List Nat), z.toInt = ((9 + c : Nat) : Int) → c + r = 3 → r < n → rid J m ids → rnow J m D → rlv J m i ids kd tg se C H → (H.Nodup ∧ ∀ x ∈ H, x ∈ ids) → ∃ J', pX7_collect_133 N m kx n (mm_w G J) x1 z = kx (mm_w G J') x1 ∧ rlv J' m i ids kd tg se C (hln D r c H) ∧ ((hln D r c H).Nodup ∧ ∀ x ∈ hln D r c H, x ∈ ids) ∧ frc J J' m i := by
  intro r
  induction r with
  | zero =>
    intro n c z J H hz hc hn hi hw hv hok
    obtain ⟨n, rfl⟩ : ∃ m, n = m + 1 := ⟨n - 1, by omega⟩
    refine ⟨J, ?_, hv, hok, fun _ _ _ _ => rfl⟩
    show pX7_collect_133_b N m _ kx _ x1 z = _
    unfold pX7_collect_133_b
    rw [if_pos (by rw [zi_le, zi_12, hz]; omega)]
  | succ r ih =>
    intro n c z J H hz hc hn hi hw hv hok
    obtain ⟨n, rfl⟩ : ∃ m, n = m + 1 := ⟨n - 1, by omega⟩
    have h12 := hi.2.1
    have hH : H.length ≤ 12 := Nat.le_trans (pig H ids hok.1 hok.2) h12
    have hDc := hD c (by omega)
    have hwc := hw (9 + c) (by omega)
    have hz1 : (z + 1).toInt = ((9 + (c + 1) : Nat) : Int) := by rw [zi_inc (i := 9 + c) hz (by omega)]; rfl
    have hok1 := haddI_ok hok hDc
    show ∃ J', _ ∧ rlv J' m i ids kd tg se C (hln D r (c + 1) (haddI H (D (9 + c)))) ∧ ((hln D r (c + 1) (haddI H (D (9 + c)))).Nodup ∧ ∀ x ∈ hln D r (c + 1) (haddI H (D (9 + c))), x ∈ ids) ∧ _
    show ∃ J', pX7_collect_133_b N m _ kx _ x1 z = _ ∧ _
    unfold pX7_collect_133_b
    rw [if_neg (by rw [zi_le, zi_12, hz]; omega), gr_now h, w_nn, ai_now h hz (by omega)]
    unfold haddI at hok1 ⊢
    rcases hDc with e | ⟨u, e, hu⟩
    · rw [if_pos (by rw [zi_lt, hwc, e, zi_0]; decide), if_pos e]
      rw [if_pos e] at hok1
      exact ih n (c + 1) (z + 1) J H hz1 (by omega) (by omega) hi hw hv hok1
    · have hwu : (J (m + 22) (9 + c)).toInt = (u : Int) := by rw [hwc, e]
      rw [if_neg (by rw [zi_lt, hwu, zi_0]; omega), if_neg (by rw [e]; omega), gr_now h, w_nn, ai_now h hz (by omega), w_is h.1, r_found h (by omega) hN h1 hwu hH hv.2.2.2.2.1 hv.2.2.2.2.2, w_cl, e, Int.toNat_natCast]
      rw [if_neg (by rw [e]; omega), e, Int.toNat_natCast] at hok1
      unfold hadd at hok1 ⊢
      by_cases huH : u ∈ H
      · rw [if_pos huH, if_neg (by decide), if_pos huH]
        rw [if_pos huH] at hok1
        exact ih n (c + 1) (z + 1) J H hz1 (by omega) (by omega) hi hw hv hok1
      · rw [if_neg huH] at hok1
        have hl1 : (H ++ [u]).length ≤ 12 := Nat.le_trans (pig _ ids hok1.1 hok1.2) h12
        rw [List.length_append] at hl1
        simp only [List.length_cons, List.length_nil] at hl1
        rw [if_neg huH, if_pos rfl, if_neg huH, gr_find h, gr_founds h, w_nn, ai_founds h h1 (by omega), gr_now h, w_nn, ai_now h hz (by omega), w_nn, si_find h (zi_12i h1 hv.2.2.2.2.1 (by omega) (by omega)) (by omega), gr_founds h, gr_founds h, w_nn, ai_founds h h1 (by omega), js_ne (a := m + 20) (b := m + 19) _ (Or.inl (by omega)), w_nn, si_founds h h1 (by omega)]
        generalize hJ1 : js (js J (m + 20) (12 * i + H.length) (J (m + 22) (9 + c))) (m + 19) i (J (m + 19) i + 1) = J1
        have hv1 : rlv J1 m i ids kd tg se C (H ++ [u]) := by
          rw [← hJ1]
          exact rlv_hadd hv hwu (zi_inc hv.2.2.2.2.1 (by omega))
        have f1 : ∀ z k, (z ≠ m + 19 ∨ k ≠ i) → (z ≠ m + 20 ∨ k < 12 * i ∨ 12 * i + 12 ≤ k) → J1 z k = J z k := fun z k z1 z2 => by rw [← hJ1, js_ne _ (by omega), js_ne _ (by omega)]
        obtain ⟨J', g1, g2, g3, g4⟩ := ih n (c + 1) (z + 1) J1 (H ++ [u]) hz1 (by omega) (by omega) (rid_congr hi (f1 _ _ (by omega) (by omega)) (fun _ => f1 _ _ (by omega) (by omega))) (fun d hd => by rw [f1 _ _ (by omega) (by omega)]; exact hw d hd) hv1 hok1
        exact ⟨J', g1, g2, g3, fun z j z1 z2 => by rw [g4 z j z1 z2, f1 z j z1 (by omega)]⟩
end RCOL2
