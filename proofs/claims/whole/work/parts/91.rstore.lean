/-! the reference keeps what is stored -/
def fre (J J' : Nat → Nat → Int32) (m i : Nat) : Prop := ∀ z j, (z ≠ m + 8 ∨ j ≠ i) → ((z ≠ m + 9 ∧ z ≠ m + 10 ∧ z ≠ m + 11) ∨ j < 6 * i ∨ 6 * i + 6 ≤ j) → J' z j = J z j
theorem fre.X {J J' : Nat → Nat → Int32} {m i : Nat} (h : fre J J' m i) : frX J J' m i := ⟨fun z j hz => h z j (by omega) (by omega), ⟨h _ _ (by omega) (by omega), fun j => h _ _ (by omega) (by omega)⟩, fun i' hi => ⟨fun z hz => h _ _ (by omega) (by omega), fun z hz j _ => h _ _ (by omega) (by omega), fun j _ => h _ _ (by omega) (by omega), fun z hz j _ => h _ _ (by omega) (by omega)⟩⟩
theorem zi_eph {x : Int32} {now : Nat} (hx : x.toInt = (now : Int)) (hn : now < 10000) : ((1 + x / 8 : Int32) - 1) = Int32.ofNat (now / 8) := by
  rw [zi_ep hx (by omega)]
  refine zi_eqN (zi_dec ?_ (by omega)) (by omega)
  rw [zi_ofNat (by omega), show 1 + now / 8 = now / 8 + 1 by omega]
section RSTORE
variable {G : mm_M} {J : Nat → Nat → Int32} {m N i : Nat} {ids : List Nat} {x1 x2 : Int32}
theorem r_token {j e : Nat} {x3 : Int32} (h : sM G m) (hi : rid J m ids) (h1 : x1.toInt = (i : Int)) (h2 : x2.toInt = (j : Int)) (hi2 : i < ids.length) (hj : j < ids.length) (h3 : x3 = Int32.ofNat e) : ∃ v : Int32, pX7_tokenOf_0 N m (mm_w G J) x1 x2 x3 = some (mm_w G J, v) ∧ v.toInt = tk (idg ids i) (idg ids j) e := by
  have h12 := hi.2.1
  obtain ⟨u1, u2⟩ := hi.g hi2
  obtain ⟨v1, v2⟩ := hi.g hj
  refine ⟨tkF (J (m + 1) i) (J (m + 1) j) x3, ?_, ?_⟩
  · unfold pX7_tokenOf_0
    rw [gr_id h, w_nn, ai_id h h1 (by omega), gr_id h, w_nn, ai_id h h2 (by omega)]
    rfl
  · unfold tk
    rw [zi_eqN u1 (by omega), zi_eqN v1 (by omega), h3]
theorem r_sto_f {E : List En} {D : Dg} {t sn : Nat} {kx : mm_M → Int32 → Int32 → Option (mm_M × Unit)} (h : sM G m) (hi12 : i < 12) (h1 : x1.toInt = (i : Int)) (he : ren J m i E) (h6 : E.length ≤ 6) (hD : rnow J m D) (d1 : D 1 = (sn : Int)) (d4 : D 4 = (t : Int)) : ∀ (r n k : Nat) (z : Int32), z.toInt = (k : Int) → k + r = E.length → r < n → pX7_store_48 N m kx n (mm_w G J) x1 z = kx (mm_w G J) x1 (Int32.ofNat (match (E.drop k).findIdx? (ekey t sn) with | some j => j + k | none => E.length)) := by
  intro r
  induction r with
  | zero =>
    intro n k z hz hk hn
    obtain ⟨n, rfl⟩ : ∃ m, n = m + 1 := ⟨n - 1, by omega⟩
    show pX7_store_48_b N m _ kx _ x1 z = _
    unfold pX7_store_48_b
    rw [gr_entries h, w_nn, ai_entries h h1 hi12, if_pos (by rw [zi_le, he.1, hz]; omega), List.drop_eq_nil_of_le (by omega), zi_eqN hz (by omega)]
    simp only [List.findIdx?_nil]
    rw [show k = E.length by omega]
  | succ r ih =>
    intro n k z hz hk hn
    obtain ⟨n, rfl⟩ : ∃ m, n = m + 1 := ⟨n - 1, by omega⟩
    have hlt : k < E.length := by omega
    obtain ⟨e1, e2, e3⟩ := he.2 k _ (List.getElem?_eq_getElem hlt)
    have go := ih n (k + 1) (z + 1) (zi_inc hz (by omega)) (by omega) (by omega)
    have key : (match (E.drop k).findIdx? (ekey t sn) with | some j => j + k | none => E.length) = if ekey t sn E[k] = true then k else (match (E.drop (k + 1)).findIdx? (ekey t sn) with | some j => j + (k + 1) | none => E.length) := by
      rw [List.drop_eq_getElem_cons hlt, List.findIdx?_cons]
      by_cases hq : ekey t sn E[k] = true
      · rw [if_pos hq, if_pos hq]
        simp
      · rw [if_neg hq, if_neg hq]
        cases (E.drop (k + 1)).findIdx? (ekey t sn) with
        | none => rfl
        | some j => show j + 1 + k = j + (k + 1); omega
    rw [key]
    show pX7_store_48_b N m _ kx _ x1 z = _
    unfold pX7_store_48_b
    rw [gr_entries h, w_nn, ai_entries h h1 hi12, if_neg (by rw [zi_le, he.1, hz]; omega), gr_key h, w_nn, ai_key h (zi_6i h1 hz hi12 (by omega)) (by omega), gr_now h, w_nn, ai_now (i := 4) h zi_4 (by omega)]
    by_cases hk1 : E[k].1 = t
    · rw [if_pos (by rw [zi_eq, e1, hD 4 (by omega), d4, hk1]), gr_holder h, w_nn, ai_holder h (zi_6i h1 hz hi12 (by omega)) (by omega), gr_now h, w_nn, ai_now (i := 1) h zi_1 (by omega)]
      by_cases hk2 : E[k].2.1 = sn
      · rw [if_pos (by rw [zi_eq, e2, hD 1 (by omega), d1, hk2]), if_pos (by unfold ekey; simp [hk1, hk2]), zi_eqN hz (by omega)]
      · rw [if_neg (by rw [zi_eq, e2, hD 1 (by omega), d1]; omega), if_neg (by unfold ekey; simp [hk2])]
        exact go
    · rw [if_neg (by rw [zi_eq, e1, hD 4 (by omega), d4]; omega), if_neg (by unfold ekey; simp [hk1])]
      exact go
theorem r_sto_w {E : List En} {D : Dg} {t sn now e : Nat} {z : Int32} (h : sM G m) (hi12 : i < 12) (h1 : x1.toInt = (i : Int)) (he : ren J m i E) (h6 : E.length ≤ 6) (hD : rnow J m D) (d1 : D 1 = (sn : Int)) (d4 : D 4 = (t : Int)) (hc : (J m 0).toInt = (now : Int)) (hn : now < 10000) (hz : z.toInt = (e : Int)) (hel : e ≤ E.length) (hkey : ∀ c, E[e]? = some c → c.1 = t ∧ c.2.1 = sn) : ∃ J', pX7_store_107 N m (mm_w G J) x1 z = some (mm_w G J', ()) ∧ ren J' m i (if e < E.length then E.modify e (fun c => (c.1, c.2.1, now + 24)) else eput E (t, sn, now + 24)) ∧ fre J J' m i := by
  unfold pX7_store_107
  by_cases h66 : e < 6
  · have hx6 := zi_6i h1 hz hi12 (by omega)
    rw [if_pos (by rw [zi_lt, hz, zi_6]; omega), gr_key h, gr_now h, w_nn, ai_now (i := 4) h zi_4 (by omega), w_nn, si_key h hx6 (by omega), gr_holder h, gr_now h, w_nn, ai_now (i := 1) h zi_1 (by omega), js_ne (a := m + 9) (b := m + 22) _ (Or.inl (by omega)), w_nn, si_holder h hx6 (by omega), gr_until h, w_gI h.1, js_ne (a := m + 10) (b := m) _ (Or.inl (by omega)), js_ne (a := m + 9) (b := m) _ (Or.inl (by omega)), w_nn, si_until h hx6 (by omega)]
    generalize hJ1 : js (js (js J (m + 9) (6 * i + e) (J (m + 22) 4)) (m + 10) (6 * i + e) (J (m + 22) 1)) (m + 11) (6 * i + e) (J m 0 + 24) = J1
    have a9 : J1 (m + 9) (6 * i + e) = J (m + 22) 4 := by rw [← hJ1, js_ne _ (Or.inl (by omega)), js_ne _ (Or.inl (by omega)), js_same]
    have a10 : J1 (m + 10) (6 * i + e) = J (m + 22) 1 := by rw [← hJ1, js_ne _ (Or.inl (by omega)), js_same]
    have a11 : J1 (m + 11) (6 * i + e) = J m 0 + 24 := by rw [← hJ1, js_same]
    have f1 : ∀ z j, ((z ≠ m + 9 ∧ z ≠ m + 10 ∧ z ≠ m + 11) ∨ j ≠ 6 * i + e) → J1 z j = J z j := fun z j hz => by rw [← hJ1, js_ne _ (by omega), js_ne _ (by omega), js_ne _ (by omega)]
    have b9 : (J1 (m + 9) (6 * i + e)).toInt = (t : Int) := by rw [a9, hD 4 (by omega), d4]
    have b10 : (J1 (m + 10) (6 * i + e)).toInt = (sn : Int) := by rw [a10, hD 1 (by omega), d1]
    have b11 : (J1 (m + 11) (6 * i + e)).toInt = ((now + 24 : Nat) : Int) := by rw [a11, zi_add hc zi_24 (by omega) (by omega)]; omega
    have b8 : J1 (m + 8) i = J (m + 8) i := f1 _ _ (by omega)
    rw [gr_entries h, gr_entries h, w_nn, ai_entries h h1 hi12, b8]
    by_cases hlt : e < E.length
    · rw [if_neg (by rw [zi_le, he.1, hz]; omega), gr_entries h, w_nn, ai_entries h h1 hi12, b8, w_nn, si_entries h h1 hi12, if_pos hlt]
      refine ⟨_, rfl, ⟨by rw [js_same, List.length_modify]; exact he.1, fun j c hj => ?_⟩, fun z j z1 z2 => by rw [js_ne _ (by omega), f1 z j (by omega)]⟩
      rw [js_ne _ (Or.inl (by omega)), js_ne _ (Or.inl (by omega)), js_ne _ (Or.inl (by omega))]
      rw [List.getElem?_modify] at hj
      cases hcj : E[j]? with
      | none => rw [hcj] at hj; cases hj
      | some d =>
        rw [hcj] at hj
        by_cases hej : e = j
        · subst hej
          simp at hj
          rw [← hj]
          obtain ⟨k1, k2⟩ := hkey d hcj
          rw [b9, b10, b11, k1, k2]
          exact ⟨rfl, rfl, rfl⟩
        · simp [hej] at hj
          rw [← hj, f1 _ _ (by omega), f1 _ _ (by omega), f1 _ _ (by omega)]
          exact he.2 j d hcj
    · have hee : e = E.length := by omega
      rw [if_pos (by rw [zi_le, he.1, hz]; omega), w_nn, si_entries h h1 hi12, if_neg hlt]
      unfold eput
      rw [if_pos (by omega)]
      refine ⟨_, rfl, ⟨by rw [js_same, List.length_append, zi_inc hz (by omega), hee]; rfl, fun j c hj => ?_⟩, fun z j z1 z2 => by rw [js_ne _ (by omega), f1 z j (by omega)]⟩
      rw [js_ne _ (Or.inl (by omega)), js_ne _ (Or.inl (by omega)), js_ne _ (Or.inl (by omega))]
      by_cases hjl : j < E.length
      · rw [List.getElem?_append_left hjl] at hj
        rw [f1 _ _ (by omega), f1 _ _ (by omega), f1 _ _ (by omega)]
        exact he.2 j c hj
      · rw [List.getElem?_append_right (by omega)] at hj
        have : j = e := by
          refine Decidable.byContradiction fun hne => ?_
          rw [show j - E.length = (j - E.length - 1) + 1 by omega] at hj
          cases hj
        subst this
        rw [hee, Nat.sub_self] at hj
        cases hj
        rw [b9, b10, b11]
        exact ⟨rfl, rfl, rfl⟩
  · rw [if_neg (by rw [zi_lt, hz, zi_6]; omega), if_neg (by omega)]
    unfold eput
    rw [if_neg (by omega)]
    exact ⟨J, rfl, he, fun _ _ _ _ => rfl⟩
theorem r_store {E : List En} {D : Dg} {t sn now : Nat} (h : sM G m) (hi : rid J m ids) (hi12 : i < ids.length) (hN : 400 ≤ N) (h1 : x1.toInt = (i : Int)) (h2 : x2.toInt = ((ix ids sn : Nat) : Int)) (hsn : sn ∈ ids) (he : ren J m i E) (h6 : E.length ≤ 6) (hD : rnow J m D) (d1 : D 1 = (sn : Int)) (d4 : D 4 = (t : Int)) (hc : (J m 0).toInt = (now : Int)) (hn : now < 10000) : ∃ J', pX7_store_0 N m (mm_w G J) x1 x2 = some (mm_w G J', ()) ∧ ren J' m i (stoE (idg ids i) sn now (D 5) t E) ∧ fre J J' m i := by
  have h12 := hi.2.1
  obtain ⟨a1, a2, a3⟩ := ix_mem hi.2.2.1 hsn
  obtain ⟨v1, e1, f1⟩ := r_token (N := N) (e := 1 + now / 8) h hi h1 h2 hi12 a1 (zi_ep hc (by omega))
  obtain ⟨v2, e2, f2⟩ := r_token (N := N) (e := now / 8) h hi h1 h2 hi12 a1 (zi_eph hc hn)
  rw [a2] at f1 f2
  have hput : ∃ J', pX7_store_48 N m (fun (G : mm_M) (x1 : Int32) (x4 : Int32) => pX7_store_107 N m G x1 x4) N (mm_w G J) x1 (0 : Int32) = some (mm_w G J', ()) ∧ ren J' m i (ekp E (t, sn, now + 24)) ∧ fre J J' m i := by
    rw [r_sto_f h (by omega) h1 he h6 hD d1 d4 E.length N 0 0 zi_0 (by omega) (by omega), List.drop_zero]
    unfold ekp
    cases hf : E.findIdx? (ekey t sn) with
    | none =>
      obtain ⟨J', g1, g2, g3⟩ := r_sto_w (N := N) (e := E.length) (z := Int32.ofNat E.length) h (by omega) h1 he h6 hD d1 d4 hc hn (zi_ofNat (by omega)) (Nat.le_refl _) (fun c hcc => by rw [List.getElem?_eq_none (Nat.le_refl _)] at hcc; cases hcc)
      rw [if_neg (by omega)] at g2
      exact ⟨J', g1, g2, g3⟩
    | some j =>
      obtain ⟨hj1, hj2, -⟩ := List.findIdx?_eq_some_iff_getElem.mp hf
      obtain ⟨J', g1, g2, g3⟩ := r_sto_w (N := N) (e := j) (z := Int32.ofNat (j + 0)) h (by omega) h1 he h6 hD d1 d4 hc hn (zi_ofNat (by omega)) (by omega) (fun c hcc => by
        rw [List.getElem?_eq_getElem hj1] at hcc
        cases hcc
        unfold ekey at hj2
        simpa using hj2)
      rw [if_pos hj1] at g2
      exact ⟨J', g1, g2, g3⟩
  unfold pX7_store_0 stoE
  rw [w_gI h.1, gr_now h, w_nn, ai_now (i := 5) h zi_5 (by omega), w_is h.1, e1, w_cl]
  have hD5 := hD 5 (by omega)
  by_cases hc1 : D 5 = tk (idg ids i) sn (1 + now / 8)
  · rw [if_pos (by rw [zi_eq, hD5, f1]; exact hc1), if_pos (Or.inl hc1)]
    exact hput
  · rw [if_neg (by rw [zi_eq, hD5, f1]; exact hc1), gr_now h, w_nn, ai_now (i := 5) h zi_5 (by omega), w_is h.1, e2, w_cl]
    by_cases hc2 : D 5 = tk (idg ids i) sn (now / 8)
    · rw [if_pos (by rw [zi_eq, hD5, f2]; exact hc2), if_pos (Or.inr hc2)]
      exact hput
    · rw [if_neg (by rw [zi_eq, hD5, f2]; exact hc2), if_neg (fun e => e.elim hc1 hc2)]
      exact ⟨J, rfl, he, fun _ _ _ _ => rfl⟩
end RSTORE
