/-! entries: the object at q, keys, holders, ends at q + 1 .. q + 3 -/
def sE (G : mm_M) (q : Nat) : Prop := mm_K G q = 2 ∧ ∀ i, i < 3 → mm_R G q i = some (q + 1 + i) ∧ mm_K G (q + 1 + i) = 101 ∧ mm_ln G (q + 1 + i) = 6
abbrev En : Type := Nat × Nat × Nat
def en (J : Nat → Nat → Int32) (q : Nat) (L : List En) : Prop := (J q 3).toInt = (L.length : Int) ∧ ∀ (j : Nat) (c : En), L[j]? = some c → (J (q + 1) j).toInt = (c.1 : Int) ∧ (J (q + 2) j).toInt = (c.2.1 : Int) ∧ (J (q + 3) j).toInt = (c.2.2 : Int)
def frE (J J' : Nat → Nat → Int32) (q : Nat) : Prop := ∀ b j, b < q ∨ q + 4 ≤ b → J' b j = J b j
theorem en_congr {J J' : Nat → Nat → Int32} {q : Nat} {L : List En} (h : en J q L) (hj : ∀ b, q ≤ b → b < q + 4 → ∀ j, J' b j = J b j) : en J' q L := by
  refine ⟨by rw [hj q (by omega) (by omega)]; exact h.1, fun j c hc => ?_⟩
  rw [hj _ (by omega) (by omega), hj _ (by omega) (by omega), hj _ (by omega) (by omega)]
  exact h.2 j c hc
def eput (L : List En) (e : En) : List En := if L.length < 6 then L ++ [e] else L
theorem e_put {G : mm_M} {J : Nat → Nat → Int32} {q N : Nat} {L : List En} {x y z : Int32} {e : En} (h : sE G q) (hl : en J q L) (hx : x.toInt = (e.1 : Int)) (hy : y.toInt = (e.2.1 : Int)) (hz : z.toInt = (e.2.2 : Int)) : ∃ J', pX1_put_0 N q (mm_w G J) x y z = some (mm_w G J', ()) ∧ en J' q (eput L e) ∧ frE J J' q ∧ ∀ b k, k ≠ L.length → b ≠ q → J' b k = J b k := by
  have r0 := h.2 0 (by omega)
  have r1 := h.2 1 (by omega)
  have r2 := h.2 2 (by omega)
  unfold pX1_put_0 eput
  rw [w_gI h.1]
  by_cases hf : L.length < 6
  · rw [if_neg (by rw [zi_le, zi_6, hl.1]; omega), if_pos hf]
    refine ⟨js (js (js (js J (q + 1 + 0) L.length x) (q + 1 + 1) L.length y) (q + 1 + 2) L.length z) q 3 (J q 3 + 1), ?_, ⟨?_, ?_⟩, ?_, ?_⟩
    · rw [w_gR h.1, r0.1, w_gI h.1, w_nn, w_sI r0.2.1 hl.1 (by rw [r0.2.2]; omega), w_gR h.1, r1.1, w_gI h.1, w_nn]
      rw [w_sI r1.2.1 (i := L.length) (by rw [js_ne _ (Or.inl (by omega))]; exact hl.1) (by rw [r1.2.2]; omega), w_gR h.1, r2.1, w_gI h.1, w_nn]
      rw [w_sI r2.2.1 (i := L.length) (by rw [js_ne _ (Or.inl (by omega)), js_ne _ (Or.inl (by omega))]; exact hl.1) (by rw [r2.2.2]; omega), w_gI h.1, w_pI h.1]
      rw [js_ne (b := q) _ (Or.inl (by omega)), js_ne (b := q) _ (Or.inl (by omega)), js_ne (b := q) _ (Or.inl (by omega))]
    · rw [js_same, zi_inc hl.1 (by omega)]; simp
    · intro j c hc
      rw [js_ne (b := q + 1) _ (Or.inl (by omega)), js_ne (b := q + 2) _ (Or.inl (by omega)), js_ne (b := q + 3) _ (Or.inl (by omega))]
      by_cases hj : j < L.length
      · rw [List.getElem?_append_left hj] at hc
        rw [js_ne _ (Or.inr (by omega)), js_ne _ (Or.inr (by omega)), js_ne _ (Or.inr (by omega)), js_ne _ (Or.inr (by omega)), js_ne _ (Or.inr (by omega)), js_ne _ (Or.inr (by omega)), js_ne _ (Or.inr (by omega)), js_ne _ (Or.inr (by omega)), js_ne _ (Or.inr (by omega))]
        exact hl.2 j c hc
      · have hj2 : j = L.length := by have := (List.getElem?_eq_some_iff.mp hc).1; simp at this; omega
        subst hj2
        simp at hc
        subst hc
        rw [show q + 3 = q + 1 + 2 from rfl, js_same, show q + 2 = q + 1 + 1 from rfl, js_ne (b := q + 1 + 1) _ (Or.inl (by omega)), js_same, js_ne (b := q + 1) _ (Or.inl (by omega)), js_ne (b := q + 1) _ (Or.inl (by omega)), show q + 1 = q + 1 + 0 from rfl, js_same]
        exact ⟨hx, hy, hz⟩
    · intro b j hb
      rw [js_ne _ (Or.inl (by omega)), js_ne _ (Or.inl (by omega)), js_ne _ (Or.inl (by omega)), js_ne _ (Or.inl (by omega))]
    · intro b k hk hb
      rw [js_ne _ (Or.inl hb), js_ne _ (Or.inr hk), js_ne _ (Or.inr hk), js_ne _ (Or.inr hk)]
  · rw [if_pos (by rw [zi_le, zi_6, hl.1]; omega), if_neg hf]
    exact ⟨J, rfl, hl, fun _ _ _ => rfl, fun _ _ _ _ => rfl⟩
def ekey (k o : Nat) (c : En) : Bool := decide (c.1 = k) && decide (c.2.1 = o)
def ekp (L : List En) (e : En) : List En := match L.findIdx? (ekey e.1 e.2.1) with
  | some j => L.modify j (fun c => (c.1, c.2.1, e.2.2))
  | none => eput L e
theorem e_keep_l {G : mm_M} {J : Nat → Nat → Int32} {q N : Nat} {L : List En} {x y z : Int32} {e : En} {kx : mm_M → Int32 → Int32 → Int32 → Option (mm_M × Unit)} (h : sE G q) (hl : en J q L) (h6 : L.length ≤ 6) (hx : x.toInt = (e.1 : Int)) (hy : y.toInt = (e.2.1 : Int)) : ∀ (r n i : Nat) (v : Int32), v.toInt = (i : Int) → i + r = L.length → r < n → pX1_keep_3 N q kx n (mm_w G J) x y z v = match (L.drop i).findIdx? (ekey e.1 e.2.1) with | some j => some (mm_w G (js J (q + 1 + 2) (j + i) z), ()) | none => kx (mm_w G J) x y z := by
  have r0 := h.2 0 (by omega)
  have r1 := h.2 1 (by omega)
  have r2 := h.2 2 (by omega)
  intro r
  induction r with
  | zero =>
    intro n i v hv hi hn
    obtain ⟨n, rfl⟩ : ∃ m, n = m + 1 := ⟨n - 1, by omega⟩
    show pX1_keep_3_b N q _ kx _ x y z v = _
    unfold pX1_keep_3_b
    rw [w_gI h.1, if_pos (by rw [zi_le, hl.1, hv]; omega), List.drop_eq_nil_of_le (by omega)]
    rfl
  | succ r ih =>
    intro n i v hv hi hn
    obtain ⟨n, rfl⟩ : ∃ m, n = m + 1 := ⟨n - 1, by omega⟩
    have hlt : i < L.length := by omega
    obtain ⟨v0, v1, v2⟩ := hl.2 i L[i] (List.getElem?_eq_getElem hlt)
    have v0 : (J (q + 1 + 0) i).toInt = (L[i].1 : Int) := v0
    have v1 : (J (q + 1 + 1) i).toInt = (L[i].2.1 : Int) := v1
    have hv1 := zi_inc hv (by omega)
    have go : pX1_keep_3 N q kx n (mm_w G J) x y z (v + 1) = match ((L.drop (i + 1)).findIdx? (ekey e.1 e.2.1)).map (· + 1) with | some j => some (mm_w G (js J (q + 1 + 2) (j + i) z), ()) | none => kx (mm_w G J) x y z := by
      rw [ih n (i + 1) (v + 1) hv1 (by omega) (by omega)]
      cases (L.drop (i + 1)).findIdx? (ekey e.1 e.2.1) with
      | none => rfl
      | some j =>
        simp only [Option.map_some]
        rw [show j + (i + 1) = j + 1 + i by omega]
    show pX1_keep_3_b N q _ kx _ x y z v = _
    unfold pX1_keep_3_b
    rw [w_gI h.1, if_neg (by rw [zi_le, hl.1, hv]; omega), w_gR h.1, r0.1, w_nn, w_aI r0.2.1 hv (by rw [r0.2.2]; omega), List.drop_eq_getElem_cons hlt, List.findIdx?_cons]
    by_cases c0 : L[i].1 = e.1
    · rw [if_pos (by rw [zi_eq, v0, hx]; omega), w_gR h.1, r1.1, w_nn, w_aI r1.2.1 hv (by rw [r1.2.2]; omega)]
      by_cases c1 : L[i].2.1 = e.2.1
      · have hk : ekey e.1 e.2.1 L[i] = true := by simp [ekey, c0, c1]
        rw [if_pos (by rw [zi_eq, v1, hy]; omega), w_gR h.1, r2.1, w_nn, w_sI r2.2.1 hv (by rw [r2.2.2]; omega), if_pos hk]
        simp
      · have hk : ¬ ekey e.1 e.2.1 L[i] = true := by simp [ekey, c1]
        rw [if_neg (by rw [zi_eq, v1, hy]; omega), if_neg hk]
        exact go
    · have hk : ¬ ekey e.1 e.2.1 L[i] = true := by simp [ekey, c0]
      rw [if_neg (by rw [zi_eq, v0, hx]; omega), if_neg hk]
      exact go
theorem e_keep {G : mm_M} {J : Nat → Nat → Int32} {q N : Nat} {L : List En} {x y z : Int32} {e : En} (h : sE G q) (hl : en J q L) (h6 : L.length ≤ 6) (hN : 400 ≤ N) (hx : x.toInt = (e.1 : Int)) (hy : y.toInt = (e.2.1 : Int)) (hz : z.toInt = (e.2.2 : Int)) : ∃ J', pX1_keep_0 N q (mm_w G J) x y z = some (mm_w G J', ()) ∧ en J' q (ekp L e) ∧ frE J J' q := by
  unfold pX1_keep_0 ekp
  rw [e_keep_l (e := e) h hl h6 hx hy L.length N 0 0 zi_0 (by omega) (by omega), List.drop_zero]
  cases hf : L.findIdx? (ekey e.1 e.2.1) with
  | none =>
    obtain ⟨J', e1, e2, e3, -⟩ := e_put (N := N) h hl hx hy hz
    refine ⟨J', ?_, e2, e3⟩
    dsimp only
    rw [w_is h.1, e1, w_cl]
  | some j =>
    refine ⟨js J (q + 1 + 2) (j + 0) z, rfl, ⟨?_, ?_⟩, ?_⟩
    · rw [js_ne _ (Or.inl (by omega)), hl.1]; simp
    · intro i c hc
      dsimp only at hc
      rw [List.getElem?_modify] at hc
      rw [js_ne _ (Or.inl (by omega)), js_ne _ (Or.inl (by omega))]
      by_cases hij : j = i
      · subst hij
        cases hg : L[j]? with
        | none => rw [hg] at hc; cases hc
        | some d =>
          rw [hg] at hc
          simp at hc
          subst hc
          have h9 := hl.2 j d hg
          refine ⟨h9.1, h9.2.1, ?_⟩
          show (js J (q + 1 + 2) j z (q + 1 + 2) j).toInt = _
          rw [js_same]
          exact hz
      · simp [hij] at hc
        rw [js_ne _ (Or.inr (by omega))]
        exact hl.2 i c hc
    · intro b i hb
      rw [js_ne _ (Or.inl (by omega))]
def live (now : Nat) (c : En) : Bool := decide (now < c.2.2)
theorem take_s2 {α : Type} {L : List α} {i : Nat} (h : i < L.length) : L.take (i + 1) = L.take i ++ [L[i]] := by
  rw [List.take_succ, List.getElem?_eq_getElem h]
  rfl
theorem fil_len2 {α : Type} {L : List α} {P : α → Bool} (i : Nat) : ((L.take i).filter P).length ≤ i := by
  have h1 := List.length_filter_le P (L.take i)
  have h2 : (L.take i).length ≤ i := by simp; omega
  omega
theorem e_ended_l {G : mm_M} {J0 : Nat → Nat → Int32} {q N now : Nat} {L : List En} {x w : Int32} {kx : mm_M → Option (mm_M × Unit)} (h : sE G q) (h6 : L.length ≤ 6) (hx : x.toInt = (now : Int)) (hw : w.toInt = (L.length : Int)) : ∀ (r n i : Nat) (v : Int32) (J : Nat → Nat → Int32), v.toInt = (i : Int) → i + r = L.length → r < n → en J q ((L.take i).filter (live now)) → (∀ (k : Nat) (c : En), i ≤ k → L[k]? = some c → (J (q + 1) k).toInt = (c.1 : Int) ∧ (J (q + 2) k).toInt = (c.2.1 : Int) ∧ (J (q + 3) k).toInt = (c.2.2 : Int)) → frE J0 J q → ∃ J', pX1_removeEnded_12 N q kx n (mm_w G J) x w v = kx (mm_w G J') ∧ en J' q (L.filter (live now)) ∧ frE J0 J' q := by
  have r0 := h.2 0 (by omega)
  have r1 := h.2 1 (by omega)
  have r2 := h.2 2 (by omega)
  intro r
  induction r with
  | zero =>
    intro n i v J hv hi hn hl hk hf
    obtain ⟨n, rfl⟩ : ∃ m, n = m + 1 := ⟨n - 1, by omega⟩
    have hi2 : i = L.length := by omega
    subst hi2
    rw [List.take_length] at hl
    refine ⟨J, ?_, hl, hf⟩
    show pX1_removeEnded_12_b N q _ kx _ x w v = _
    unfold pX1_removeEnded_12_b
    rw [if_pos (by rw [zi_le, hw, hv]; omega)]
  | succ r ih =>
    intro n i v J hv hi hn hl hk hf
    obtain ⟨n, rfl⟩ : ∃ m, n = m + 1 := ⟨n - 1, by omega⟩
    have hlt : i < L.length := by omega
    obtain ⟨v0, v1, v2⟩ := hk i L[i] (Nat.le_refl _) (List.getElem?_eq_getElem hlt)
    have v2' : (J (q + 1 + 2) i).toInt = (L[i].2.2 : Int) := v2
    have hv1 := zi_inc hv (by omega)
    have hfl := fil_len2 (L := L) (P := live now) i
    have hunf : pX1_removeEnded_12 N q kx (n + 1) (mm_w G J) x w v = if J (q + 1 + 2) i ≤ x then pX1_removeEnded_12 N q kx n (mm_w G J) x w (v + 1) else q_cl (pX1_put_0 N q (mm_w G J) (J (q + 1 + 0) i) (J (q + 1 + 1) i) (J (q + 1 + 2) i)) fun G _ => pX1_removeEnded_12 N q kx n G x w (v + 1) := by
      show pX1_removeEnded_12_b N q _ kx _ x w v = _
      unfold pX1_removeEnded_12_b
      rw [if_neg (by rw [zi_le, hw, hv]; omega), w_gR h.1, r2.1, w_nn, w_aI r2.2.1 hv (by rw [r2.2.2]; omega)]
      by_cases hc : J (q + 1 + 2) i ≤ x
      · rw [if_pos hc, if_pos hc]
      · rw [if_neg hc, if_neg hc, w_gR h.1, r0.1, w_nn, w_aI r0.2.1 hv (by rw [r0.2.2]; omega), w_gR h.1, r1.1, w_nn, w_aI r1.2.1 hv (by rw [r1.2.2]; omega), w_gR h.1, r2.1, w_nn, w_aI r2.2.1 hv (by rw [r2.2.2]; omega), w_is h.1]
    rw [hunf]
    by_cases hm : now < L[i].2.2
    · have hli : live now L[i] = true := by simp [live, hm]
      rw [if_neg (by rw [zi_le, v2', hx]; omega)]
      obtain ⟨J1, e1, e2, e3, e4⟩ := e_put (N := N) (e := L[i]) h hl (x := J (q + 1 + 0) i) (y := J (q + 1 + 1) i) (z := J (q + 1 + 2) i) v0 v1 v2
      rw [e1, w_cl]
      refine ih n (i + 1) (v + 1) J1 hv1 (by omega) (by omega) ?_ ?_ ?_
      · rw [take_s2 hlt, List.filter_append]
        unfold eput at e2
        rw [if_pos (by omega)] at e2
        simpa [hli] using e2
      · intro k c hki hc
        rw [e4 (q + 1) k (by omega) (by omega), e4 (q + 2) k (by omega) (by omega), e4 (q + 3) k (by omega) (by omega)]
        exact hk k c (by omega) hc
      · intro b j hb
        rw [e3 b j hb]
        exact hf b j hb
    · have hli : live now L[i] = false := by simp [live, hm]
      rw [if_pos (by rw [zi_le, v2', hx]; omega)]
      refine ih n (i + 1) (v + 1) J hv1 (by omega) (by omega) ?_ (fun k c hki hc => hk k c (by omega) hc) hf
      rw [take_s2 hlt, List.filter_append]
      simpa [hli] using hl
theorem e_ended {G : mm_M} {J : Nat → Nat → Int32} {q N now : Nat} {L : List En} {x : Int32} (h : sE G q) (hl : en J q L) (h6 : L.length ≤ 6) (hN : 400 ≤ N) (hx : x.toInt = (now : Int)) : ∃ J', pX1_removeEnded_0 N q (mm_w G J) x = some (mm_w G J', ()) ∧ en J' q (L.filter (live now)) ∧ frE J J' q := by
  unfold pX1_removeEnded_0
  rw [w_gI h.1, w_pI h.1]
  obtain ⟨J', e1, e2, e3⟩ := e_ended_l (N := N) (J0 := J) (L := L) (kx := fun (G : mm_M) => some (G, ())) h h6 hx hl.1 L.length N 0 0 (js J q 3 0) zi_0 (by omega) (by omega) ⟨by rw [js_same]; rfl, fun j c hc => by simp at hc⟩ (fun k c _ hc => by
      rw [js_ne _ (Or.inl (by omega)), js_ne _ (Or.inl (by omega)), js_ne _ (Or.inl (by omega))]
      exact hl.2 k c hc) (fun b j hb => by rw [js_ne _ (Or.inl (by omega))])
  exact ⟨J', e1, e2, e3⟩
