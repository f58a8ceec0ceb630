/-! the whole world of the first program: the peers in the order of their numbers, each with its address; the clock; the last serial; the line -/
abbrev Lu : Type := Nat × Nat × Nat × Nat × List Cd × List Nat
abbrev Pe : Type := Nat × Bool × List Bk × Lu × List En
def pv (G : mm_M) (J : Nat → Nat → Int32) (b : Nat) (p : Pe) : Prop := sP G b ∧ ((J b 0).toInt = (p.1 : Int) ∧ (J b 4).toInt = (if p.2.1 = true then 1 else 0)) ∧ (∃ w, sT G (b + 1) w ∧ tv J (b + 1) w p.1 p.2.2.1) ∧ lk J (b + 30) p.2.2.2.1.1 p.2.2.2.1.2.1 p.2.2.2.1.2.2.1 p.2.2.2.1.2.2.2.1 p.2.2.2.1.2.2.2.2.1 p.2.2.2.1.2.2.2.2.2 ∧ en J (b + 36) p.2.2.2.2
def CW (G : mm_M) (J : Nat → Nat → Int32) (a : Nat) (P : List (Nat × Pe)) (now ser : Nat) (L : List Dg) : Prop :=
  sO G a ∧ (P.length ≤ 12 ∧ L.length ≤ 24) ∧ ((J a 4).toInt = (P.length : Int) ∧ (J a 5).toInt = (now : Int) ∧ (J a 6).toInt = (ser : Int)) ∧ lin J (a + 2) L ∧ (∀ (k : Nat) (p : Nat × Pe), P[k]? = some p → mm_R G (a + 1) k = some p.1 ∧ a + 29 ≤ p.1 ∧ pv G J p.1 p.2) ∧ ∀ (i j : Nat) (p q : Nat × Pe), P[i]? = some p → P[j]? = some q → i ≠ j → p.1 + 40 ≤ q.1 ∨ q.1 + 40 ≤ p.1
theorem sP_rw {G : mm_M} {b c : Nat} {g : Nat → Option Nat} (h : sP G b) (hc : c < b ∨ b + 40 ≤ c ∨ c = b + 2) : sP (mm_rw G c g) b := by
  obtain ⟨h0, ⟨h1, h2, h3⟩, hL, hE⟩ := h
  refine ⟨h0, ⟨by rw [mm_rw_ne _ _ _ (by omega)]; exact h1, by rw [mm_rw_ne _ _ _ (by omega)]; exact h2, by rw [mm_rw_ne _ _ _ (by omega)]; exact h3⟩, ⟨hL.1, fun i hi => ?_⟩, hE.1, fun i hi => ?_⟩
  · have := hL.2 i hi
    exact ⟨by rw [mm_rw_ne _ _ _ (by omega)]; exact this.1, this.2⟩
  · have := hE.2 i hi
    exact ⟨by rw [mm_rw_ne _ _ _ (by omega)]; exact this.1, this.2⟩
theorem sT_rw {G : mm_M} {q c : Nat} {w : Nat → Nat} {g : Nat → Option Nat} (h : sT G q w) (hc : c < q ∨ q + 29 ≤ c) : sT (mm_rw G c g) q w := by
  obtain ⟨h0, h1, h2, h3, h4, h5⟩ := h
  refine ⟨h0, by rw [mm_rw_ne _ _ _ (by omega)]; exact h1, h2, fun k hk => ?_, h4, fun m hm => sB_rw (h5 m hm) (by omega)⟩
  rw [mm_rw_ne _ _ _ (by omega)]
  exact h3 k hk
theorem sO_rw {G : mm_M} {a c : Nat} {g : Nat → Option Nat} (h : sO G a) (hc : a + 6 ≤ c) : sO (mm_rw G c g) a := by
  obtain ⟨h0, ⟨h1, h2, h3, h4⟩, h5, ⟨n0, n1, n2⟩, h7, h8⟩ := h
  exact ⟨h0, ⟨by rw [mm_rw_ne _ _ _ (by omega)]; exact h1, by rw [mm_rw_ne _ _ _ (by omega)]; exact h2, by rw [mm_rw_ne _ _ _ (by omega)]; exact h3, by rw [mm_rw_ne _ _ _ (by omega)]; exact h4⟩, h5, ⟨n0, by rw [mm_rw_ne _ _ _ (by omega)]; exact n1, n2⟩, h7, h8⟩
/-- a table's rows are at most nine -/
def pe9 (p : Pe) : Prop := p.2.2.1.length ≤ 9
theorem pv_keep {G : mm_M} {J J' : Nat → Nat → Int32} {b c : Nat} {g : Nat → Option Nat} {p : Pe} (h : pv G J b p) (h9 : pe9 p) (hc : c < b ∨ b + 40 ≤ c) (hj : ∀ x, b ≤ x → x < b + 40 → ∀ j, J' x j = J x j) : pv (mm_rw G c g) J' b p := by
  obtain ⟨h0, ⟨h1, h2⟩, ⟨w, hw, ht⟩, hk, he⟩ := h
  refine ⟨sP_rw h0 (by omega), ⟨by rw [hj b (by omega) (by omega)]; exact h1, by rw [hj b (by omega) (by omega)]; exact h2⟩, ⟨w, sT_rw hw (by omega), tv_congr hw h9 ht (fun x x1 x2 j => hj x (by omega) (by omega) j)⟩, lk_congr hk (fun x x1 x2 j => hj x (by omega) (by omega) j), en_congr he (fun x x1 x2 j => hj x (by omega) (by omega) j)⟩
/-- one peer changes, and what is the overlay's own -/
theorem CW.upd {G : mm_M} {J J' : Nat → Nat → Int32} {a now ser now' ser' k : Nat} {P : List (Nat × Pe)} {L L' : List Dg} {b : Nat} {p p' : Pe} {g : Nat → Option Nat} (h : CW G J a P now ser L) (h9 : ∀ q ∈ P, pe9 q.2) (hk : P[k]? = some (b, p)) (hp : pv (mm_rw G (b + 2) g) J' b p') (hl : lin J' (a + 2) L') (h24 : L'.length ≤ 24) (h4 : J' a 4 = J a 4) (h5 : (J' a 5).toInt = (now' : Int)) (h6 : (J' a 6).toInt = (ser' : Int)) (hf : ∀ x j, a + 29 ≤ x → (x < b ∨ b + 40 ≤ x) → J' x j = J x j) : CW (mm_rw G (b + 2) g) J' a (P.set k (b, p')) now' ser' L' := by
  obtain ⟨c0, ⟨c1, c2⟩, ⟨c3, c4, c5⟩, c6, c7, c8⟩ := h
  have hkl : k < P.length := (List.getElem?_eq_some_iff.mp hk).1
  have hbk := c7 k _ hk
  have key : ∀ i q, (P.set k (b, p'))[i]? = some q → ∃ q0, P[i]? = some q0 ∧ q0.1 = q.1 ∧ (i ≠ k → q0 = q) ∧ (i = k → q = (b, p')) := by
    intro i q hq
    by_cases hik : k = i
    · subst hik
      rw [List.getElem?_set_self hkl] at hq
      cases hq
      exact ⟨_, hk, rfl, fun e => absurd rfl e, fun _ => rfl⟩
    · rw [List.getElem?_set_ne hik] at hq
      exact ⟨q, hq, rfl, fun _ => rfl, fun e => absurd e.symm hik⟩
  refine ⟨sO_rw c0 (by omega), ⟨by rw [List.length_set]; exact c1, h24⟩, ⟨by rw [h4, List.length_set]; exact c3, h5, h6⟩, hl, fun i q hq => ?_, fun i j q r hq hr hij => ?_⟩
  · obtain ⟨q0, e1, e2, e3, e4⟩ := key i q hq
    have h0 := c7 i q0 e1
    by_cases hik : i = k
    · have := e4 hik
      subst this
      subst hik
      rw [hk] at e1
      cases e1
      exact ⟨by rw [mm_rw_ne _ _ _ (by omega)]; exact h0.1, h0.2.1, hp⟩
    · have := e3 hik
      subst this
      have hd := c8 i k q0 (b, p) e1 hk hik
      dsimp only at hd
      have hql := h0.2.1
      refine ⟨by rw [mm_rw_ne _ _ _ (by omega)]; exact h0.1, h0.2.1, pv_keep h0.2.2 (h9 _ (List.mem_of_getElem? e1)) (by omega) (fun x x1 x2 j => hf x j (by omega) (by omega))⟩
  · obtain ⟨q0, e1, e2, -, -⟩ := key i q hq
    obtain ⟨r0, f1, f2, -, -⟩ := key j r hr
    rw [← e2, ← f2]
    exact c8 i j q0 r0 e1 f1 hij
theorem mm_rwR (G : mm_M) (a : Nat) : mm_rw G a (mm_R G a) = G := mm_rw_self G a
/-! who is known, who is up -/
def fp (P : List (Nat × Pe)) (v : Int) : Option (Nat × Pe) := P.find? (fun p => decide ((p.2.1 : Int) = v))
def ups (P : List (Nat × Pe)) (v : Int) : Option (Nat × Pe) := match fp P v with
  | some p => if p.2.2.1 = true then some p else none
  | none => none
theorem e_known_l {G : mm_M} {J : Nat → Nat → Int32} {a now ser N : Nat} {P : List (Nat × Pe)} {L : List Dg} {x : Int32} {kx : mm_M → Option (mm_M × Option Nat)} (h : CW G J a P now ser L) : ∀ (r n i : Nat) (y : Int32), y.toInt = (i : Int) → i + r = P.length → r < n → pX6_knownPeer_2 N a kx n (mm_w G J) x y = match (P.drop i).find? (fun p => decide ((p.2.1 : Int) = x.toInt)) with | some p => some (mm_w G J, some p.1) | none => kx (mm_w G J) := by
  obtain ⟨c0, ⟨c1, c2⟩, ⟨c3, c4, c5⟩, c6, c7, c8⟩ := h
  intro r
  induction r with
  | zero =>
    intro n i y hy hi hn
    obtain ⟨n, rfl⟩ : ∃ m, n = m + 1 := ⟨n - 1, by omega⟩
    show pX6_knownPeer_2_b N a _ kx _ x y = _
    unfold pX6_knownPeer_2_b
    rw [w_gI c0.1, if_pos (by rw [zi_le, c3, hy]; omega), List.drop_eq_nil_of_le (by omega)]
    rfl
  | succ r ih =>
    intro n i y hy hi hn
    obtain ⟨n, rfl⟩ : ∃ m, n = m + 1 := ⟨n - 1, by omega⟩
    have hlt : i < P.length := by omega
    obtain ⟨q1, q2, q3⟩ := c7 i P[i] (List.getElem?_eq_getElem hlt)
    show pX6_knownPeer_2_b N a _ kx _ x y = _
    unfold pX6_knownPeer_2_b
    rw [w_gI c0.1, if_neg (by rw [zi_le, c3, hy]; omega), w_gR c0.1, c0.2.1.1, w_nn, w_aR c0.2.2.1.1 hy (by rw [c0.2.2.1.2]; omega), q1, w_op, w_gI q3.1.1, List.drop_eq_getElem_cons hlt, List.find?_cons]
    by_cases hx : (P[i].2.1 : Int) = x.toInt
    · rw [if_pos (by rw [zi_eq, q3.2.1.1]; exact hx)]
      simp [hx]
    · rw [if_neg (by rw [zi_eq, q3.2.1.1]; exact hx)]
      simp only [hx, decide_false]
      exact ih n (i + 1) (y + 1) (zi_inc hy (by omega)) (by omega) (by omega)
theorem e_known {G : mm_M} {J : Nat → Nat → Int32} {a now ser N : Nat} {P : List (Nat × Pe)} {L : List Dg} {x : Int32} (h : CW G J a P now ser L) (hN : 400 ≤ N) : pX6_knownPeer_0 N a (mm_w G J) x = some (mm_w G J, (fp P x.toInt).map Prod.fst) := by
  unfold pX6_knownPeer_0
  have := h.2.1.1
  rw [e_known_l h P.length N 0 0 zi_0 (by omega) (by omega), List.drop_zero]
  unfold fp
  cases P.find? (fun p => decide ((p.2.1 : Int) = x.toInt)) with
  | none => rfl
  | some p => rfl
theorem fp_mem {P : List (Nat × Pe)} {v : Int} {p : Nat × Pe} (h : fp P v = some p) : ∃ k : Nat, P[k]? = some p ∧ (p.2.1 : Int) = v := by
  unfold fp at h
  obtain ⟨k, hk⟩ := List.getElem?_of_mem (List.mem_of_find?_eq_some h)
  exact ⟨k, hk, by simpa using List.find?_some h⟩
theorem ups_fp {P : List (Nat × Pe)} {v : Int} {p : Nat × Pe} (h : ups P v = some p) : fp P v = some p ∧ p.2.2.1 = true := by
  unfold ups at h
  cases hf : fp P v with
  | none => rw [hf] at h; cases h
  | some q =>
    rw [hf] at h
    dsimp only at h
    split at h
    · rename_i hq; cases h; exact ⟨rfl, hq⟩
    · cases h
theorem e_up {G : mm_M} {J : Nat → Nat → Int32} {a now ser N : Nat} {P : List (Nat × Pe)} {L : List Dg} {x : Int32} (h : CW G J a P now ser L) (hN : 400 ≤ N) : pX6_upPeer_0 N a (mm_w G J) x = some (mm_w G J, (ups P x.toInt).map Prod.fst) := by
  unfold pX6_upPeer_0 ups
  rw [w_is h.1.1, e_known h hN, w_cl]
  cases hf : fp P x.toInt with
  | none => rfl
  | some p =>
    obtain ⟨k, hk, -⟩ := fp_mem hf
    obtain ⟨q1, q2, q3⟩ := h.2.2.2.2.1 k p hk
    simp only [Option.map_some]
    rw [w_op, w_gI q3.1.1]
    have hu := q3.2.1.2
    cases hb : p.2.2.1 with
    | true =>
      rw [hb] at hu
      rw [if_neg (by rw [zi_eq, hu, zi_0]; decide)]
      rfl
    | false =>
      rw [hb] at hu
      rw [if_pos (by rw [zi_eq, hu, zi_0]; decide)]
      rfl
