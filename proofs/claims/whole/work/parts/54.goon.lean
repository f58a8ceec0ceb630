/-! the stores at a lookup's end; a lookup goes on -/
def sst (nr se tg : Nat) : List Cd → Nat → List Dg → List Dg
  | [], _, L => L
  | c :: C, s, L => if 3 ≤ s then L else if c.2.1 = 3 then sst nr se tg C s L else sst nr se tg C (s + 1) (ladd L (mkD 3 nr c.1 se tg c.2.2.2))
theorem lin_len_sst {nr se tg : Nat} : ∀ (C : List Cd) (s : Nat) (L : List Dg), L.length ≤ 24 → (sst nr se tg C s L).length ≤ 24
  | [], _, L, h => h
  | c :: C, s, L, h => by
    unfold sst
    split
    · exact h
    · split
      · exact lin_len_sst C s L h
      · exact lin_len_sst C (s + 1) _ (ladd_len h)
theorem e_stores_l {G : mm_M} {J0 : Nat → Nat → Int32} {a b N st kd tg se nr : Nat} {C : List Cd} {H : List Nat} {kx : mm_M → Option (mm_M × Unit)} (h : sO G a) (hp : sP G b) (hb : a + 6 ≤ b) (hk0 : lk J0 (b + 30) st kd tg se C H) (h12 : C.length ≤ 12) (hnr0 : (J0 b 0).toInt = (nr : Int)) (hN : 400 ≤ N) : ∀ (r n i s : Nat) (x y : Int32) (J : Nat → Nat → Int32) (L : List Dg), y.toInt = (i : Int) → x.toInt = (s : Int) → s ≤ i → i + r = C.length → r < n → lin J (a + 2) L → L.length ≤ 24 → frS J0 J a → ∃ J', pX6_sendStores_10 N a kx n (mm_w G J) (some b) (some (b + 30)) x y = kx (mm_w G J') ∧ lin J' (a + 2) (sst nr se tg (C.drop i) s L) ∧ frS J0 J' a := by
  obtain ⟨p0, ⟨-, p2, -⟩, pL, -⟩ := hp
  have r0 := pL.2 0 (by omega)
  have r1 := pL.2 1 (by omega)
  have r3 := pL.2 3 (by omega)
  intro r
  induction r with
  | zero =>
    intro n i s x y J L hy hx hs hi hn hl h24 hf
    obtain ⟨n, rfl⟩ : ∃ m, n = m + 1 := ⟨n - 1, by omega⟩
    have hk := lk_congr hk0 (fun z z1 z2 j => hf z j (by omega) (by omega) (by omega))
    refine ⟨J, ?_, by rw [List.drop_eq_nil_of_le (by omega)]; exact hl, hf⟩
    show pX6_sendStores_10_b N a _ kx _ _ _ x y = _
    unfold pX6_sendStores_10_b
    rw [w_nn, w_gI pL.1, if_pos (by rw [zi_le, hk.2.1.1, hy]; omega)]
  | succ r ih =>
    intro n i s x y J L hy hx hs hi hn hl h24 hf
    obtain ⟨n, rfl⟩ : ∃ m, n = m + 1 := ⟨n - 1, by omega⟩
    have hk := lk_congr hk0 (fun z z1 z2 j => hf z j (by omega) (by omega) (by omega))
    have hlt : i < C.length := by omega
    obtain ⟨g1, g2, g3, g4⟩ := hk.2.2.1 i C[i] (List.getElem?_eq_getElem hlt)
    have g1 : (J (b + 30 + 1 + 0) i).toInt = (C[i].1 : Int) := g1
    have g2 : (J (b + 30 + 1 + 1) i).toInt = (C[i].2.1 : Int) := g2
    have g4 : (J (b + 30 + 1 + 3) i).toInt = C[i].2.2.2 := g4
    have hnr : (J b 0).toInt = (nr : Int) := by rw [hf _ _ (by omega) (by omega) (by omega)]; exact hnr0
    have hy1 := zi_inc hy (by omega)
    rw [List.drop_eq_getElem_cons hlt]
    show ∃ J', pX6_sendStores_10_b N a _ kx _ _ _ x y = _ ∧ _
    unfold pX6_sendStores_10_b sst
    rw [w_nn, w_gI pL.1, if_neg (by rw [zi_le, hk.2.1.1, hy]; omega)]
    by_cases h3 : 3 ≤ s
    · rw [if_pos (by rw [zi_le, zi_3, hx]; omega), if_pos h3]
      exact ⟨J, rfl, hl, hf⟩
    · rw [if_neg (by rw [zi_le, zi_3, hx]; omega), if_neg h3, w_gR pL.1, r1.1, w_nn, w_aI r1.2.1 hy (by rw [r1.2.2]; omega)]
      by_cases hm : C[i].2.1 = 3
      · rw [if_pos (by rw [zi_eq, g2, zi_3]; omega), if_pos hm]
        exact ih n (i + 1) s x (y + 1) J L hy1 hx (by omega) (by omega) (by omega) hl h24 hf
      · rw [if_neg (by rw [zi_eq, g2, zi_3]; omega), if_neg hm, w_nn, w_gI p0, w_gR pL.1, r0.1, w_nn, w_aI r0.2.1 hy (by rw [r0.2.2]; omega), w_gI pL.1, w_gI pL.1, w_gR pL.1, r3.1, w_nn, w_aI r3.2.1 hy (by rw [r3.2.2]; omega)]
        obtain ⟨J1, e1, e2, e3⟩ := e_send (N := N) (J := J) (x1 := 3) (x2 := J b 0) (x3 := J (b + 30 + 1 + 0) i) (x4 := J (b + 30) 8) (x5 := J (b + 30) 7) (x6 := J (b + 30 + 1 + 3) i) (f := fun G => pX6_sendStores_10 N a kx n G (some b) (some (b + 30)) (x + 1) (y + 1)) h hl h24 hN
        rw [e1]
        rw [zi_3, hnr, g1, hk.1.2.2.2, hk.1.2.2.1, g4] at e2
        exact ih n (i + 1) (s + 1) (x + 1) (y + 1) J1 _ hy1 (zi_inc hx (by omega)) (by omega) (by omega) (by omega) e2 (ladd_len h24) (fun z j z1 z2 z3 => (e3 z j z1 z2 z3).trans (hf z j z1 z2 z3))
theorem e_stores {G : mm_M} {J : Nat → Nat → Int32} {a b N st kd tg se nr : Nat} {C : List Cd} {H : List Nat} {L : List Dg} (h : sO G a) (hp : sP G b) (hb : a + 6 ≤ b) (hk : lk J (b + 30) st kd tg se C H) (h12 : C.length ≤ 12) (hl : lin J (a + 2) L) (h24 : L.length ≤ 24) (hnr : (J b 0).toInt = (nr : Int)) (hN : 400 ≤ N) : ∃ J', pX6_sendStores_0 N a (mm_w G J) (some b) = some (mm_w G J', ()) ∧ lin J' (a + 2) (sst nr se tg C 0 L) ∧ frS J J' a := by
  unfold pX6_sendStores_0
  rw [w_nn, w_gR hp.1, hp.2.1.2.1]
  obtain ⟨J', e1, e2, e3⟩ := e_stores_l (N := N) (kx := fun (G : mm_M) => some (G, ())) h hp hb hk h12 hnr hN C.length N 0 0 0 0 J L zi_0 zi_0 (by omega) (by omega) (by omega) hl h24 (fun _ _ _ _ _ => rfl)
  exact ⟨J', e1, e2, e3⟩
def cgt (C : List Cd) (j : Nat) : Cd := C.getD j (0, 0, 0, 0)
theorem cgt_at {C : List Cd} {j : Nat} (h : j < C.length) : C[j]? = some (cgt C j) := by
  unfold cgt
  rw [List.getD_eq_getElem?_getD, List.getElem?_eq_getElem h]
  rfl
theorem ntk_lt : ∀ (C : List Cd) (p i j : Nat), ntk C p i = some j → i ≤ j ∧ j < i + C.length
  | [], _, _, _, h => by cases h
  | c :: C, p, i, j, h => by
    unfold ntk at h
    simp only [List.length_cons]
    split at h
    · cases h
    · split at h
      · cases h; omega
      · split at h
        · have := ntk_lt C p (i + 1) j h; omega
        · have := ntk_lt C (p + 1) (i + 1) j h; omega
theorem nta_lt {C : List Cd} {j : Nat} (h : nta C = some j) : j < C.length := by
  unfold nta at h
  split at h
  · have := ntk_lt C 0 0 j h; omega
  · cases h
/-- at most r candidates more are asked -/
def goL (kd nr se tg now : Nat) : Nat → List Cd → List Dg → List Cd × List Dg
  | 0, C, L => (C, L)
  | r + 1, C, L => match nta C with
    | none => (C, L)
    | some j => goL kd nr se tg now r (cask C j now) (ladd L (mkD (if kd = 1 then 1 else 0) nr (cgt C j).1 se tg (-1)))
theorem cask_len (C : List Cd) (j now : Nat) : (cask C j now).length = C.length := by unfold cask; simp
theorem goL_len {kd nr se tg now : Nat} : ∀ (r : Nat) (C : List Cd) (L : List Dg), (goL kd nr se tg now r C L).1.length = C.length ∧ (L.length ≤ 24 → (goL kd nr se tg now r C L).2.length ≤ 24)
  | 0, C, L => ⟨rfl, fun h => h⟩
  | r + 1, C, L => by
    unfold goL
    cases nta C with
    | none => exact ⟨rfl, fun h => h⟩
    | some j =>
      have := goL_len (kd := kd) (nr := nr) (se := se) (tg := tg) (now := now) r (cask C j now) (ladd L (mkD (if kd = 1 then 1 else 0) nr (cgt C j).1 se tg (-1)))
      dsimp only
      rw [cask_len] at this
      exact ⟨this.1, fun h => this.2 (ladd_len h)⟩
theorem e_go_l {G : mm_M} {a b N st kd tg se now nr : Nat} {H : List Nat} {kx : mm_M → Option Nat → Option Nat → Option (mm_M × Unit)} (h : sO G a) (hp : sP G b) (hb : a + 6 ≤ b) (hN : 400 ≤ N) : ∀ (r n i : Nat) (y : Int32) (J : Nat → Nat → Int32) (C : List Cd) (L : List Dg), y.toInt = (i : Int) → i + r = 2 → r < n → lk J (b + 30) st kd tg se C H → C.length ≤ 12 → lin J (a + 2) L → L.length ≤ 24 → (J a 5).toInt = (now : Int) → (J b 0).toInt = (nr : Int) → ∃ J', pX6_goOn_13 N a kx n (mm_w G J) (some b) (some (b + 30)) (oI (nta C)) y = kx (mm_w G J') (some b) (some (b + 30)) ∧ lk J' (b + 30) st kd tg se (goL kd nr se tg now r C L).1 H ∧ lin J' (a + 2) (goL kd nr se tg now r C L).2 ∧ frK J J' a (b + 30) := by
  intro r
  induction r with
  | zero =>
    intro n i y J C L hy hi hn hk h12 hl h24 hnow hnr
    obtain ⟨n, rfl⟩ : ∃ m, n = m + 1 := ⟨n - 1, by omega⟩
    refine ⟨J, ?_, hk, hl, fun _ _ _ _ _ _ => rfl⟩
    show pX6_goOn_13_b N a _ kx _ _ _ _ y = _
    unfold pX6_goOn_13_b
    rw [if_pos (by rw [zi_le, zi_2, hy]; omega)]
  | succ r ih =>
    intro n i y J C L hy hi hn hk h12 hl h24 hnow hnr
    obtain ⟨n, rfl⟩ : ∃ m, n = m + 1 := ⟨n - 1, by omega⟩
    show ∃ J', pX6_goOn_13_b N a _ kx _ _ _ _ y = _ ∧ _
    unfold pX6_goOn_13_b goL
    rw [if_neg (by rw [zi_le, zi_2, hy]; omega)]
    cases hna : nta C with
    | none =>
      rw [if_pos (show oI none = -1 from rfl)]
      exact ⟨J, rfl, hk, hl, fun _ _ _ _ _ _ => rfl⟩
    | some j =>
      have hj := nta_lt hna
      have hjI := oI_some (n := j) (by omega)
      rw [if_neg (by rw [zi_eq, hjI, zi_m1]; omega), w_is h.1]
      obtain ⟨J1, e1, e2, e3, e4⟩ := e_ask (N := N) h hp hb hk h12 hl h24 hnow hnr hN hjI (cgt_at hj)
      rw [e1, w_cl, w_nn, w_is hp.2.2.1.1, e_next hp.2.2.1 e2 (by rw [cask_len]; exact h12) hN, w_cl]
      obtain ⟨J2, f1, f2, f3, f4⟩ := ih n (i + 1) (y + 1) J1 _ _ (zi_inc hy (by omega)) (by omega) (by omega) e2 (by rw [cask_len]; exact h12) e3 (ladd_len h24) (by rw [e4 _ _ (by omega) (by omega) (by omega) (by omega)]; exact hnow) (by rw [e4 _ _ (by omega) (by omega) (by omega) (by omega)]; exact hnr)
      exact ⟨J2, f1, f2, f3, e4.trans f4⟩
/-- a lookup's stage, candidates and the line, once it has gone on -/
def goS (st : Nat) (C : List Cd) : Nat := if C.countP isA = 0 then 2 else st
def goD (kd nr se tg : Nat) (C : List Cd) (L : List Dg) : List Dg := if C.countP isA = 0 ∧ kd = 2 then sst nr se tg C 0 L else L
theorem e_goon {G : mm_M} {J : Nat → Nat → Int32} {a b N st kd tg se now nr : Nat} {C : List Cd} {H : List Nat} {L : List Dg} (h : sO G a) (hp : sP G b) (hb : a + 6 ≤ b) (hk : lk J (b + 30) st kd tg se C H) (h12 : C.length ≤ 12) (hl : lin J (a + 2) L) (h24 : L.length ≤ 24) (hnow : (J a 5).toInt = (now : Int)) (hnr : (J b 0).toInt = (nr : Int)) (hN : 400 ≤ N) : ∃ J', pX6_goOn_0 N a (mm_w G J) (some b) = some (mm_w G J', ()) ∧ lk J' (b + 30) (goS st (goL kd nr se tg now 2 C L).1) kd tg se (goL kd nr se tg now 2 C L).1 H ∧ lin J' (a + 2) (goD kd nr se tg (goL kd nr se tg now 2 C L).1 (goL kd nr se tg now 2 C L).2) ∧ frK J J' a (b + 30) := by
  unfold pX6_goOn_0
  rw [w_nn, w_gR hp.1, hp.2.1.2.1, w_nn, w_is hp.2.2.1.1, e_next hp.2.2.1 hk h12 hN, w_cl]
  obtain ⟨J1, e1, e2, e3, e4⟩ := e_go_l (N := N) (now := now) (nr := nr) (kx := fun (G : mm_M) (x1 : Option Nat) (x2 : Option Nat) => pX6_goOn_41 N a G x1 x2) h hp hb hN 2 N 0 0 J C L zi_0 (by omega) (by omega) hk h12 hl h24 hnow hnr
  rw [e1]
  obtain ⟨hlen, hlen2⟩ := goL_len (kd := kd) (nr := nr) (se := se) (tg := tg) (now := now) 2 C L
  generalize goL kd nr se tg now 2 C L = CL at e2 e3 hlen hlen2 ⊢
  obtain ⟨C1, L1⟩ := CL
  dsimp only at e2 e3 hlen hlen2 ⊢
  unfold pX6_goOn_41 goS goD
  have hle := List.countP_le_length (p := isA) (l := C1)
  rw [w_nn, w_is hp.2.2.1.1, e_asked hp.2.2.1 e2 (by omega) hN, w_cl]
  by_cases h0 : C1.countP isA = 0
  · rw [if_pos (by rw [zi_eq, zi_ofNat (by omega), zi_0]; omega), if_pos h0, w_pI hp.2.2.1.1, w_gI hp.2.2.1.1, js_ne _ (Or.inr (by omega))]
    have k2 : lk (js J1 (b + 30) 5 2) (b + 30) 2 kd tg se C1 H := by
      obtain ⟨⟨a1, a2, a3, a4⟩, ⟨a5, a6⟩, a7, a8⟩ := e2
      refine ⟨⟨by rw [js_same]; exact zi_2, ?_, ?_, ?_⟩, ⟨?_, ?_⟩, ?_, ?_⟩
      · rw [js_ne _ (Or.inr (by omega))]; exact a2
      · rw [js_ne _ (Or.inr (by omega))]; exact a3
      · rw [js_ne _ (Or.inr (by omega))]; exact a4
      · rw [js_ne _ (Or.inr (by omega))]; exact a5
      · rw [js_ne _ (Or.inr (by omega))]; exact a6
      · intro i c hc
        rw [js_ne _ (Or.inl (by omega)), js_ne _ (Or.inl (by omega)), js_ne _ (Or.inl (by omega)), js_ne _ (Or.inl (by omega))]
        exact a7 i c hc
      · intro i y hy
        rw [js_ne _ (Or.inl (by omega))]
        exact a8 i y hy
    have fr2 : frK J (js J1 (b + 30) 5 2) a (b + 30) := e4.trans (fun x j w _ _ _ => js_ne _ (Or.inl (by omega)))
    have l2 : lin (js J1 (b + 30) 5 2) (a + 2) L1 := ⟨by rw [js_ne _ (Or.inl (by omega))]; exact e3.1, fun k D hk' c hc => by rw [js_ne _ (Or.inl (by omega))]; exact e3.2 k D hk' c hc⟩
    by_cases h2 : kd = 2
    · rw [if_pos (by rw [zi_eq, e2.1.2.1, zi_2]; omega), if_pos ⟨h0, h2⟩, w_is h.1]
      obtain ⟨J3, f1, f2, f3⟩ := e_stores (N := N) h hp hb k2 (by omega) l2 (hlen2 h24) (by rw [fr2 _ _ (by omega) (by omega) (by omega) (by omega)]; exact hnr) hN
      rw [f1, w_cl]
      exact ⟨J3, rfl, lk_congr k2 (fun z z1 z2 j => f3 z j (by omega) (by omega) (by omega)), f2, fr2.trans (f3.K _)⟩
    · rw [if_neg (by rw [zi_eq, e2.1.2.1, zi_2]; omega), if_neg (by omega)]
      exact ⟨_, rfl, k2, l2, fr2⟩
  · rw [if_neg (by rw [zi_eq, zi_ofNat (by omega), zi_0]; omega), if_neg h0, if_neg (by omega)]
    exact ⟨J1, rfl, e2, e3, e4⟩
