/-! a lookup is started -/
def tchB (bs : List Bk) (t now : Nat) : List Bk := bs.set (rng bs t) ((bg bs (rng bs t)).1, (bg bs (rng bs t)).2.1, now, (bg bs (rng bs t)).2.2.2)
def cl3 (bs : List Bk) (t : Nat) : Nat → Option Nat → List Cd → List Cd
  | 0, _, C => C
  | _ + 1, none, C => C
  | r + 1, some n, C => cl3 bs t r (cbb bs t ((n ^^^ t : Nat) : Int) (-1)) (cadd C t n)
def frP (J J' : Nat → Nat → Int32) (a b : Nat) : Prop := ∀ x j, (x < b + 1 ∨ b + 36 ≤ x) → x ≠ a + 2 → x ≠ a + 3 → x ≠ a + 4 → (x ≠ a ∨ j ≠ 6) → J' x j = J x j
theorem frP.trans {J J' J'' : Nat → Nat → Int32} {a b : Nat} (h1 : frP J J' a b) (h2 : frP J' J'' a b) : frP J J'' a b := fun x j w y z u v => (h2 x j w y z u v).trans (h1 x j w y z u v)
theorem frT.P {J J' : Nat → Nat → Int32} {a b : Nat} (h : frT J J' (b + 1)) : frP J J' a b := fun x j w _ _ _ _ => h x j (by omega)
theorem frL.P {J J' : Nat → Nat → Int32} {a b : Nat} (h : frL J J' (b + 30)) : frP J J' a b := fun x j w _ _ _ _ => h x j (by omega)
theorem frK.P {J J' : Nat → Nat → Int32} {a b : Nat} (h : frK J J' a (b + 30)) : frP J J' a b := fun x j w y z u _ => h x j (by omega) y z u
theorem tv_congr {J J' : Nat → Nat → Int32} {q o : Nat} {w : Nat → Nat} {bs : List Bk} {G : mm_M} (h : sT G q w) (h9 : bs.length ≤ 9) (ht : tv J q w o bs) (hj : ∀ x, q ≤ x → x < q + 29 → ∀ j, J' x j = J x j) : tv J' q w o bs := by
  refine ⟨by rw [hj q (by omega) (by omega)]; exact ht.1, by rw [hj q (by omega) (by omega)]; exact ht.2.1, fun k b hb => ?_⟩
  have hk : k < bs.length := (List.getElem?_eq_some_iff.mp hb).1
  have hw := (h.row (k := k) (by omega)).2.2
  exact bk_congr (ht.2.2 k b hb) (fun j => hj _ (by omega) (by omega) j) (fun j => hj _ (by omega) (by omega) j) (fun j => hj _ (by omega) (by omega) j)
theorem cadd_len (C : List Cd) (t u : Nat) : (cadd C t u).length ≤ C.length + 1 := by
  unfold cadd
  cases cpl C u with
  | none => dsimp only; rw [cin_len]; omega
  | some j => dsimp only; omega
theorem cin_mem {C : List Cd} {t u : Nat} {c : Cd} (h : c ∈ cin C t u) : c ∈ C ∨ c = (u, 0, -1, -1) := by
  unfold cin at h
  rcases List.mem_append.mp h with h | h
  · exact Or.inl (List.mem_of_mem_take h)
  · rcases List.mem_cons.mp h with h | h
    · exact Or.inr h
    · exact Or.inl (List.mem_of_mem_drop h)
theorem cadd_mem {C : List Cd} {t u : Nat} {c : Cd} (h : c ∈ cadd C t u) : c ∈ C ∨ c = (u, 0, -1, -1) := by
  unfold cadd at h
  cases hp : cpl C u with
  | none => rw [hp] at h; exact cin_mem h
  | some j => rw [hp] at h; exact Or.inl h
theorem cadd_256 {C : List Cd} {t u : Nat} (hC : ∀ c ∈ C, c.1 < 256) (hu : u < 256) : ∀ c ∈ cadd C t u, c.1 < 256 := fun c hc => by
  rcases cadd_mem hc with h | h
  · exact hC c h
  · rw [h]; exact hu
theorem cbb_256 {bs : List Bk} {t : Nat} {d e : Int} (hn : ∀ n ∈ cns bs, n < 256) : ∀ m, cbb bs t d e = some m → m < 256 := fold_lt _ none hn (fun m hm => by cases hm)
theorem e_start_l {G : mm_M} {a b N st kd tg se nr : Nat} {w : Nat → Nat} {bs : List Bk} {H : List Nat} {x : Int32} {kx : mm_M → Option Nat → Option (mm_M × Unit)} (hp : sP G b) (hT : sT G (b + 1) w) (hok : okB bs) (h9 : bs.length ≤ 9) (hn : ∀ n ∈ cns bs, n < 256) (htg : tg < 256) (hN : 400 ≤ N) (hx : x.toInt = (tg : Int)) : ∀ (r n i : Nat) (y : Int32) (J : Nat → Nat → Int32) (C : List Cd) (m : Option Nat), y.toInt = (i : Int) → i + r = 3 → r < n → tv J (b + 1) w nr bs → lk J (b + 30) st kd tg se C H → C.length ≤ i → (∀ c ∈ C, c.1 < 256) → (∀ u, m = some u → u < 256) → ∃ J', pX6_startLookup_50 N a kx n (mm_w G J) (some b) x (oI m) y = kx (mm_w G J') (some b) ∧ lk J' (b + 30) st kd tg se (cl3 bs tg r m C) H ∧ frL J J' (b + 30) ∧ (cl3 bs tg r m C).length ≤ 3 ∧ ∀ c ∈ cl3 bs tg r m C, c.1 < 256 := by
  intro r
  induction r with
  | zero =>
    intro n i y J C m hy hi hnn ht hk hC hC2 hm
    obtain ⟨n, rfl⟩ : ∃ m, n = m + 1 := ⟨n - 1, by omega⟩
    refine ⟨J, ?_, by unfold cl3; exact hk, fun _ _ _ => rfl, by unfold cl3; omega, by unfold cl3; exact hC2⟩
    show pX6_startLookup_50_b N a _ kx _ _ x _ y = _
    unfold pX6_startLookup_50_b
    rw [if_pos (by rw [zi_le, zi_3, hy]; omega)]
  | succ r ih =>
    intro n i y J C m hy hi hnn ht hk hC hC2 hm
    obtain ⟨n, rfl⟩ : ∃ m, n = m + 1 := ⟨n - 1, by omega⟩
    show ∃ J', pX6_startLookup_50_b N a _ kx _ _ x _ y = _ ∧ _
    unfold pX6_startLookup_50_b
    rw [if_neg (by rw [zi_le, zi_3, hy]; omega)]
    cases m with
    | none =>
      rw [if_pos (show oI none = -1 from rfl)]
      exact ⟨J, rfl, by unfold cl3; exact hk, fun _ _ _ => rfl, by unfold cl3; omega, by unfold cl3; exact hC2⟩
    | some u =>
      have hu := hm u rfl
      have huI := oI_some (n := u) (by omega)
      rw [if_neg (by rw [zi_eq, huI, zi_m1]; omega), w_nn, w_gR hp.1, hp.2.1.2.1, w_nn, w_is hp.2.2.1.1]
      obtain ⟨J1, e1, e2, e3⟩ := e_cand (N := N) hp.2.2.1 hk (by omega) (fun _ => by omega) hu htg hC2 hN huI
      have ht1 : tv J1 (b + 1) w nr bs := tv_congr hT h9 ht (fun z z1 z2 j => e3 z j (by omega))
      have hxor := zi_xor huI hx (by omega) (by omega)
      rw [e1, w_cl, w_gR hp.1, hp.2.1.1, w_nn, w_is hT.1, e_close hT ht1 hok h9 hn htg hN hx hxor zi_m1, w_cl]
      have hlen := cadd_len C tg u
      obtain ⟨J2, f1, f2, f3, f4, f5⟩ := ih n (i + 1) (y + 1) J1 (cadd C tg u) (cbb bs tg ((u ^^^ tg : Nat) : Int) (-1)) (zi_inc hy (by omega)) (by omega) (by omega) ht1 e2 (by omega) (cadd_256 hC2 hu) (cbb_256 hn)
      exact ⟨J2, f1, by unfold cl3; exact f2, fun z j hz => (f3 z j hz).trans (e3 z j hz), by unfold cl3; exact f4, by unfold cl3; exact f5⟩
theorem cns_tch {bs : List Bk} {t now : Nat} (h0 : 0 < bs.length) : cns (tchB bs t now) = cns bs := by
  have hlt := rng_lt t h0
  unfold cns tchB
  rw [List.flatMap_def, List.flatMap_def, List.map_set]
  congr 1
  apply List.ext_getElem?
  intro k
  by_cases hk : rng bs t = k
  · subst hk
    rw [List.getElem?_set_self (by simpa using hlt), List.getElem?_map, bg_at hlt]
    rfl
  · rw [List.getElem?_set_ne hk]
theorem okB_set {bs : List Bk} {k : Nat} {b : Bk} (h : okB bs) (hb : b.2.2.2.length ≤ 3 ∧ b.1 + b.2.1 < 1000000) : okB (bs.set k b) := fun c hc => by
  rcases List.mem_or_eq_of_mem_set hc with h1 | h1
  · exact h c h1
  · rw [h1]; exact hb
theorem e_startL {G : mm_M} {J : Nat → Nat → Int32} {a b N st kd tg se nr now ser k t : Nat} {w : Nat → Nat} {bs : List Bk} {C : List Cd} {H : List Nat} {L : List Dg} {x y : Int32} (h : sO G a) (hp : sP G b) (hT : sT G (b + 1) w) (hb : a + 6 ≤ b) (ht : tv J (b + 1) w nr bs) (hok : okB bs) (h0 : 0 < bs.length) (h9 : bs.length ≤ 9) (hn : ∀ n ∈ cns bs, n < 256) (hk : lk J (b + 30) st kd tg se C H) (hl : lin J (a + 2) L) (h24 : L.length ≤ 24) (hnow : (J a 5).toInt = (now : Int)) (hser : (J a 6).toInt = (ser : Int)) (hs2 : ser < 100000) (hnr : (J b 0).toInt = (nr : Int)) (hN : 400 ≤ N) (hx : x.toInt = (k : Int)) (hy : y.toInt = (t : Int)) (htt : t < 256) :
    let bs1 := tchB bs t now
    let C0 := cl3 bs1 t 3 (cbb bs1 t (-1) (-1)) []
    let CL := goL k nr (ser + 1) t now 2 C0 L
    ∃ J', pX6_startLookup_0 N a (mm_w G J) (some b) x y = some (mm_w G J', ()) ∧ (J' a 6).toInt = ((ser + 1 : Nat) : Int) ∧ tv J' (b + 1) w nr bs1 ∧ lk J' (b + 30) (goS 1 CL.1) k t (ser + 1) CL.1 [] ∧ lin J' (a + 2) (goD k nr (ser + 1) t CL.1 CL.2) ∧ frP J J' a b := by
  intro bs1 C0 CL
  have hlt := rng_lt t h0
  have hser1 : (js J a 6 (J a 6 + 1) a 6).toInt = ((ser + 1 : Nat) : Int) := by rw [js_same, zi_inc hser (by omega)]
  have fr0 : frP J (js J a 6 (J a 6 + 1)) a b := fun z j _ _ _ _ hz => js_ne _ hz
  have ht0 : tv (js J a 6 (J a 6 + 1)) (b + 1) w nr bs := tv_congr hT h9 ht (fun z z1 z2 j => js_ne _ (Or.inl (by omega)))
  have hnow0 : (js J a 6 (J a 6 + 1) a 5).toInt = (now : Int) := by rw [js_ne _ (Or.inr (by omega))]; exact hnow
  obtain ⟨J1, e1, e2, e3⟩ := e_touch (N := N) hT ht0 h9 hN hy hnow0 (bg_at hlt)
  have hk1 : lk J1 (b + 30) st kd tg se C H := lk_congr hk (fun z z1 z2 j => by rw [e3 z j (by omega), js_ne _ (Or.inl (by omega))])
  have hser2 : (J1 a 6).toInt = ((ser + 1 : Nat) : Int) := by rw [e3 _ _ (by omega)]; exact hser1
  obtain ⟨J2, f1, f2, f3⟩ := e_lstart (N := N) hp.2.2.1 hk1 hx hy hser2
  have e2 : tv J1 (b + 1) w nr bs1 := e2
  have hb1 : bs1.length ≤ 9 := by show (tchB bs t now).length ≤ 9; unfold tchB; rw [List.length_set]; exact h9
  have hokq := hok.at (bg_at hlt)
  have hok1 : okB bs1 := okB_set hok ⟨hokq.1, hokq.2⟩
  have hn1 : ∀ n ∈ cns bs1, n < 256 := by rw [show cns bs1 = cns bs from cns_tch h0]; exact hn
  have ht2 : tv J2 (b + 1) w nr bs1 := tv_congr hT hb1 e2 (fun z z1 z2 j => f3 z j (by omega))
  obtain ⟨J3, g1, g2, g3, g4, g5⟩ := e_start_l (N := N) (a := a) (kx := fun (G : mm_M) (x1 : Option Nat) => q_is G a 7 <| q_cl (pX6_goOn_0 N a G x1) fun G _ => some (G, ())) hp hT hok1 hb1 hn1 htt hN hy 3 N 0 0 J2 [] (cbb bs1 t (-1) (-1)) zi_0 (by omega) (by omega) ht2 f2 (by simp) (fun c hc => by cases hc) (cbb_256 hn1)
  have fr3 : frP J J3 a b := (fr0.trans (e3.P)).trans ((f3.P).trans (g3.P))
  have hl3 : lin J3 (a + 2) L := by
    have q1 : ∀ d, d ≤ 1 → ∀ j, J3 (a + 2 + d) j = J (a + 2 + d) j := fun d hd j => by
      rw [g3 _ _ (by omega), f3 _ _ (by omega), e3 _ _ (by omega), js_ne _ (Or.inl (by omega))]
    exact ⟨by rw [show J3 (a + 2) 1 = J (a + 2) 1 from q1 0 (by omega) 1]; exact hl.1, fun i D hD c hc => by rw [q1 1 (by omega)]; exact hl.2 i D hD c hc⟩
  obtain ⟨J4, k1, k2, k3, k4⟩ := e_goon (N := N) (now := now) (nr := nr) h hp hb g2 (by omega) hl3 h24 (by rw [fr3 _ _ (by omega) (by omega) (by omega) (by omega) (Or.inr (by omega))]; exact hnow) (by rw [fr3 _ _ (by omega) (by omega) (by omega) (by omega) (Or.inl (by omega))]; exact hnr) hN
  refine ⟨J4, ?_, ?_, ?_, k2, k3, fr3.trans k4.P⟩
  · unfold pX6_startLookup_0
    rw [w_gI h.1, w_pI h.1, w_nn, w_gR hp.1, w_gI h.1, hp.2.1.1, w_nn, w_is hT.1, e1, w_cl, w_gR hp.1, w_gI h.1, hp.2.1.2.1, w_nn, w_is hp.2.2.1.1, f1, w_cl, w_gR hp.1, hp.2.1.1, w_nn, w_is hT.1, e_close hT ht2 hok1 hb1 hn1 htt hN hy zi_m1 zi_m1, w_cl, g1, w_is h.1, k1, w_cl]
  · rw [k4 _ _ (by omega) (by omega) (by omega) (by omega), g3 _ _ (by omega), f3 _ _ (by omega)]; exact hser2
  · exact tv_congr hT hb1 ht2 (fun z z1 z2 j => by rw [k4 z j (by omega) (by omega) (by omega) (by omega), g3 z j (by omega)])
