/-! tokens; answers; nodes; stores -/
def tkF (x0 x1 x2 : Int32) : Int32 := ((((((40503 : Int32) * x0) + ((9973 : Int32) * x1)) + ((30011 : Int32) * x2)) ^^^ (((((((40503 : Int32) * x0) + ((9973 : Int32) * x1)) + ((30011 : Int32) * x2))).toUInt32 >>> (((7 : Int32)).toUInt32 &&& Int32.toUInt32 31)).toInt32)) &&& (65535 : Int32))
def tk (p q e : Nat) : Int := (tkF (Int32.ofNat p) (Int32.ofNat q) (Int32.ofNat e)).toInt
theorem e_token {N : Nat} {G : mm_M} {x y z : Int32} : pX6_tokenOf_0 N G x y z = some (G, tkF x y z) := rfl
theorem zi_div {x y : Int32} {m n : Nat} (hx : x.toInt = (m : Int)) (hy : y.toInt = (n : Int)) : (x / y).toInt = ((m / n : Nat) : Int) := by
  have hr := zi_rng x
  rw [Int32.toInt_div, hx, hy]
  have e : (m : Int).tdiv n = ((m / n : Nat) : Int) := by
    rw [Int.tdiv_eq_ediv_of_nonneg (by omega)]
    rfl
  have hle : m / n ≤ m := Nat.div_le_self m n
  rw [e]
  generalize m / n = k at hle ⊢
  exact zi_bm (by omega) (by omega)
theorem zi_ep {x : Int32} {now : Nat} (hx : x.toInt = (now : Int)) (hn : now < 100000) : (1 + x / 8 : Int32) = Int32.ofNat (1 + now / 8) := by
  have h1 := zi_div hx zi_8
  have hle : now / 8 ≤ now := Nat.div_le_self now 8
  have h1 : (x / 8).toInt = ((now / 8 : Nat) : Int) := h1
  generalize now / 8 = k at h1 hle ⊢
  rw [zi_eq, zi_add zi_1 h1 (by omega) (by omega), zi_ofNat (by omega)]
  omega
theorem e_epoch {G : mm_M} {J : Nat → Nat → Int32} {a N now : Nat} (h : sO G a) (hnow : (J a 5).toInt = (now : Int)) (hn : now < 100000) : pX6_epochNow_0 N a (mm_w G J) = some (mm_w G J, Int32.ofNat (1 + now / 8)) := by
  unfold pX6_epochNow_0
  rw [w_gI h.1, zi_ep hnow hn]
def dset (D : Dg) (o : Nat) (l : List Int) : Dg := fun c => if o ≤ c ∧ c < o + l.length then l.getD (c - o) 0 else D c
theorem dset_nil (D : Dg) (o : Nat) : dset D o [] = D := by
  funext c
  unfold dset
  rw [if_neg (by simp only [List.length_nil]; omega)]
theorem dset_cons (D : Dg) (o : Nat) (v : Int) (l : List Int) : dset (dset D o [v]) (o + 1) l = dset D o (v :: l) := by
  funext c
  unfold dset
  simp only [List.length_cons, List.length_nil]
  by_cases h1 : o + 1 ≤ c ∧ c < o + 1 + l.length
  · rw [if_pos h1, if_pos (by omega), show c - o = (c - (o + 1)) + 1 by omega, List.getD_cons_succ]
  · rw [if_neg h1]
    by_cases h2 : c = o
    · rw [if_pos (by omega), if_pos (by omega), h2, Nat.sub_self]
      rfl
    · rw [if_neg (by omega), if_neg (by omega)]
theorem rw12_set {J : Nat → Nat → Int32} {r o : Nat} {D : Dg} {x : Int32} {v : Int} (h : rw12 J r D) (hv : x.toInt = v) : rw12 (js J r o x) r (dset D o [v]) := by
  intro c hc
  unfold dset
  by_cases h1 : c = o
  · subst h1
    rw [js_same, if_pos (by simp), Nat.sub_self]
    exact hv
  · rw [js_ne _ (Or.inr h1), if_neg (by simp; omega)]
    exact h c hc
def whl : List En → Nat → Nat → List Int
  | [], _, _ => []
  | e :: E, k, s => if 3 ≤ s then [] else if e.1 = k then (e.2.1 : Int) :: whl E k (s + 1) else whl E k s
theorem e_wh_l {G : mm_M} {J0 : Nat → Nat → Int32} {a q N k : Nat} {E : List En} {x2 : Int32} {kx : mm_M → Option (mm_M × Unit)} (h : sO G a) (he : sE G q) (hq : a + 6 ≤ q) (hE0 : en J0 q E) (h6 : E.length ≤ 6) (hx : x2.toInt = (k : Int)) : ∀ (r n i s : Nat) (x y : Int32) (J : Nat → Nat → Int32) (D : Dg), y.toInt = (i : Int) → x.toInt = (s : Int) → s ≤ i → s ≤ 3 → i + r = E.length → r < n → rw12 J (a + 4) D → (∀ z j, z ≠ a + 4 → J z j = J0 z j) → ∃ J', pX6_writeHolders_5 N a kx n (mm_w G J) (some q) x2 x y = kx (mm_w G J') ∧ rw12 J' (a + 4) (dset D (9 + s) (whl (E.drop i) k s)) ∧ ∀ z j, z ≠ a + 4 → J' z j = J0 z j := by
  have r0 := he.2 0 (by omega)
  have r1 := he.2 1 (by omega)
  intro r
  induction r with
  | zero =>
    intro n i s x y J D hy hxs hs hs3 hi hn hD hf
    obtain ⟨n, rfl⟩ : ∃ m, n = m + 1 := ⟨n - 1, by omega⟩
    have hE := en_congr hE0 (fun z z1 z2 j => hf z j (by omega))
    refine ⟨J, ?_, by rw [List.drop_eq_nil_of_le (by omega)]; unfold whl; rw [dset_nil]; exact hD, hf⟩
    show pX6_writeHolders_5_b N a _ kx _ _ x2 x y = _
    unfold pX6_writeHolders_5_b
    rw [w_nn, w_gI he.1, if_pos (by rw [zi_le, hE.1, hy]; omega)]
  | succ r ih =>
    intro n i s x y J D hy hxs hs hs3 hi hn hD hf
    obtain ⟨n, rfl⟩ : ∃ m, n = m + 1 := ⟨n - 1, by omega⟩
    have hE := en_congr hE0 (fun z z1 z2 j => hf z j (by omega))
    have hlt : i < E.length := by omega
    obtain ⟨v0, v1, v2⟩ := hE.2 i E[i] (List.getElem?_eq_getElem hlt)
    have v0 : (J (q + 1 + 0) i).toInt = (E[i].1 : Int) := v0
    have v1 : (J (q + 1 + 1) i).toInt = (E[i].2.1 : Int) := v1
    have hy1 := zi_inc hy (by omega)
    rw [List.drop_eq_getElem_cons hlt]
    show ∃ J', pX6_writeHolders_5_b N a _ kx _ _ x2 x y = _ ∧ _
    unfold pX6_writeHolders_5_b whl
    rw [w_nn, w_gI he.1, if_neg (by rw [zi_le, hE.1, hy]; omega)]
    by_cases h3 : 3 ≤ s
    · rw [if_pos (by rw [zi_le, zi_3, hxs]; omega), if_pos h3, dset_nil]
      exact ⟨J, rfl, hD, hf⟩
    · rw [if_neg (by rw [zi_le, zi_3, hxs]; omega), if_neg h3, w_gR he.1, r0.1, w_nn, w_aI r0.2.1 hy (by rw [r0.2.2]; omega)]
      by_cases hm : E[i].1 = k
      · have h9 : ((9 : Int32) + x).toInt = ((9 + s : Nat) : Int) := by rw [zi_add zi_9 hxs (by omega) (by omega)]; omega
        rw [if_pos (by rw [zi_eq, v0, hx]; omega), if_pos hm, w_gR h.1, w_gR he.1, r1.1, w_nn, w_aI r1.2.1 hy (by rw [r1.2.2]; omega), h.2.1.2.2.1, w_nn, w_sI h.2.2.2.2.1.1 h9 (by rw [h.2.2.2.2.1.2]; omega), ← dset_cons]
        exact ih n (i + 1) (s + 1) (x + 1) (y + 1) _ _ hy1 (zi_inc hxs (by omega)) (by omega) (by omega) (by omega) (by omega) (rw12_set hD v1) (fun z j hz => by rw [js_ne _ (Or.inl hz)]; exact hf z j hz)
      · rw [if_neg (by rw [zi_eq, v0, hx]; omega), if_neg hm]
        exact ih n (i + 1) s x (y + 1) J D hy1 hxs (by omega) (by omega) (by omega) (by omega) hD hf
theorem e_wh {G : mm_M} {J : Nat → Nat → Int32} {a q N k : Nat} {E : List En} {x2 : Int32} {D : Dg} (h : sO G a) (he : sE G q) (hq : a + 6 ≤ q) (hE : en J q E) (h6 : E.length ≤ 6) (hN : 400 ≤ N) (hx : x2.toInt = (k : Int)) (hD : rw12 J (a + 4) D) : ∃ J', pX6_writeHolders_0 N a (mm_w G J) (some q) x2 = some (mm_w G J', ()) ∧ rw12 J' (a + 4) (dset D 9 (whl E k 0)) ∧ ∀ z j, z ≠ a + 4 → J' z j = J z j := by
  unfold pX6_writeHolders_0
  obtain ⟨J', e1, e2, e3⟩ := e_wh_l (N := N) (kx := fun (G : mm_M) => some (G, ())) h he hq hE h6 hx E.length N 0 0 0 0 J D zi_0 zi_0 (by omega) (by omega) (by omega) (by omega) hD (fun _ _ _ => rfl)
  exact ⟨J', e1, by simpa using e2, e3⟩
def an3 (bs : List Bk) (t : Nat) (e : Int) : Nat → Option Nat → List Int
  | 0, _ => []
  | _ + 1, none => []
  | r + 1, some n => (n : Int) :: an3 bs t e r (cbb bs t ((n ^^^ t : Nat) : Int) e)
theorem e_ans_l {G : mm_M} {J0 : Nat → Nat → Int32} {a b N t nr : Nat} {e : Int} {w : Nat → Nat} {bs : List Bk} {x2 x3 : Int32} {kx : mm_M → Option Nat → Int32 → Option (mm_M × Unit)} (h : sO G a) (hp : sP G b) (hT : sT G (b + 1) w) (hb : a + 6 ≤ b) (ht0 : tv J0 (b + 1) w nr bs) (hok : okB bs) (h9 : bs.length ≤ 9) (hn : ∀ n ∈ cns bs, n < 256) (htt : t < 256) (hN : 400 ≤ N) (hx2 : x2.toInt = e) (hx3 : x3.toInt = (t : Int)) : ∀ (r n i : Nat) (y : Int32) (J : Nat → Nat → Int32) (D : Dg) (m : Option Nat), y.toInt = (i : Int) → i + r = 3 → r < n → rw12 J (a + 4) D → (∀ u, m = some u → u < 256) → (∀ z j, z ≠ a + 4 → J z j = J0 z j) → ∃ J', pX6_answerQuery_62 N a kx n (mm_w G J) (some b) x2 x3 (oI m) y = kx (mm_w G J') (some b) x3 ∧ rw12 J' (a + 4) (dset D (6 + i) (an3 bs t e r m)) ∧ ∀ z j, z ≠ a + 4 → J' z j = J0 z j := by
  intro r
  induction r with
  | zero =>
    intro n i y J D m hy hi hnn hD hm hf
    obtain ⟨n, rfl⟩ : ∃ m, n = m + 1 := ⟨n - 1, by omega⟩
    refine ⟨J, ?_, by unfold an3; rw [dset_nil]; exact hD, hf⟩
    show pX6_answerQuery_62_b N a _ kx _ _ x2 x3 _ y = _
    unfold pX6_answerQuery_62_b
    rw [if_pos (by rw [zi_le, zi_3, hy]; omega)]
  | succ r ih =>
    intro n i y J D m hy hi hnn hD hm hf
    obtain ⟨n, rfl⟩ : ∃ m, n = m + 1 := ⟨n - 1, by omega⟩
    show ∃ J', pX6_answerQuery_62_b N a _ kx _ _ x2 x3 _ y = _ ∧ _
    unfold pX6_answerQuery_62_b
    rw [if_neg (by rw [zi_le, zi_3, hy]; omega)]
    cases m with
    | none =>
      rw [if_pos (show oI none = -1 from rfl)]
      exact ⟨J, rfl, by unfold an3; rw [dset_nil]; exact hD, hf⟩
    | some u =>
      have hu := hm u rfl
      have huI := oI_some (n := u) (by omega)
      have h6 : ((6 : Int32) + y).toInt = ((6 + i : Nat) : Int) := by rw [zi_add zi_6 hy (by omega) (by omega)]; omega
      have ht1 : tv (js J (a + 4) (6 + i) (oI (some u))) (b + 1) w nr bs := tv_congr hT h9 ht0 (fun z z1 z2 j => by rw [js_ne _ (Or.inl (by omega)), hf z j (by omega)])
      have hxor := zi_xor huI hx3 (by omega) (by omega)
      rw [if_neg (by rw [zi_eq, huI, zi_m1]; omega), w_gR h.1, h.2.1.2.2.1, w_nn, w_sI h.2.2.2.2.1.1 h6 (by rw [h.2.2.2.2.1.2]; omega), w_nn, w_gR hp.1, hp.2.1.1, w_nn, w_is hT.1, e_close hT ht1 hok h9 hn htt hN hx3 hxor hx2, w_cl]
      unfold an3
      rw [← dset_cons, show 6 + i + 1 = 6 + (i + 1) by omega]
      exact ih n (i + 1) (y + 1) _ _ _ (zi_inc hy (by omega)) (by omega) (by omega) (rw12_set hD huI) (cbb_256 hn) (fun z j hz => by rw [js_ne _ (Or.inl hz)]; exact hf z j hz)
def ansD (nr sn ser : Nat) (tok : Int) (bs : List Bk) (t : Nat) (E : List En) (get : Bool) : Dg :=
  let D1 := dset (mkD 2 nr sn ser (-1) tok) 6 (an3 bs t sn 3 (cbb bs t (-1) sn))
  if get = true then dset D1 9 (whl E t 0) else D1
theorem e_answer {G : mm_M} {J : Nat → Nat → Int32} {a b N now nr sn t ser kq : Nat} {w : Nat → Nat} {bs : List Bk} {E : List En} {L : List Dg} {D : Dg} (h : sO G a) (hp : sP G b) (hT : sT G (b + 1) w) (hb : a + 6 ≤ b) (ht : tv J (b + 1) w nr bs) (hok : okB bs) (h9 : bs.length ≤ 9) (hn : ∀ n ∈ cns bs, n < 256) (hE : en J (b + 36) E) (h6 : E.length ≤ 6) (hl : lin J (a + 2) L) (h24 : L.length ≤ 24) (hnow0 : (J a 5).toInt = (now : Int)) (hnow : now < 100000) (hnr : (J b 0).toInt = (nr : Int)) (hnr2 : nr < 256) (hD : rw12 J (a + 5) D) (d0 : D 0 = (kq : Int)) (d1 : D 1 = (sn : Int)) (d3 : D 3 = (ser : Int)) (d4 : D 4 = (t : Int)) (htt : t < 256) (hsn : sn < 256) (hN : 400 ≤ N) : ∃ J', pX6_answerQuery_0 N a (mm_w G J) (some b) = some (mm_w G J', ()) ∧ lin J' (a + 2) (ladd L (ansD nr sn ser (tk nr sn (1 + now / 8)) bs t E (decide (kq = 1)))) ∧ frS J J' a := by
  have g0 := hD 0 (by omega)
  have g1 := hD 1 (by omega)
  have g3 := hD 3 (by omega)
  have g4 := hD 4 (by omega)
  rw [d0] at g0
  rw [d1] at g1
  rw [d3] at g3
  rw [d4] at g4
  obtain ⟨tK, tl⟩ := h.2.2.2.2.2
  have htok : (tkF (J b 0) (J (a + 5) 1) (Int32.ofNat (1 + now / 8))).toInt = tk nr sn (1 + now / 8) := by unfold tk; rw [zi_eqN hnr (by omega), zi_eqN g1 (by omega)]
  obtain ⟨J1, e1, e2, e3⟩ := e_write (N := N) (J := J) (x1 := 2) (x2 := J b 0) (x3 := J (a + 5) 1) (x4 := J (a + 5) 3) (x5 := -1) (x6 := tkF (J b 0) (J (a + 5) 1) (Int32.ofNat (1 + now / 8))) h hN
  rw [zi_2, hnr, g1, g3, zi_m1, htok] at e2
  have ht1 : tv J1 (b + 1) w nr bs := tv_congr hT h9 ht (fun z z1 z2 j => e3 z j (by omega))
  obtain ⟨J2, f1, f2, f3⟩ := e_ans_l (N := N) (kx := fun (G : mm_M) (x1 : Option Nat) (x3 : Int32) => pX6_answerQuery_107 N a G x1 x3) h hp hT hb ht1 hok h9 hn htt hN g1 g4 3 N 0 0 J1 _ (cbb bs t (-1) (sn : Int)) zi_0 (by omega) (by omega) e2 (cbb_256 hn) (fun _ _ _ => rfl)
  have hall2 : ∀ z j, z ≠ a + 4 → J2 z j = J z j := fun z j hz => (f3 z j hz).trans (e3 z j hz)
  have hpre : pX6_answerQuery_0 N a (mm_w G J) (some b) = pX6_answerQuery_107 N a (mm_w G J2) (some b) (J (a + 5) 4) := by
    unfold pX6_answerQuery_0
    rw [w_gR h.1, h.2.1.2.2.2, w_nn, w_aI (i := 1) tK zi_1 (by omega), w_gR h.1, h.2.1.2.2.2, w_nn, w_aI (i := 4) tK zi_4 (by omega), w_nn, w_gI hp.1, w_is h.1, e_epoch h hnow0 hnow, w_cl, e_token, w_cl, w_gI hp.1, w_gR h.1, h.2.1.2.2.2, w_nn, w_aI (i := 3) tK zi_3 (by omega), w_is h.1, e1, w_cl, w_gR hp.1, hp.2.1.1, w_nn, w_is hT.1, e_close hT ht1 hok h9 hn htt hN g4 zi_m1 g1, w_cl, f1]
  have hl2 : lin J2 (a + 2) L := ⟨by rw [hall2 _ _ (by omega)]; exact hl.1, fun k D hk c hc => by rw [hall2 _ _ (by omega)]; exact hl.2 k D hk c hc⟩
  rw [hpre]
  unfold pX6_answerQuery_107
  rw [w_gR h.1, h.2.1.2.2.2, w_nn, w_aI (i := 0) tK zi_0 (by omega), hall2 _ _ (by omega)]
  unfold ansD
  by_cases hk : kq = 1
  · have hE2 := en_congr hE (fun z z1 z2 j => hall2 z j (by omega))
    obtain ⟨J3, k1, k2, k3⟩ := e_wh (N := N) h hp.2.2.2 (by omega) hE2 h6 hN g4 f2
    have hl3 : lin J3 (a + 2) L := ⟨by rw [k3 _ _ (by omega)]; exact hl2.1, fun k D hk c hc => by rw [k3 _ _ (by omega)]; exact hl2.2 k D hk c hc⟩
    obtain ⟨J4, m1, m2, m3⟩ := e_addrow (N := N) h.2.2.2.1 h.2.2.2.2.1 (by omega) hl3 h24 k2
    rw [if_pos (by rw [zi_eq, g0, zi_1, hk]; rfl), w_nn, w_gR hp.1, hp.2.1.2.2, w_is h.1, k1, w_cl, w_gR h.1, w_gR h.1, h.2.1.2.1, h.2.1.2.2.1, w_nn, w_is h.2.2.2.1.1, m1, w_cl]
    refine ⟨J4, rfl, ?_, fun z j z2 z3 z4 => by rw [m3 z j z2 (by omega), k3 z j z4, hall2 z j z4]⟩
    simpa [hk] using m2
  · obtain ⟨J4, m1, m2, m3⟩ := e_addrow (N := N) h.2.2.2.1 h.2.2.2.2.1 (by omega) hl2 h24 f2
    rw [if_neg (by rw [zi_eq, g0, zi_1]; omega), w_gR h.1, w_gR h.1, h.2.1.2.1, h.2.1.2.2.1, w_nn, w_is h.2.2.2.1.1, m1, w_cl]
    refine ⟨J4, rfl, ?_, fun z j z2 z3 z4 => by rw [m3 z j z2 (by omega), hall2 z j z4]⟩
    simpa [hk] using m2
/-- a store is taken, if its token is right -/
def stoE (nr sn now : Nat) (tok : Int) (t : Nat) (E : List En) : List En := if tok = tk nr sn (1 + now / 8) ∨ tok = tk nr sn (now / 8) then ekp E (t, sn, now + 24) else E
theorem e_store {G : mm_M} {J : Nat → Nat → Int32} {a b N now nr sn t : Nat} {E : List En} {D : Dg} (h : sO G a) (hp : sP G b) (hb : a + 6 ≤ b) (hE : en J (b + 36) E) (h6 : E.length ≤ 6) (hnow0 : (J a 5).toInt = (now : Int)) (hnow : now < 100000) (hnr : (J b 0).toInt = (nr : Int)) (hnr2 : nr < 256) (hD : rw12 J (a + 5) D) (d1 : D 1 = (sn : Int)) (d4 : D 4 = (t : Int)) (hsn : sn < 256) (hN : 400 ≤ N) : ∃ J', pX6_takeStore_0 N a (mm_w G J) (some b) = some (mm_w G J', ()) ∧ en J' (b + 36) (stoE nr sn now (D 5) t E) ∧ frE J J' (b + 36) := by
  have g1 := hD 1 (by omega)
  have g4 := hD 4 (by omega)
  have g5 := hD 5 (by omega)
  rw [d1] at g1
  rw [d4] at g4
  obtain ⟨tK, tl⟩ := h.2.2.2.2.2
  have hle : now / 8 ≤ now := Nat.div_le_self now 8
  have htok : (tkF (J b 0) (J (a + 5) 1) (Int32.ofNat (1 + now / 8))).toInt = tk nr sn (1 + now / 8) := by unfold tk; rw [zi_eqN hnr (by omega), zi_eqN g1 (by omega)]
  have hem : (Int32.ofNat (1 + now / 8) - 1 : Int32) = Int32.ofNat (now / 8) := by
    generalize now / 8 = k at hle ⊢
    rw [zi_eq, zi_sub (zi_ofNat (n := 1 + k) (by omega)) zi_1 (by omega) (by omega), zi_ofNat (by omega)]
    omega
  have htok2 : (tkF (J b 0) (J (a + 5) 1) (Int32.ofNat (now / 8))).toInt = tk nr sn (now / 8) := by unfold tk; rw [zi_eqN hnr (by omega), zi_eqN g1 (by omega)]
  have h24 : (J a 5 + 24).toInt = ((now + 24 : Nat) : Int) := by rw [zi_add hnow0 zi_24 (by omega) (by omega)]; omega
  obtain ⟨J1, e1, e2, e3⟩ := e_keep (N := N) (e := (t, sn, now + 24)) hp.2.2.2 hE h6 hN g4 g1 h24
  unfold pX6_takeStore_0 stoE
  rw [w_gR h.1, h.2.1.2.2.2, w_nn, w_aI (i := 1) tK zi_1 (by omega), w_gR h.1, h.2.1.2.2.2, w_nn, w_aI (i := 5) tK zi_5 (by omega), w_is h.1, e_epoch h hnow0 hnow, w_cl, w_nn, w_gI hp.1, e_token, w_cl]
  by_cases c1 : D 5 = tk nr sn (1 + now / 8)
  · rw [if_pos (by rw [zi_eq, g5, htok]; exact c1), if_pos (Or.inl c1), w_gR hp.1, w_gR h.1, h.2.1.2.2.2, w_nn, w_aI (i := 4) tK zi_4 (by omega), w_gI h.1, hp.2.1.2.2, w_nn, w_is hp.2.2.2.1, e1, w_cl]
    exact ⟨J1, rfl, e2, e3⟩
  · rw [if_neg (by rw [zi_eq, g5, htok]; exact c1), w_gI hp.1, e_token, w_cl, hem]
    by_cases c2 : D 5 = tk nr sn (now / 8)
    · rw [if_pos (by rw [zi_eq, g5, htok2]; exact c2), if_pos (Or.inr c2), w_gR hp.1, w_gR h.1, h.2.1.2.2.2, w_nn, w_aI (i := 4) tK zi_4 (by omega), w_gI h.1, hp.2.1.2.2, w_nn, w_is hp.2.2.2.1, e1, w_cl]
      exact ⟨J1, rfl, e2, e3⟩
    · rw [if_neg (by rw [zi_eq, g5, htok2]; exact c2), if_neg (by rintro (q | q); exact c1 q; exact c2 q)]
      exact ⟨J, rfl, hE, fun _ _ _ => rfl⟩
