def stf (nr se tg : Nat) (L : List Dg) (c : Cd) : List Dg := ladd L (mkD 3 nr c.1 se tg c.2.2.2)
theorem sst_fold {nr se tg : Nat} : ∀ (C : List Cd) (s : Nat) (L : List Dg), sst nr se tg C s L = ((C.filter nf).take (3 - s)).foldl (stf nr se tg) L
  | [], s, L => by simp [sst]
  | c :: C, s, L => by
    unfold sst
    by_cases hs : 3 ≤ s
    · rw [if_pos hs, show 3 - s = 0 by omega]; rfl
    · rw [if_neg hs, List.filter_cons]
      by_cases h3 : c.2.1 = 3
      · rw [if_pos h3, if_neg (show ¬ nf c = true from fun e => (of_decide_eq_true e) h3)]
        exact sst_fold C s L
      · rw [if_neg h3, if_pos (show nf c = true from decide_eq_true h3), show 3 - s = (3 - (s + 1)) + 1 by omega, List.take_succ_cons, List.foldl_cons]
        exact sst_fold C (s + 1) _
section RGO2
variable {G : mm_M} {m N i kd tg se now : Nat} {ids : List Nat} {H : List Nat} {x1 : Int32}
theorem r_sto_l {C : List Cd} {kx : mm_M → Option (mm_M × Unit)} (h : sM G m) (hi12 : i < ids.length) (hN : 400 ≤ N) (h1 : x1.toInt = (i : Int)) (htg : tg < 256) (hH : H.length ≤ 12) (hok : okC ids tg C) (hm : ∀ c ∈ (C.filter nf).take 3, c.2.1 = 2) (hk2 : kd = 2) : ∀ (r n k : Nat) (z : Int32) (J : Nat → Nat → Int32) (L : List Dg), z.toInt = (k : Int) → k + r = 3 → r < n → rid J m ids → rlin J m L → rlv J m i ids kd tg se C H → ∃ J', pX7_goOn_119 N m kx n (mm_w G J) x1 z = kx (mm_w G J') ∧ rlin J' m ((((C.filter nf).drop k).take r).foldl (stf (idg ids i) se tg) L) ∧ frR J J' m := by
  intro r
  induction r with
  | zero =>
    intro n k z J L hz hk hn hi hl hv
    obtain ⟨n, rfl⟩ : ∃ m, n = m + 1 := ⟨n - 1, by omega⟩
    refine ⟨J, ?_, hl, frR.refl⟩
    show pX7_goOn_119_b N m _ kx _ x1 z = _
    unfold pX7_goOn_119_b
    rw [if_pos (by rw [zi_le, zi_3, hz]; omega)]
  | succ r ih =>
    intro n k z J L hz hk hn hi hl hv
    obtain ⟨n, rfl⟩ : ∃ m, n = m + 1 := ⟨n - 1, by omega⟩
    have h12 := hi.2.1
    have hcl := srtC_len hok.1 hok.2.1 h12
    have pre : pX7_goOn_119 N m kx (n + 1) (mm_w G J) x1 z = if oI (((C.filter nf)[k]?).map (fun c => ix ids c.1)) < 0 then pX7_goOn_119 N m kx n (mm_w G J) x1 (z + 1) else q_gR (mm_w G J) m 8 18 fun r153_33 => q_nn r153_33 fun b157_34 => q_aI (mm_w G J) b157_34 101 x1 fun v157_35 => q_gR (mm_w G J) m 8 17 fun r159_36 => q_nn r159_36 fun b163_37 => q_aI (mm_w G J) b163_37 101 x1 fun v163_38 => q_gR (mm_w G J) m 8 21 fun r165_39 => q_nn r165_39 fun b175_40 => q_aI (mm_w G J) b175_40 101 (((12 : Int32) * x1) + oI (((C.filter nf)[k]?).map (fun c => ix ids c.1))) fun v175_41 => q_is (mm_w G J) m 8 <| q_cl (pX7_send_0 N m (mm_w G J) (3 : Int32) x1 (oI (((C.filter nf)[k]?).map (fun c => ix ids c.1))) v157_35 v163_38 v175_41) fun G _ => pX7_goOn_119 N m kx n G x1 (z + (1 : Int32)) := by
      show pX7_goOn_119_b N m _ kx _ x1 z = _
      unfold pX7_goOn_119_b
      rw [if_neg (by rw [zi_le, zi_3, hz]; omega), gr_kind h, w_nn, ai_kind h h1 (by omega), if_pos (by rw [zi_eq, hv.1.1, zi_2, hk2]; rfl), w_is h.1, r_alive h hi hv.2.1 hok.1 hok.2.1 (by omega) hN h1 hv.1.2.1 htg hz hcl, w_cl]
    rw [pre]
    by_cases hkl : k < (C.filter nf).length
    · rw [List.getElem?_eq_getElem hkl, List.drop_eq_getElem_cons hkl, Option.map_some, List.take_succ_cons, List.foldl_cons]
      have hmk := hm (C.filter nf)[k] (by
        rw [List.mem_take_iff_getElem]
        exact ⟨k, by omega, rfl⟩)
      have hm0 : (C.filter nf)[k] ∈ C := (List.mem_filter.mp (List.getElem_mem hkl)).1
      generalize (C.filter nf)[k] = c at hm0 hmk ⊢
      obtain ⟨a1, a2, a3⟩ := ix_mem hi.2.2.1 (hok.2.1 _ hm0)
      have hIx := oI_some (n := ix ids c.1) (by omega)
      rw [if_neg (by rw [zi_lt, hIx, zi_0]; omega), gr_serial h, w_nn, ai_serial h h1 (by omega), gr_goal h, w_nn, ai_goal h h1 (by omega), gr_token h, w_nn, ai_token h (zi_12i h1 hIx (by omega) (by omega)) (by omega), w_is h.1]
      obtain ⟨J2, e1, e2, e3⟩ := r_send (N := N) (ids := ids) (i := i) (j := ix ids c.1) (x1 := 3) (x2 := x1) (x3 := oI (some (ix ids c.1))) (x4 := J (m + 15) i) (x5 := J (m + 14) i) (x6 := J (m + 18) (12 * i + ix ids c.1)) h hi hl hN h1 hIx hi12 a1
      rw [hv.1.2.2, hv.1.2.1, zi_3, a2, hv.2.2.2.1 c hm0 hmk] at e2
      rw [e1, w_cl]
      obtain ⟨J3, g1, g2, g3⟩ := ih n (k + 1) (z + 1) J2 _ (zi_inc hz (by omega)) (by omega) (by omega) (rid_congr hi (e3 _ _ (by omega) (by omega)) (fun _ => e3 _ _ (by omega) (by omega))) e2 (rlv_congr ⟨hi.2.2.1, h12⟩ hok.2.1 hH hv e3.smL)
      exact ⟨J3, g1, g2, e3.trans g3⟩
    · rw [List.getElem?_eq_none (by omega), Option.map_none, if_pos (by rw [zi_lt, oI_none, zi_0]; decide), List.drop_eq_nil_of_le (by omega)]
      obtain ⟨J3, g1, g2, g3⟩ := ih n (k + 1) (z + 1) J L (zi_inc hz (by omega)) (by omega) (by omega) hi hl hv
      rw [List.drop_eq_nil_of_le (by omega)] at g2
      exact ⟨J3, g1, by simpa using g2, g3⟩
/-- row i of three arrays, and the line -/
def frg (J J' : Nat → Nat → Int32) (m i : Nat) : Prop := ∀ z j, z ≠ m + 21 → (z ≠ m ∨ j ≠ 24) → (z ≠ m + 12 ∨ j ≠ i) → ((z ≠ m + 16 ∧ z ≠ m + 17) ∨ j < 12 * i ∨ 12 * i + 12 ≤ j) → J' z j = J z j
theorem r_goon {J : Nat → Nat → Int32} {C : List Cd} {L : List Dg} (h : sM G m) (hi12 : i < ids.length) (hN : 400 ≤ N) (h1 : x1.toInt = (i : Int)) (htg : tg < 256) (hH : H.length ≤ 12) (hi : rid J m ids) (hl : rlin J m L) (hst : (J (m + 12) i).toInt = 1) (hv : rlv J m i ids kd tg se C H) (hok : okC ids tg C) (hc : (J m 0).toInt = (now : Int)) : ∃ J', pX7_goOn_0 N m (mm_w G J) x1 = some (mm_w G J', ()) ∧ (J' (m + 12) i).toInt = ((goS 1 (goL kd (idg ids i) se tg now 2 C L).1 : Nat) : Int) ∧ rlv J' m i ids kd tg se (goL kd (idg ids i) se tg now 2 C L).1 H ∧ rlin J' m (goD kd (idg ids i) se tg (goL kd (idg ids i) se tg now 2 C L).1 (goL kd (idg ids i) se tg now 2 C L).2) ∧ okC ids tg (goL kd (idg ids i) se tg now 2 C L).1 ∧ frg J J' m i := by
  have h12 := hi.2.1
  obtain ⟨J1, e1, e2, e3, e4, e5, e6⟩ := r_go_l (N := N) (H := H) (kx := fun (G : mm_M) (x1 : Int32) => q_is G m 8 <| q_cl (pX7_askedNow_0 N m G x1) fun G v103_25 => if v103_25 ≤ 0 then q_gR G m 8 15 fun r111_26 => q_nn r111_26 fun b116_27 => q_sI G b116_27 101 x1 (2 : Int32) fun G => pX7_goOn_119 N m (fun (G : mm_M) => some (G, ())) N G x1 (0 : Int32) else some (G, ())) h hi12 hN h1 htg hH 2 N 0 0 J C L zi_0 (by omega) (by omega) (by omega) hi hl hv hok hc
  have hi1 := rid_congr (J' := J1) hi (e6 _ _ (by omega) (by omega) (by omega)) (fun _ => e6 _ _ (by omega) (by omega) (by omega))
  generalize hCL : goL kd (idg ids i) se tg now 2 C L = CL at e2 e3 e4 e5 ⊢
  have hcl := srtC_len e4.1 e4.2.1 h12
  have hle := List.countP_le_length (p := isA) (l := CL.1)
  have hcI := zi_ofNat (n := CL.1.countP isA) (by omega)
  have pre : pX7_goOn_0 N m (mm_w G J) x1 = if Int32.ofNat (CL.1.countP isA) ≤ 0 then pX7_goOn_119 N m (fun (G : mm_M) => some (G, ())) N (mm_w G (js J1 (m + 12) i 2)) x1 (0 : Int32) else some (mm_w G J1, ()) := by
    unfold pX7_goOn_0
    rw [w_is h.1, r_next h hi hv.2.1 hok.1 hok.2.1 (by omega) hN h1 hv.1.2.1 htg (srtC_len hok.1 hok.2.1 h12), w_cl, e1, w_is h.1, r_asked (S := cS ids CL.1) h hi1 e2.2.1 (by omega) hN h1, asked_eq hi.2.2.1 e4.1 e4.2.1, w_cl, gr_going h, w_nn, si_going h h1 (by omega)]
  rw [pre]
  unfold goS goD
  by_cases hA : CL.1.countP isA = 0
  · rw [if_pos (by rw [zi_le, hcI, zi_0]; omega), if_pos hA]
    have f2 : ∀ z j, (z ≠ m + 12 ∨ j ≠ i) → js J1 (m + 12) i 2 z j = J1 z j := fun z j hz => js_ne _ hz
    have hi2 := rid_congr (J' := js J1 (m + 12) i 2) hi1 (f2 _ _ (by omega)) (fun _ => f2 _ _ (by omega))
    have hl2 := rlin_congr (J' := js J1 (m + 12) i 2) e3 (f2 _ _ (by omega)) (fun _ => f2 _ _ (by omega))
    have hs2 : smL J1 (js J1 (m + 12) i 2) m i := ⟨⟨f2 _ _ (by omega), f2 _ _ (by omega), f2 _ _ (by omega), f2 _ _ (by omega)⟩, fun j _ => ⟨f2 _ _ (by omega), f2 _ _ (by omega), f2 _ _ (by omega), f2 _ _ (by omega)⟩⟩
    have hv2 := rlv_congr ⟨hi.2.2.1, h12⟩ e4.2.1 hH e2 hs2
    by_cases hk2 : kd = 2
    · have hnt : ntk CL.1 0 0 = none := by
        unfold nta at e5
        rw [if_pos (by omega)] at e5
        exact e5
      have hm : ∀ c ∈ (CL.1.filter nf).take 3, c.2.1 = 2 := by
        intro c hc
        have hf := ntk_alive CL.1 0 0
        rw [hnt, Option.map_none, Nat.sub_zero] at hf
        rw [List.find?_eq_none] at hf
        have n0 : c.2.1 ≠ 0 := fun e => hf c hc (decide_eq_true e)
        obtain ⟨c1, c2⟩ := List.mem_filter.mp (List.mem_of_mem_take hc)
        have n3 : c.2.1 ≠ 3 := of_decide_eq_true c2
        have n1 : c.2.1 ≠ 1 := fun e => by
          rw [List.countP_eq_zero] at hA
          exact hA c c1 (decide_eq_true e)
        have := e4.2.2 c c1
        omega
      obtain ⟨J3, g1, g2, g3⟩ := r_sto_l (N := N) (H := H) (C := CL.1) (kd := kd) (kx := fun (G : mm_M) => some (G, ())) h hi12 hN h1 htg hH e4 hm hk2 3 N 0 0 (js J1 (m + 12) i 2) CL.2 zi_0 (by omega) (by omega) hi2 hl2 hv2
      refine ⟨J3, g1, ?_, rlv_congr ⟨hi.2.2.1, h12⟩ e4.2.1 hH hv2 g3.smL, ?_, e4, fun z j z1 z2 z3 z4 => by rw [g3 z j z1 z2, f2 z j z3, e6 z j z1 z2 z4]⟩
      · rw [g3 _ _ (by omega) (by omega), js_same]; rfl
      · rw [if_pos ⟨hA, hk2⟩, sst_fold]
        rw [List.drop_zero] at g2
        exact g2
    · refine ⟨js J1 (m + 12) i 2, ?_, by rw [js_same]; rfl, hv2, by rw [if_neg (fun e => hk2 e.2)]; exact hl2, e4, fun z j z1 z2 z3 z4 => by rw [f2 z j z3, e6 z j z1 z2 z4]⟩
      obtain ⟨N', rfl⟩ : ∃ k, N = k + 1 := ⟨N - 1, by omega⟩
      show pX7_goOn_119_b (N' + 1) m _ _ _ x1 0 = _
      unfold pX7_goOn_119_b
      rw [if_neg (by decide), gr_kind h, w_nn, ai_kind h h1 (by omega), if_neg (by rw [zi_eq, hv2.1.1, zi_2]; omega)]
  · rw [if_neg (by rw [zi_le, hcI, zi_0]; omega), if_neg hA, if_neg (fun e => hA e.1)]
    exact ⟨J1, rfl, by rw [e6 _ _ (by omega) (by omega) (by omega)]; exact hst, e2, e3, e4, fun z j z1 z2 _ z4 => e6 z j z1 z2 z4⟩
end RGO2
