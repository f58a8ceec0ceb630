/-! nodes are taken -/
theorem pig : ∀ (l S : List Nat), l.Nodup → (∀ x ∈ l, x ∈ S) → l.length ≤ S.length
  | [], S, _, _ => Nat.zero_le _
  | x :: l, S, hn, hs => by
    have hx : x ∈ S := hs x List.mem_cons_self
    have hn2 := List.nodup_cons.mp hn
    have h1 := pig l (S.erase x) hn2.2 (fun y hy => by
      have hne : y ≠ x := fun e => hn2.1 (e ▸ hy)
      exact (List.mem_erase_of_ne hne).mpr (hs y (List.mem_cons_of_mem _ hy)))
    rw [List.length_erase_of_mem hx] at h1
    have h2 : 0 < S.length := List.length_pos_of_mem hx
    simp only [List.length_cons]
    omega
def inS (C : List Cd) (S : List Nat) : Prop := (C.map Prod.fst).Nodup ∧ ∀ c ∈ C, c.1 ∈ S
theorem cpl_none {C : List Cd} {u : Nat} (h : cpl C u = none) : ∀ c ∈ C, c.1 ≠ u := fun c hc e => by
  unfold cpl at h
  have := List.findIdx?_eq_none_iff.mp h c hc
  simp at this
  exact this e
theorem inS_lt {C : List Cd} {S : List Nat} {u : Nat} (h : inS C S) (hu : u ∈ S) (hc : cpl C u = none) : C.length < S.length := by
  have h1 := pig (u :: C.map Prod.fst) S (List.nodup_cons.mpr ⟨fun hm => by
    obtain ⟨c, hc1, hc2⟩ := List.mem_map.mp hm
    exact cpl_none hc c hc1 hc2, h.1⟩) (fun x hx => by
    rcases List.mem_cons.mp hx with rfl | hx
    · exact hu
    · obtain ⟨c, hc1, rfl⟩ := List.mem_map.mp hx
      exact h.2 c hc1)
  simp at h1
  omega
theorem cin_fst (C : List Cd) (t u : Nat) : ((cin C t u).map Prod.fst).Perm (u :: C.map Prod.fst) := by
  unfold cin
  rw [List.map_append, List.map_cons]
  refine List.Perm.trans List.perm_middle ?_
  refine List.Perm.cons _ ?_
  rw [← List.map_append, List.take_append_drop]
theorem cadd_inS {C : List Cd} {S : List Nat} {t u : Nat} (h : inS C S) (hu : u ∈ S) : inS (cadd C t u) S := by
  unfold cadd
  cases hc : cpl C u with
  | some j => exact h
  | none =>
    refine ⟨?_, fun c hc' => ?_⟩
    · rw [(cin_fst C t u).nodup_iff]
      refine List.nodup_cons.mpr ⟨fun hm => ?_, h.1⟩
      obtain ⟨c, hc1, hc2⟩ := List.mem_map.mp hm
      exact cpl_none hc c hc1 hc2
    · rcases cin_mem hc' with h1 | h1
      · exact h.2 c h1
      · rw [h1]; exact hu
theorem hadd_inS {H S : List Nat} {u : Nat} (h : H.Nodup ∧ ∀ x ∈ H, x ∈ S) (hu : u ∈ S) : (hadd H u).Nodup ∧ ∀ x ∈ hadd H u, x ∈ S := by
  unfold hadd
  split
  · exact h
  · rename_i hm
    refine ⟨?_, fun x hx => ?_⟩
    · rw [List.nodup_append]
      exact ⟨h.1, by simp, fun a ha b hb => by simp at hb; subst hb; exact fun e => hm (e ▸ ha)⟩
    · rcases List.mem_append.mp hx with h1 | h1
      · exact h.2 x h1
      · simp at h1; rw [h1]; exact hu
def caddI (C : List Cd) (t : Nat) (v : Int) : List Cd := if v = -1 then C else cadd C t v.toNat
def haddI (H : List Nat) (v : Int) : List Nat := if v = -1 then H else hadd H v.toNat
def okI (S : List Nat) (v : Int) : Prop := v = -1 ∨ ∃ u : Nat, v = (u : Int) ∧ u ∈ S
theorem e_candI {G : mm_M} {J : Nat → Nat → Int32} {q st kd tg se N : Nat} {C : List Cd} {H S : List Nat} {x : Int32} {v : Int} (h : sL G q) (hl : lk J q st kd tg se C H) (hC : inS C S) (hS : S.length ≤ 12 ∧ ∀ x ∈ S, x < 256) (htg : tg < 256) (hN : 400 ≤ N) (hx : x.toInt = v) (hv : okI S v) : ∃ J', pX3_addCandidate_0 N q (mm_w G J) x = some (mm_w G J', ()) ∧ lk J' q st kd tg se (caddI C tg v) H ∧ frL J J' q ∧ inS (caddI C tg v) S := by
  rcases hv with rfl | ⟨u, rfl, hu⟩
  · refine ⟨J, ?_, by unfold caddI; rw [if_pos rfl]; exact hl, fun _ _ _ => rfl, by unfold caddI; rw [if_pos rfl]; exact hC⟩
    unfold pX3_addCandidate_0
    rw [if_pos (by rw [zi_eq, hx, zi_m1])]
  · have e0 : caddI C tg (u : Int) = cadd C tg u := by unfold caddI; rw [if_neg (by omega), Int.toNat_natCast]
    have h12 : C.length ≤ 12 := by
      have := pig (C.map Prod.fst) S hC.1 (fun x hx => by obtain ⟨c, hc1, rfl⟩ := List.mem_map.mp hx; exact hC.2 c hc1)
      simp at this; omega
    obtain ⟨J', e1, e2, e3⟩ := e_cand (N := N) h hl h12 (fun hc => by have := inS_lt hC hu hc; omega) (hS.2 u hu) htg (fun c hc => hS.2 _ (hC.2 c hc)) hN hx
    exact ⟨J', e1, by rw [e0]; exact e2, e3, by rw [e0]; exact cadd_inS hC hu⟩
theorem e_holderI {G : mm_M} {J : Nat → Nat → Int32} {q st kd tg se N : Nat} {C : List Cd} {H S : List Nat} {x : Int32} {v : Int} (h : sL G q) (hl : lk J q st kd tg se C H) (hH : H.Nodup ∧ ∀ x ∈ H, x ∈ S) (hS : S.length ≤ 12 ∧ ∀ x ∈ S, x < 256) (hN : 400 ≤ N) (hx : x.toInt = v) (hv : okI S v) : ∃ J', pX3_addHolder_0 N q (mm_w G J) x = some (mm_w G J', ()) ∧ lk J' q st kd tg se C (haddI H v) ∧ frL J J' q ∧ ((haddI H v).Nodup ∧ ∀ x ∈ haddI H v, x ∈ S) := by
  rcases hv with rfl | ⟨u, rfl, hu⟩
  · refine ⟨J, ?_, by unfold haddI; rw [if_pos rfl]; exact hl, fun _ _ _ => rfl, by unfold haddI; rw [if_pos rfl]; exact hH⟩
    unfold pX3_addHolder_0
    rw [if_pos (by rw [zi_eq, hx, zi_m1])]
  · have e0 : haddI H (u : Int) = hadd H u := by unfold haddI; rw [if_neg (by omega), Int.toNat_natCast]
    have h12 := pig H S hH.1 hH.2
    obtain ⟨J', e1, e2, e3⟩ := e_holder (N := N) (u := u) h hl (by omega) (fun hm => by
      have := pig (u :: H) S (List.nodup_cons.mpr ⟨hm, hH.1⟩) (fun x hx => by
        rcases List.mem_cons.mp hx with rfl | hx
        · exact hu
        · exact hH.2 x hx)
      simp at this; omega) hN hx
    exact ⟨J', e1, by rw [e0]; exact e2, e3, by rw [e0]; exact hadd_inS hH hu⟩
def cln (D : Dg) (t : Nat) : Nat → Nat → List Cd → List Cd
  | 0, _, C => C
  | r + 1, i, C => cln D t r (i + 1) (caddI C t (D (6 + i)))
def hln (D : Dg) : Nat → Nat → List Nat → List Nat
  | 0, _, H => H
  | r + 1, i, H => hln D r (i + 1) (haddI H (D (9 + i)))
theorem e_nodes_l {G : mm_M} {J0 : Nat → Nat → Int32} {a b N st kd tg se : Nat} {S : List Nat} {D : Dg} {kx : mm_M → Option Nat → Option (mm_M × Unit)} (h : sO G a) (hp : sP G b) (hb : a + 6 ≤ b) (hS : S.length ≤ 12 ∧ ∀ x ∈ S, x < 256) (htg : tg < 256) (hN : 400 ≤ N) (hD0 : rw12 J0 (a + 5) D) (hDi : ∀ i, i < 3 → okI S (D (6 + i)) ∧ okI S (D (9 + i))) : ∀ (r n i : Nat) (y : Int32) (J : Nat → Nat → Int32) (C : List Cd) (H : List Nat), y.toInt = (i : Int) → i + r = 3 → r < n → lk J (b + 30) st kd tg se C H → inS C S → (H.Nodup ∧ ∀ x ∈ H, x ∈ S) → frL J0 J (b + 30) → ∃ J', pX6_takeNodes_75 N a kx n (mm_w G J) (some b) (some (b + 30)) y = kx (mm_w G J') (some b) ∧ lk J' (b + 30) st kd tg se (cln D tg r i C) (hln D r i H) ∧ frL J0 J' (b + 30) ∧ inS (cln D tg r i C) S ∧ ((hln D r i H).Nodup ∧ ∀ x ∈ hln D r i H, x ∈ S) := by
  obtain ⟨tK, tl⟩ := h.2.2.2.2.2
  intro r
  induction r with
  | zero =>
    intro n i y J C H hy hi hn hk hC hH hf
    obtain ⟨n, rfl⟩ : ∃ m, n = m + 1 := ⟨n - 1, by omega⟩
    refine ⟨J, ?_, hk, hf, hC, hH⟩
    show pX6_takeNodes_75_b N a _ kx _ _ _ y = _
    unfold pX6_takeNodes_75_b
    rw [if_pos (by rw [zi_le, zi_3, hy]; omega)]
  | succ r ih =>
    intro n i y J C H hy hi hn hk hC hH hf
    obtain ⟨n, rfl⟩ : ∃ m, n = m + 1 := ⟨n - 1, by omega⟩
    have h6 : ((6 : Int32) + y).toInt = ((6 + i : Nat) : Int) := by rw [zi_add zi_6 hy (by omega) (by omega)]; omega
    obtain ⟨o1, o2⟩ := hDi i (by omega)
    have g6 : (J (a + 5) (6 + i)).toInt = D (6 + i) := by rw [hf _ _ (by omega)]; exact hD0 _ (by omega)
    obtain ⟨J1, e1, e2, e3, e4⟩ := e_candI (N := N) hp.2.2.1 hk hC hS htg hN g6 o1
    have g9 : (J1 (a + 5) (9 + i)).toInt = D (9 + i) := by rw [e3 _ _ (by omega), hf _ _ (by omega)]; exact hD0 _ (by omega)
    obtain ⟨J2, f1, f2, f3, f4⟩ := e_holderI (N := N) hp.2.2.1 e2 hH hS hN g9 o2
    have hunf : pX6_takeNodes_75 N a kx (n + 1) (mm_w G J) (some b) (some (b + 30)) y = pX6_takeNodes_75 N a kx n (mm_w G J2) (some b) (some (b + 30)) (y + 1) := by
      show pX6_takeNodes_75_b N a _ kx _ _ _ y = _
      unfold pX6_takeNodes_75_b
      rw [if_neg (by rw [zi_le, zi_3, hy]; omega), w_gR h.1, h.2.1.2.2.2, w_nn, w_aI tK h6 (by omega), w_nn, w_is hp.2.2.1.1, e1, w_cl, w_gR h.1, h.2.1.2.2.2, w_nn]
      rw [w_aI (i := 9 + i) tK (by rw [zi_add zi_9 hy (by omega) (by omega)]; omega) (by omega), w_is hp.2.2.1.1, f1, w_cl]
    rw [hunf]
    exact ih n (i + 1) (y + 1) J2 _ _ (zi_inc hy (by omega)) (by omega) (by omega) f2 e4 f4 (fun z j hz => by rw [f3 z j hz, e3 z j hz, hf z j hz])
/-- a candidate has answered -/
def cans (C : List Cd) (j : Nat) (tok : Int) : List Cd := C.modify j (fun c => (c.1, 2, c.2.2.1, tok))
theorem cans_at {C : List Cd} {j i : Nat} {tok : Int} {c : Cd} (h : (cans C j tok)[i]? = some c) : ∃ d, C[i]? = some d ∧ c = if j = i then (d.1, 2, d.2.2.1, tok) else d := by
  unfold cans at h
  rw [List.getElem?_modify] at h
  cases hd : C[i]? with
  | none => rw [hd] at h; cases h
  | some d =>
    rw [hd] at h
    by_cases hji : j = i
    · simp [hji] at h
      exact ⟨d, rfl, by rw [if_pos hji, h]⟩
    · simp [hji] at h
      exact ⟨d, rfl, by rw [if_neg hji, h]⟩
theorem cans_fst (C : List Cd) (j : Nat) (tok : Int) : (cans C j tok).map Prod.fst = C.map Prod.fst := by
  unfold cans
  apply List.ext_getElem?
  intro i
  rw [List.getElem?_map, List.getElem?_map, List.getElem?_modify]
  cases C[i]? with
  | none => rfl
  | some p => by_cases h : j = i <;> simp [h]
theorem cans_inS {C : List Cd} {S : List Nat} {j : Nat} {tok : Int} (h : inS C S) : inS (cans C j tok) S := by
  refine ⟨by rw [cans_fst]; exact h.1, fun c hc => ?_⟩
  have : c.1 ∈ (cans C j tok).map Prod.fst := List.mem_map.mpr ⟨c, hc, rfl⟩
  rw [cans_fst] at this
  obtain ⟨d, hd, e⟩ := List.mem_map.mp this
  rw [← e]
  exact h.2 d hd
theorem cpl_some {C : List Cd} {u j : Nat} (h : cpl C u = some j) : j < C.length ∧ (cgt C j).1 = u := by
  unfold cpl at h
  obtain ⟨h1, h2⟩ := List.findIdx?_eq_some_iff_getElem.mp h
  refine ⟨h1, ?_⟩
  have := cgt_at h1
  rw [List.getElem?_eq_getElem h1] at this
  rw [← Option.some.inj this]
  simpa using h2.1
/-- what a lookup and the line are behind the nodes D of sn -/
def nodX (st kd tg se nr now : Nat) (C : List Cd) (H : List Nat) (L : List Dg) (D : Dg) (sn : Nat) : Nat × List Cd × List Nat × List Dg :=
  if st = 1 ∧ (se : Int) = D 3 then
    match cpl C sn with
    | some j => if (cgt C j).2.1 = 1 then
        let C1 := cln D tg 3 0 (cans C j (D 5))
        let CL := goL kd nr se tg now 2 C1 L
        (goS st CL.1, CL.1, hln D 3 0 H, goD kd nr se tg CL.1 CL.2)
      else (st, C, H, L)
    | none => (st, C, H, L)
  else (st, C, H, L)
theorem e_nodes {G : mm_M} {J : Nat → Nat → Int32} {a b N st kd tg se now nr sn : Nat} {C : List Cd} {H S : List Nat} {L : List Dg} {D : Dg} (h : sO G a) (hp : sP G b) (hb : a + 6 ≤ b) (hk : lk J (b + 30) st kd tg se C H) (hC : inS C S) (hH : H.Nodup ∧ ∀ x ∈ H, x ∈ S) (hS : S.length ≤ 12 ∧ ∀ x ∈ S, x < 256) (htg : tg < 256) (hl : lin J (a + 2) L) (h24 : L.length ≤ 24) (hnow : (J a 5).toInt = (now : Int)) (hnr : (J b 0).toInt = (nr : Int)) (hD : rw12 J (a + 5) D) (d1 : D 1 = (sn : Int)) (hDi : ∀ i, i < 3 → okI S (D (6 + i)) ∧ okI S (D (9 + i))) (hN : 400 ≤ N) :
    let X := nodX st kd tg se nr now C H L D sn
    ∃ J', pX6_takeNodes_0 N a (mm_w G J) (some b) = some (mm_w G J', ()) ∧ lk J' (b + 30) X.1 kd tg se X.2.1 X.2.2.1 ∧ lin J' (a + 2) X.2.2.2 ∧ frK J J' a (b + 30) := by
  intro X
  have g1 := hD 1 (by omega)
  rw [d1] at g1
  have g3 := hD 3 (by omega)
  have g5 := hD 5 (by omega)
  obtain ⟨tK, tl⟩ := h.2.2.2.2.2
  have pL := hp.2.2.1
  have r1 := pL.2 1 (by omega)
  have r3 := pL.2 3 (by omega)
  have h12 : C.length ≤ 12 := by
    have := pig (C.map Prod.fst) S hC.1 (fun x hx => by obtain ⟨c, hc1, rfl⟩ := List.mem_map.mp hx; exact hC.2 c hc1)
    simp at this; omega
  have same : X = (st, C, H, L) → ∀ P, P = some (mm_w G J, ()) → ∃ J', P = some (mm_w G J', ()) ∧ lk J' (b + 30) X.1 kd tg se X.2.1 X.2.2.1 ∧ lin J' (a + 2) X.2.2.2 ∧ frK J J' a (b + 30) := fun e P hP => ⟨J, hP, by rw [e]; exact hk, by rw [e]; exact hl, fun _ _ _ _ _ _ => rfl⟩
  have hpre : pX6_takeNodes_0 N a (mm_w G J) (some b) = if (if st = 1 then (1 : Int32) else 0) = 0 then some (mm_w G J, ()) else if J (b + 30) 8 = J (a + 5) 3 then (if oI (cpl C sn) = (-1 : Int32) then some (mm_w G J, ()) else q_gR (mm_w G J) (b + 30) 4 1 fun r43_15 => q_nn r43_15 fun b47_16 => q_aI (mm_w G J) b47_16 101 (oI (cpl C sn)) fun v47_17 => if v47_17 = (1 : Int32) then q_gR (mm_w G J) (b + 30) 4 1 fun r54_18 => q_nn r54_18 fun b59_19 => q_sI (mm_w G J) b59_19 101 (oI (cpl C sn)) (2 : Int32) fun G => q_gR G (b + 30) 4 3 fun r61_20 => q_gR G a 7 3 fun r66_21 => q_nn r66_21 fun b70_22 => q_aI G b70_22 101 (5 : Int32) fun v70_23 => q_nn r61_20 fun b71_24 => q_sI G b71_24 101 (oI (cpl C sn)) v70_23 fun G => pX6_takeNodes_75 N a (fun (G : mm_M) (x1 : Option Nat) => q_is G a 7 <| q_cl (pX6_goOn_0 N a G x1) fun G _ => some (G, ())) N G (some b) (some (b + 30)) (0 : Int32) else some (mm_w G J, ())) else some (mm_w G J, ()) := by
    unfold pX6_takeNodes_0
    rw [w_nn, w_gR hp.1, hp.2.1.2.1, w_nn, w_is pL.1, e_running pL hk, w_cl, w_gI pL.1, w_gR h.1, h.2.1.2.2.2, w_nn, w_aI (i := 3) tK zi_3 (by omega), w_gR h.1, h.2.1.2.2.2, w_nn, w_aI (i := 1) tK zi_1 (by omega), w_is pL.1, e_lplace pL hk h12 hN g1, w_cl]
  rw [hpre]
  by_cases hst : st = 1
  · rw [if_neg (by rw [if_pos hst]; decide)]
    by_cases hse : (se : Int) = D 3
    · rw [if_pos (by rw [zi_eq, hk.1.2.2.2, g3]; exact hse)]
      cases hcp : cpl C sn with
      | none =>
        rw [if_pos (show oI none = -1 from rfl)]
        exact same (by show nodX _ _ _ _ _ _ _ _ _ _ _ = _; unfold nodX; rw [if_pos ⟨hst, hse⟩, hcp]) _ rfl
      | some j =>
        obtain ⟨hj, hjn⟩ := cpl_some hcp
        have hjI := oI_some (n := j) (by omega)
        obtain ⟨t1, t2, t3, t4⟩ := hk.2.2.1 j (cgt C j) (cgt_at hj)
        have t2 : (J (b + 30 + 1 + 1) j).toInt = ((cgt C j).2.1 : Int) := t2
        rw [if_neg (by rw [zi_eq, hjI, zi_m1]; omega), w_gR pL.1, r1.1, w_nn, w_aI r1.2.1 hjI (by rw [r1.2.2]; omega)]
        by_cases hmk : (cgt C j).2.1 = 1
        · rw [if_pos (by rw [zi_eq, t2, zi_1]; omega), w_gR pL.1, r1.1, w_nn, w_sI r1.2.1 hjI (by rw [r1.2.2]; omega), w_gR pL.1, w_gR h.1, h.2.1.2.2.2, w_nn, w_aI (i := 5) tK zi_5 (by omega), r3.1, w_nn, w_sI r3.2.1 hjI (by rw [r3.2.2]; omega), js_ne (b := a + 5) _ (Or.inl (by omega))]
          generalize hJ1 : js (js J (b + 30 + 1 + 1) j 2) (b + 30 + 1 + 3) j (J (a + 5) 5) = J1
          have fr1 : frL J J1 (b + 30) := fun z i hz => by subst hJ1; rw [js_ne _ (Or.inl (by omega)), js_ne _ (Or.inl (by omega))]
          have k1 : lk J1 (b + 30) st kd tg se (cans C j (D 5)) H := by
            subst hJ1
            obtain ⟨⟨a1, a2, a3, a4⟩, ⟨a5, a6⟩, a7, a8⟩ := hk
            refine ⟨⟨?_, ?_, ?_, ?_⟩, ⟨?_, ?_⟩, ?_, ?_⟩
            · rw [js_ne _ (Or.inl (by omega)), js_ne _ (Or.inl (by omega))]; exact a1
            · rw [js_ne _ (Or.inl (by omega)), js_ne _ (Or.inl (by omega))]; exact a2
            · rw [js_ne _ (Or.inl (by omega)), js_ne _ (Or.inl (by omega))]; exact a3
            · rw [js_ne _ (Or.inl (by omega)), js_ne _ (Or.inl (by omega))]; exact a4
            · rw [js_ne _ (Or.inl (by omega)), js_ne _ (Or.inl (by omega)), a5]; unfold cans; simp
            · rw [js_ne _ (Or.inl (by omega)), js_ne _ (Or.inl (by omega))]; exact a6
            · intro i d hd
              obtain ⟨e, he, rfl⟩ := cans_at hd
              obtain ⟨q1, q2, q3, q4⟩ := a7 i e he
              rw [js_ne (b := b + 30 + 1) _ (Or.inl (by omega)), js_ne (b := b + 30 + 1) _ (Or.inl (by omega)), js_ne (b := b + 30 + 2) _ (Or.inl (by omega)), js_ne (b := b + 30 + 3) _ (Or.inl (by omega)), js_ne (b := b + 30 + 3) _ (Or.inl (by omega))]
              by_cases hji : j = i
              · subst hji
                rw [if_pos rfl, show b + 30 + 2 = b + 30 + 1 + 1 from rfl, js_same, show b + 30 + 4 = b + 30 + 1 + 3 from rfl, js_same]
                exact ⟨q1, by rw [zi_2]; rfl, q3, g5⟩
              · rw [if_neg hji, js_ne _ (Or.inr (by omega)), js_ne _ (Or.inr (by omega)), js_ne _ (Or.inr (by omega))]
                exact ⟨q1, q2, q3, q4⟩
            · intro i y hy
              rw [js_ne _ (Or.inl (by omega)), js_ne _ (Or.inl (by omega))]
              exact a8 i y hy
          obtain ⟨J2, e1, e2, e3, e4, e5⟩ := e_nodes_l (N := N) (J0 := J) (S := S) (D := D) (kx := fun (G : mm_M) (x1 : Option Nat) => q_is G a 7 <| q_cl (pX6_goOn_0 N a G x1) fun G _ => some (G, ())) h hp hb hS htg hN hD hDi 3 N 0 0 J1 _ H zi_0 (by omega) (by omega) k1 (cans_inS hC) hH fr1
          have l2 : lin J2 (a + 2) L := ⟨by rw [e3 _ _ (by omega)]; exact hl.1, fun k E hE c hc => by rw [e3 _ _ (by omega)]; exact hl.2 k E hE c hc⟩
          have h12' : (cln D tg 3 0 (cans C j (D 5))).length ≤ 12 := by
            have := pig ((cln D tg 3 0 (cans C j (D 5))).map Prod.fst) S e4.1 (fun x hx => by obtain ⟨c, hc1, rfl⟩ := List.mem_map.mp hx; exact e4.2 c hc1)
            simp at this; omega
          obtain ⟨J3, f1, f2, f3, f4⟩ := e_goon (N := N) (now := now) (nr := nr) h hp hb e2 h12' l2 h24 (by rw [e3 _ _ (by omega)]; exact hnow) (by rw [e3 _ _ (by omega)]; exact hnr) hN
          have eX : X = (goS st (goL kd nr se tg now 2 (cln D tg 3 0 (cans C j (D 5))) L).1, (goL kd nr se tg now 2 (cln D tg 3 0 (cans C j (D 5))) L).1, hln D 3 0 H, goD kd nr se tg (goL kd nr se tg now 2 (cln D tg 3 0 (cans C j (D 5))) L).1 (goL kd nr se tg now 2 (cln D tg 3 0 (cans C j (D 5))) L).2) := by
            show nodX _ _ _ _ _ _ _ _ _ _ _ = _
            unfold nodX
            rw [if_pos ⟨hst, hse⟩, hcp]
            dsimp only
            rw [if_pos hmk]
          refine ⟨J3, ?_, by rw [eX]; exact f2, by rw [eX]; exact f3, fun z i z1 z2 z3 z4 => by rw [f4 z i z1 z2 z3 z4, e3 z i z1]⟩
          rw [e1, w_is h.1, f1, w_cl]
        · rw [if_neg (by rw [zi_eq, t2, zi_1]; omega)]
          refine same ?_ _ rfl
          show nodX _ _ _ _ _ _ _ _ _ _ _ = _
          unfold nodX
          rw [if_pos ⟨hst, hse⟩, hcp]
          dsimp only
          rw [if_neg hmk]
    · rw [if_neg (by rw [zi_eq, hk.1.2.2.2, g3]; exact hse)]
      exact same (by show nodX _ _ _ _ _ _ _ _ _ _ _ = _; unfold nodX; rw [if_neg (fun q => hse q.2)]) _ rfl
  · rw [if_pos (by rw [if_neg hst])]
    exact same (by show nodX _ _ _ _ _ _ _ _ _ _ _ = _; unfold nodX; rw [if_neg (fun q => hst q.1)]) _ rfl
