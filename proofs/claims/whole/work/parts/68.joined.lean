def jnP (P : List (Nat × Pe)) (u b : Nat) : List (Nat × Pe) := match fp P (u : Int) with
  | some _ => P
  | none => enr P u b
def jnOk (P : List (Nat × Pe)) (x y : Int) : Prop := (0 ≤ x ∧ x < 256) ∧ ups P x = none ∧ (y = -1 ∨ ups P y ≠ none) ∧ (fp P x = none → P.length < 12)
theorem wfp_mono {S S' : List Nat} {p : Pe} (h : wfp S p) (hs : ∀ x ∈ S, x ∈ S') : wfp S' p := by
  obtain ⟨h0, h1, ⟨⟨a1, a2⟩, ⟨b1, b2⟩, h3⟩, h4⟩ := h
  exact ⟨h0, h1, ⟨⟨a1, fun c hc => hs _ (a2 c hc)⟩, ⟨b1, fun x hx => hs _ (b2 x hx)⟩, h3⟩, h4⟩
theorem set_nums {P : List (Nat × Pe)} {i b : Nat} {p q : Pe} (hi : P[i]? = some (b, p)) (hq : q.1 = p.1) : (P.set i (b, q)).map (fun p => p.2.1) = P.map (fun p => p.2.1) := by
  apply List.ext_getElem?
  intro k
  rw [List.getElem?_map, List.getElem?_map]
  by_cases hk : i = k
  · subst hk
    rw [List.getElem?_set_self (List.getElem?_eq_some_iff.mp hi).1, hi]
    simp [hq]
  · rw [List.getElem?_set_ne hk]
theorem WF_set {P : List (Nat × Pe)} {now ser i b : Nat} {p q : Pe} (h : WF P now ser) (hi : P[i]? = some (b, p)) (hq : q.1 = p.1) (hw : wfp (P.map (fun p => p.2.1)) q) : WF (P.set i (b, q)) now ser := by
  refine ⟨h.1, fun r hr => ?_⟩
  rw [set_nums hi hq]
  rcases List.mem_or_eq_of_mem_set hr with hr | hr
  · exact h.2 r hr
  · rw [hr]; exact hw
theorem enr_nums {P : List (Nat × Pe)} {u b x : Nat} (h : x ∈ P.map (fun p => p.2.1)) : x ∈ (enr P u b).map (fun p => p.2.1) := by
  obtain ⟨p, hp, rfl⟩ := List.mem_map.mp h
  refine List.mem_map.mpr ⟨p, ?_, rfl⟩
  unfold enr
  rw [← List.take_append_drop (eat P u) P] at hp
  rcases List.mem_append.mp hp with hp | hp
  · exact List.mem_append_left _ hp
  · exact List.mem_append_right _ (List.mem_cons_of_mem _ hp)
theorem enr_mem {P : List (Nat × Pe)} {u b : Nat} {r : Nat × Pe} (h : r ∈ enr P u b) : r ∈ P ∨ r = (b, p00 u) := by
  unfold enr at h
  rcases List.mem_append.mp h with h | h
  · exact Or.inl (List.mem_of_mem_take h)
  · rcases List.mem_cons.mp h with h | h
    · exact Or.inr h
    · exact Or.inl (List.mem_of_mem_drop h)
theorem WF_enr {P : List (Nat × Pe)} {now ser u b : Nat} {q : Pe} (h : WF P now ser) (hq : q.1 = u) (hw : wfp ((enr P u b).map (fun p => p.2.1)) q) : WF ((enr P u b).set (eat P u) (b, q)) now ser := by
  have hi : (enr P u b)[eat P u]? = some (b, p00 u) := by rw [enr_at, if_neg (by omega), if_pos rfl]
  refine ⟨h.1, fun r hr => ?_⟩
  rw [set_nums hi hq]
  obtain ⟨k, hk⟩ := List.getElem?_of_mem hr
  by_cases hke : eat P u = k
  · subst hke
    rw [List.getElem?_set_self (List.getElem?_eq_some_iff.mp hi).1] at hk
    cases hk
    exact hw
  · rw [List.getElem?_set_ne hke, enr_at] at hk
    have : r ∈ P := by
      by_cases h1 : k < eat P u
      · rw [if_pos h1] at hk; exact List.mem_of_getElem? hk
      · rw [if_neg h1, if_neg (fun e => hke e.symm)] at hk; exact List.mem_of_getElem? hk
    exact wfp_mono (h.2 r this) (fun x hx => enr_nums hx)
theorem ups_256 {P : List (Nat × Pe)} {now ser : Nat} {v : Int} (h : WF P now ser) (hu : ups P v ≠ none) : 0 ≤ v ∧ v < 256 := by
  cases hp : ups P v with
  | none => exact absurd hp hu
  | some p =>
    obtain ⟨k, hk, e⟩ := fp_mem (ups_fp hp).1
    have := (h.2 p (List.mem_of_getElem? hk)).1
    omega
theorem e_join {G : mm_M} {J : Nat → Nat → Int32} {a now ser N : Nat} {P : List (Nat × Pe)} {L : List Dg} {x y : Int32} (h : CW G J a P now ser L) (hw : WF P now ser) (hl : lok G) (hab : a + 29 ≤ mm_nx G) (hN : 400 ≤ N) : (¬ jnOk P x.toInt y.toInt ∧ pX6_join_0 N a (mm_w G J) x y = some (mm_w G J, 0)) ∨ (jnOk P x.toInt y.toInt ∧ ∃ i b p G' J', (jnP P x.toInt.toNat (mm_nx G))[i]? = some (b, p) ∧ p.1 = x.toInt.toNat ∧ pX6_join_0 N a (mm_w G J) x y = some (mm_w G' J', 1) ∧ CW G' J' a ((jnP P x.toInt.toNat (mm_nx G)).set i (b, (jnX now ser p y.toInt L).1)) now (jnX now ser p y.toInt L).2.1 (jnX now ser p y.toInt L).2.2 ∧ lok G' ∧ mm_nx G ≤ mm_nx G' ∧ ∀ z, a + 6 ≤ z → z < a + 29 → sme (mm_w G J) (mm_w G' J') z) := by
  have hpre : pX6_join_0 N a (mm_w G J) x y = if 0 ≤ x.toInt ∧ x.toInt < 256 then q_op ((ups P x.toInt).map Prod.fst) (if y.toInt = -1 then pX6_join_32 N a (mm_w G J) x y else q_op ((ups P y.toInt).map Prod.fst) (some (mm_w G J, (0 : Int32))) fun _ => pX6_join_32 N a (mm_w G J) x y) (fun _ => some (mm_w G J, (0 : Int32))) else some (mm_w G J, (0 : Int32)) := by
    unfold pX6_join_0
    rw [e_isnum, w_cl]
    by_cases h0 : 0 ≤ x.toInt ∧ x.toInt < 256
    · rw [if_pos h0, if_pos h0, if_neg (by decide), w_is h.1.1, e_up h hN, w_cl, w_is h.1.1, e_up h hN, w_cl]
      congr 1
      by_cases h1 : y.toInt = -1
      · rw [if_pos h1, if_pos (by rw [zi_eq, h1, zi_m1])]
      · rw [if_neg h1, if_neg (by rw [zi_eq, zi_m1]; exact h1)]
    · rw [if_neg h0, if_neg h0, if_pos rfl]
  rw [hpre]
  by_cases h0 : 0 ≤ x.toInt ∧ x.toInt < 256
  case neg => exact Or.inl ⟨fun e => h0 e.1, if_neg h0⟩
  rw [if_pos h0]
  cases hux : ups P x.toInt with
  | some p => exact Or.inl ⟨fun e => (by have := e.2.1; rw [hux] at this; cases this), rfl⟩
  | none =>
    rw [Option.map_none, w_op0]
    by_cases hvy : y.toInt = -1 ∨ ups P y.toInt ≠ none
    case neg =>
      refine Or.inl ⟨fun e => hvy e.2.2.1, ?_⟩
      rw [if_neg (fun e => hvy (Or.inl e))]
      cases huy : ups P y.toInt with
      | none => rfl
      | some q => exact absurd (Or.inr (by rw [huy]; exact fun e => by cases e)) hvy
    have h32 : (if y.toInt = -1 then pX6_join_32 N a (mm_w G J) x y else q_op ((ups P y.toInt).map Prod.fst) (some (mm_w G J, (0 : Int32))) fun _ => pX6_join_32 N a (mm_w G J) x y) = pX6_join_32 N a (mm_w G J) x y := by
      by_cases h1 : y.toInt = -1
      · rw [if_pos h1]
      · rw [if_neg h1]
        cases huy : ups P y.toInt with
        | none => exact absurd huy (hvy.resolve_left h1)
        | some q => rfl
    rw [h32]
    have hxu : x.toInt = ((x.toInt.toNat : Nat) : Int) := by omega
    have hy : y.toInt = -1 ∨ 0 ≤ y.toInt ∧ y.toInt < 256 := hvy.imp id (fun e => ups_256 hw e)
    have hyv : ∀ q : Pe, q.1 < 256 → q.2.2.2.1.2.2.1 < 256 → ∀ S, wfp S (viaP now q y.toInt.toNat) := fun q q1 q2 S => viaP_wf hw.1.1 q1 (by omega) q2
    cases hfx : fp P x.toInt with
    | some p =>
      obtain ⟨i, hi, hpn⟩ := fp_mem hfx
      obtain ⟨b, p⟩ := p
      dsimp only at hpn
      have hwp := hw.2 _ (List.mem_of_getElem? hi)
      obtain ⟨G', J', c1, c2, ⟨c3, c4⟩, c5⟩ := e_join_core (N := N) (x := x) (y := y) (z := J a 5) h hw.pe9 hi hpn.symm (by omega) h.2.2.1.2.1 hN hy (WF_set hw hi rfl (hyv p hwp.1 hwp.2.2.1.2.2.1 _))
      have hjn : jnP P x.toInt.toNat (mm_nx G) = P := by unfold jnP; rw [← hxu, hfx]
      refine Or.inr ⟨⟨h0, hux, hvy, fun e => by rw [hfx] at e; cases e⟩, i, b, p, G', J', by rw [hjn]; exact hi, by omega, ?_, by rw [hjn]; exact c2, by rw [c3]; exact hl, by omega, c5⟩
      rw [← c1]
      unfold pX6_join_32 pX6_enrolIfRoom_0
      rw [w_is h.1.1, w_is h.1.1, e_known h hN, hfx, w_cl]
      simp only [Option.map_some]
      rw [w_op, w_cl, w_op, w_gI h.1.1, w_is (h.2.2.2.2.1 i _ hi).2.2.1.1]
    | none =>
      by_cases hc : P.length < 12
      · have hfu : fp P ((x.toInt.toNat : Nat) : Int) = none := by rw [← hxu]; exact hfx
        obtain ⟨G1, J1, d1, d2, d3, d4, d5⟩ := e_enrol (N := N) (x := x) (u := x.toInt.toNat) h hw.pe9 hl rfl hab hc hN hxu hfu
        have hi : (enr P x.toInt.toNat (mm_nx G))[eat P x.toInt.toNat]? = some (mm_nx G, p00 x.toInt.toNat) := by rw [enr_at, if_neg (by omega), if_pos rfl]
        have h91 : ∀ q ∈ enr P x.toInt.toNat (mm_nx G), pe9 q.2 := fun q hq => by
          rcases enr_mem hq with hq | hq
          · exact hw.pe9 q hq
          · rw [hq]; exact Nat.zero_le _
        obtain ⟨G', J', c1, c2, ⟨c3, c4⟩, c5⟩ := e_join_core (N := N) (x := x) (y := y) (z := J1 a 5) d2 h91 hi hxu (show x.toInt.toNat < 256 by omega) d2.2.2.1.2.1 hN hy (WF_enr hw rfl (hyv (p00 x.toInt.toNat) (show x.toInt.toNat < 256 by omega) (show 0 < 256 by decide) _))
        have hjn : jnP P x.toInt.toNat (mm_nx G) = enr P x.toInt.toNat (mm_nx G) := by unfold jnP; rw [hfu]
        refine Or.inr ⟨⟨h0, hux, hvy, fun _ => hc⟩, _, _, _, G', J', by rw [hjn]; exact hi, rfl, ?_, by rw [hjn]; exact c2, by rw [c3]; exact d3, by omega, fun z z1 z2 => (d5 z z1 z2).trans (c5 z z1 z2)⟩
        rw [← c1]
        unfold pX6_join_32
        rw [w_is h.1.1, d1, w_cl, w_op, w_gI d2.1.1, w_is (d2.2.2.2.2.1 _ _ hi).2.2.1.1]
      · refine Or.inl ⟨fun e => hc (e.2.2.2 hfx), ?_⟩
        unfold pX6_join_32 pX6_enrolIfRoom_0
        rw [w_is h.1.1, w_is h.1.1, e_known h hN, hfx, w_cl]
        simp only [Option.map_none]
        rw [w_op0, w_gI h.1.1, if_neg (by rw [zi_lt, h.2.2.1.1, zi_12]; omega), w_cl, w_op0]
