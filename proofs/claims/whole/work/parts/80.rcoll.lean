/-! the reference collects nodes -/
theorem xor_inj {a b t : Nat} (h : a ^^^ t = b ^^^ t) : a = b := by
  have := congrArg (· ^^^ t) h
  simpa [Nat.xor_assoc] using this
theorem ipf_spec (f : Nat → Bool) : ∀ n, (∀ k, ipf f n ≤ k → k < n → f k = true) ∧ (0 < ipf f n → f (ipf f n - 1) = false)
  | 0 => ⟨fun k h1 h2 => by omega, fun h => by simp [ipf] at h⟩
  | n + 1 => by
    unfold ipf
    obtain ⟨h1, h2⟩ := ipf_spec f n
    by_cases hf : f n = true
    · rw [if_pos hf]
      refine ⟨fun k k1 k2 => ?_, h2⟩
      by_cases hk : k = n
      · rw [hk]; exact hf
      · exact h1 k k1 (by omega)
    · rw [if_neg hf]
      refine ⟨fun k k1 k2 => by omega, fun _ => ?_⟩
      rw [Nat.add_sub_cancel]
      simpa using hf
theorem cgt_eq {C : List Cd} {k : Nat} {c : Cd} (h : C[k]? = some c) : cgt C k = c := by
  unfold cgt
  rw [List.getD_eq_getElem?_getD, h]
  rfl
theorem cin_srt {C : List Cd} {t u : Nat} (hs : srtC t C) (hu : ∀ c ∈ C, c.1 ≠ u) : srtC t (cin C t u) := by
  obtain ⟨h1, h2⟩ := ipf_spec (kgt C t u) C.length
  have hle := ipf_le (kgt C t u) C.length
  unfold cin
  generalize ipf (kgt C t u) C.length = p at h1 h2 hle
  have kg : ∀ k c, C[k]? = some c → kgt C t u k = decide (u ^^^ t < c.1 ^^^ t) := fun k c hk => by
    unfold kgt
    rw [List.getD_eq_getElem?_getD, hk]
    rfl
  have lo : ∀ c ∈ C.take p, c.1 ^^^ t < u ^^^ t := by
    intro c hc
    obtain ⟨k, hk⟩ := List.getElem?_of_mem hc
    rw [List.getElem?_take] at hk
    by_cases hkp : k < p
    · rw [if_pos hkp] at hk
      have hq : p - 1 < C.length := by omega
      have hqs := List.getElem?_eq_getElem hq
      have hn := h2 (by omega)
      rw [kg _ _ hqs] at hn
      have hn := of_decide_eq_false hn
      have hne : C[p - 1].1 ^^^ t ≠ u ^^^ t := fun e => hu _ (List.getElem_mem hq) (xor_inj e)
      by_cases hkq : k = p - 1
      · subst hkq
        rw [hqs] at hk
        cases hk
        omega
      · have hkl := (List.getElem?_eq_some_iff.mp hk)
        have := List.pairwise_iff_getElem.mp hs k (p - 1) hkl.1 hq (by omega)
        rw [hkl.2] at this
        omega
    · rw [if_neg hkp] at hk; cases hk
  have hi : ∀ c ∈ C.drop p, u ^^^ t < c.1 ^^^ t := by
    intro c hc
    obtain ⟨k, hk⟩ := List.getElem?_of_mem hc
    rw [List.getElem?_drop] at hk
    have hkl := (List.getElem?_eq_some_iff.mp hk).1
    have := h1 (p + k) (by omega) hkl
    rw [kg _ _ hk] at this
    exact of_decide_eq_true this
  refine List.pairwise_append.mpr ⟨List.Pairwise.sublist (List.take_sublist _ _) hs, List.pairwise_cons.mpr ⟨fun c hc => hi c hc, List.Pairwise.sublist (List.drop_sublist _ _) hs⟩, fun c hc d hd => ?_⟩
  rcases List.mem_cons.mp hd with rfl | hd
  · exact lo c hc
  · exact Nat.lt_trans (lo c hc) (hi d hd)
theorem cin_iff {C : List Cd} {t u : Nat} {c : Cd} : c ∈ cin C t u ↔ c = (u, 0, -1, -1) ∨ c ∈ C := by
  unfold cin
  constructor
  · intro h
    rcases List.mem_append.mp h with h | h
    · exact Or.inr (List.mem_of_mem_take h)
    · rcases List.mem_cons.mp h with h | h
      · exact Or.inl h
      · exact Or.inr (List.mem_of_mem_drop h)
  · intro h
    rcases h with h | h
    · exact List.mem_append_right _ (by rw [h]; exact List.mem_cons_self)
    · rw [← List.take_append_drop (ipf (kgt C t u) C.length) C] at h
      rcases List.mem_append.mp h with h | h
      · exact List.mem_append_left _ h
      · exact List.mem_append_right _ (List.mem_cons_of_mem _ h)
theorem cin_cS {ids : List Nat} {C : List Cd} {t u : Nat} (hn : ids.Nodup) (hs : srtC t C) (hu : ∀ c ∈ C, c.1 ≠ u) (hui : u ∈ ids) (k : Nat) : cS ids (cin C t u) k = if k = ix ids u then 1 else cS ids C k := by
  obtain ⟨a1, a2, a3⟩ := ix_mem hn hui
  by_cases hk : k = ix ids u
  · rw [if_pos hk, hk]
    exact cS_ix hn (cin_srt hs hu) (c := (u, 0, -1, -1)) (cin_iff.mpr (Or.inl rfl)) hui
  · rw [if_neg hk]
    unfold cS
    by_cases hkl : k < ids.length
    · rw [if_pos hkl, if_pos hkl]
      have hne : idg ids k ≠ u := fun e => hk (by rw [← e, ix_idg hn hkl])
      cases hc : cfd C (idg ids k) with
      | none =>
        cases hc2 : cfd (cin C t u) (idg ids k) with
        | none => rfl
        | some c =>
          obtain ⟨c1, c2⟩ := cfd_some hc2
          rcases cin_iff.mp c1 with rfl | c1
          · exact absurd c2.symm hne
          · exact absurd c2 (cfd_none hc c c1)
      | some c =>
        obtain ⟨c1, c2⟩ := cfd_some hc
        have := cfd_mem (cin_srt hs hu) (cin_iff.mpr (Or.inr c1))
        rw [c2] at this
        rw [this]
    · rw [if_neg hkl, if_neg hkl]
theorem cS_0 {ids : List Nat} {C : List Cd} {u : Nat} (hn : ids.Nodup) (hui : u ∈ ids) : cS ids C (ix ids u) = 0 ↔ ∀ c ∈ C, c.1 ≠ u := by
  obtain ⟨a1, a2, a3⟩ := ix_mem hn hui
  unfold cS
  rw [if_pos a1, a2]
  cases hc : cfd C u with
  | none => exact ⟨fun _ => cfd_none hc, fun _ => rfl⟩
  | some c =>
    obtain ⟨c1, c2⟩ := cfd_some hc
    exact ⟨fun e => by dsimp only at e; omega, fun e => absurd c2 (e c c1)⟩
theorem cpl_mem {C : List Cd} {u j : Nat} (h : cpl C u = some j) : ∃ c ∈ C, c.1 = u := by
  obtain ⟨h1, h2⟩ := cpl_some h
  exact ⟨_, List.mem_of_getElem? (cgt_at h1), h2⟩
theorem caddI_ok {ids : List Nat} {C : List Cd} {t : Nat} {v : Int} (h : okC ids t C) (hv : okI ids v) : okC ids t (caddI C t v) := by
  unfold caddI
  rcases hv with rfl | ⟨u, rfl, hu⟩
  · rw [if_pos rfl]; exact h
  · rw [if_neg (by omega), Int.toNat_natCast]
    unfold cadd
    cases hc : cpl C u with
    | some j => exact h
    | none =>
      dsimp only
      refine ⟨cin_srt h.1 (cpl_none hc), fun c hc => ?_, fun c hc => ?_⟩
      · rcases cin_iff.mp hc with rfl | hc
        · exact hu
        · exact h.2.1 c hc
      · rcases cin_iff.mp hc with rfl | hc
        · exact Nat.zero_le _
        · exact h.2.2 c hc
section RCOLL
variable {G : mm_M} {m N i kd tg se : Nat} {ids : List Nat} {x1 : Int32}
theorem rlv_add {J : Nat → Nat → Int32} {C : List Cd} {H : List Nat} {u : Nat} (hn : ids.Nodup) (hok : okC ids tg C) (h : rlv J m i ids kd tg se C H) (hu : ∀ c ∈ C, c.1 ≠ u) (hui : u ∈ ids) : rlv (js J (m + 16) (12 * i + ix ids u) 1) m i ids kd tg se (cin C tg u) H := by
  obtain ⟨⟨h1, h2, h3⟩, h4, h5, h6, h7, h8⟩ := h
  have fr : ∀ z k, z ≠ m + 16 → js J (m + 16) (12 * i + ix ids u) 1 z k = J z k := fun z k z1 => js_ne _ (Or.inl z1)
  refine ⟨⟨by rw [fr _ _ (by omega)]; exact h1, by rw [fr _ _ (by omega)]; exact h2, by rw [fr _ _ (by omega)]; exact h3⟩, fun k hk => ?_, fun c hc e => ?_, fun c hc e => ?_, by rw [fr _ _ (by omega)]; exact h7, fun k u hk => by rw [fr _ _ (by omega)]; exact h8 k u hk⟩
  · rw [cin_cS hn hok.1 hu hui]
    by_cases hkx : k = ix ids u
    · rw [if_pos hkx, hkx, js_same]; rfl
    · rw [if_neg hkx, js_ne _ (Or.inr (by omega))]
      exact h4 k hk
  · rw [fr _ _ (by omega)]
    rcases cin_iff.mp hc with rfl | hc
    · dsimp only at e; omega
    · exact h5 c hc e
  · rw [fr _ _ (by omega)]
    rcases cin_iff.mp hc with rfl | hc
    · dsimp only at e; omega
    · exact h6 c hc e
/-- row i of the states, of the tokens and of what was found -/
def frc (J J' : Nat → Nat → Int32) (m i : Nat) : Prop := ∀ z j, (z ≠ m + 19 ∨ j ≠ i) → ((z ≠ m + 16 ∧ z ≠ m + 18 ∧ z ≠ m + 20) ∨ j < 12 * i ∨ 12 * i + 12 ≤ j) → J' z j = J z j
theorem frc.trans {J J' J'' : Nat → Nat → Int32} {m i : Nat} (h : frc J J' m i) (k : frc J' J'' m i) : frc J J'' m i := fun z j a b => (k z j a b).trans (h z j a b)
theorem r_coll_c {D : Dg} {H : List Nat} {kx : mm_M → Int32 → Option (mm_M × Unit)} (h : sM G m) (hi12 : i < ids.length) (hN : 400 ≤ N) (h1 : x1.toInt = (i : Int)) (hD : ∀ c, c < 3 → okI ids (D (6 + c))) : ∀ (r n c : Nat) (z : Int32) (J : Nat → Nat → Int32) (C : List Cd), z.toInt = ((6 + c : Nat) : Int) → c + r = 3 → r < n → rid J m ids → rnow J m D → rlv J m i ids kd tg se C H → okC ids tg C → ∃ J', pX7_collect_73 N m kx n (mm_w G J) x1 z = kx (mm_w G J') x1 ∧ rlv J' m i ids kd tg se (cln D tg r c C) H ∧ okC ids tg (cln D tg r c C) ∧ frc J J' m i := by
  intro r
  induction r with
  | zero =>
    intro n c z J C hz hc hn hi hw hv hok
    obtain ⟨n, rfl⟩ : ∃ m, n = m + 1 := ⟨n - 1, by omega⟩
    refine ⟨J, ?_, hv, hok, fun _ _ _ _ => rfl⟩
    show pX7_collect_73_b N m _ kx _ x1 z = _
    unfold pX7_collect_73_b
    rw [if_pos (by rw [zi_le, zi_9, hz]; omega)]
  | succ r ih =>
    intro n c z J C hz hc hn hi hw hv hok
    obtain ⟨n, rfl⟩ : ∃ m, n = m + 1 := ⟨n - 1, by omega⟩
    have h12 := hi.2.1
    have hDc := hD c (by omega)
    have hwc := hw (6 + c) (by omega)
    have pre : pX7_collect_73 N m kx (n + 1) (mm_w G J) x1 z = if oI (kn ids (D (6 + c))) < 0 then pX7_collect_73 N m kx n (mm_w G J) x1 (z + 1) else q_gR (mm_w G J) m 8 19 fun r97_25 => q_nn r97_25 fun b107_26 => q_aI (mm_w G J) b107_26 101 (((12 : Int32) * x1) + oI (kn ids (D (6 + c)))) fun v107_27 => if v107_27 = 0 then q_gR (mm_w G J) m 8 19 fun r112_28 => q_nn r112_28 fun b123_29 => q_sI (mm_w G J) b123_29 101 (((12 : Int32) * x1) + oI (kn ids (D (6 + c)))) (1 : Int32) fun G => pX7_collect_73 N m kx n G x1 (z + (1 : Int32)) else pX7_collect_73 N m kx n (mm_w G J) x1 (z + (1 : Int32)) := by
      show pX7_collect_73_b N m _ kx _ x1 z = _
      unfold pX7_collect_73_b
      rw [if_neg (by rw [zi_le, zi_9, hz]; omega), gr_now h, w_nn, ai_now h hz (by omega), w_is h.1, r_known h hi hN, hwc, w_cl]
    rw [pre]
    have hz1 : (z + 1).toInt = ((6 + (c + 1) : Nat) : Int) := by rw [zi_inc (i := 6 + c) hz (by omega)]; rfl
    show ∃ J', _ ∧ rlv J' m i ids kd tg se (cln D tg r (c + 1) (caddI C tg (D (6 + c)))) H ∧ okC ids tg (cln D tg r (c + 1) (caddI C tg (D (6 + c)))) ∧ _
    have hok1 := caddI_ok hok hDc
    unfold caddI at hok1 ⊢
    rcases hDc with e | ⟨u, e, hu⟩
    · have hkn : kn ids (D (6 + c)) = none := by
        cases hk : kn ids (D (6 + c)) with
        | none => rfl
        | some j =>
          obtain ⟨-, v, -, hv⟩ := kn_some hk
          omega
      rw [hkn, if_pos (by rw [zi_lt, oI_none, zi_0]; decide), if_pos e]
      rw [if_pos e] at hok1
      exact ih n (c + 1) (z + 1) J C hz1 (by omega) (by omega) hi hw hv hok1
    · obtain ⟨a1, a2, a3⟩ := ix_mem hi.2.2.1 hu
      have hkn : kn ids (D (6 + c)) = some (ix ids u) := by rw [e]; exact kn_at hi.2.2.1 a3
      have hIx := oI_some (n := ix ids u) (by omega)
      have hSx := hv.2.1 (ix ids u) (by omega)
      rw [hkn, if_neg (by rw [zi_lt, hIx, zi_0]; omega), if_neg (by rw [e]; omega), gr_state h, w_nn, ai_state h (zi_12i h1 hIx (by omega) (by omega)) (by omega), e, Int.toNat_natCast]
      rw [if_neg (by rw [e]; omega), e, Int.toNat_natCast] at hok1
      unfold cadd at hok1 ⊢
      cases hcp : cpl C u with
      | some j =>
        rw [hcp] at hok1
        have hS0 : cS ids C (ix ids u) ≠ 0 := fun e => by
          obtain ⟨d, hd, hdu⟩ := cpl_mem hcp
          exact (cS_0 hi.2.2.1 hu).mp e d hd hdu
        rw [if_neg (by rw [zi_eq, hSx, zi_0]; omega)]
        exact ih n (c + 1) (z + 1) J C hz1 (by omega) (by omega) hi hw hv hok1
      | none =>
        rw [hcp] at hok1
        have hS0 := (cS_0 hi.2.2.1 hu).mpr (cpl_none hcp)
        rw [if_pos (by rw [zi_eq, hSx, zi_0, hS0]; rfl), gr_state h, w_nn, si_state h (zi_12i h1 hIx (by omega) (by omega)) (by omega)]
        have fr : ∀ z k, (z ≠ m + 16 ∨ k < 12 * i ∨ 12 * i + 12 ≤ k) → js J (m + 16) (12 * i + ix ids u) 1 z k = J z k := fun z k hz => js_ne _ (by omega)
        obtain ⟨J', g1, g2, g3, g4⟩ := ih n (c + 1) (z + 1) _ _ hz1 (by omega) (by omega) (rid_congr hi (fr _ _ (by omega)) (fun _ => fr _ _ (by omega))) (fun d hd => by rw [fr _ _ (by omega)]; exact hw d hd) (rlv_add hi.2.2.1 hok hv (cpl_none hcp) hu) hok1
        exact ⟨J', g1, g2, g3, fun z j z1 z2 => by rw [g4 z j z1 z2, fr z j (by omega)]⟩
end RCOLL
