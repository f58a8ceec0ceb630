/-! what every call keeps -/
def lu0 (q : Lu) : Prop := q.1 ≤ 2 ∧ (q.1 = 0 → q.2.2.2.2.1 = [] ∧ q.2.2.2.2.2 = [])
def luk (S : List Nat) (now nr : Nat) (q : Lu) : Prop := lu0 q ∧ q.2.2.1 < 256 ∧ okC S q.2.2.1 q.2.2.2.2.1 ∧ (∀ c ∈ q.2.2.2.2.1, c.1 ≠ nr ∧ -1 ≤ c.2.2.1 ∧ c.2.2.1 ≤ (now : Int)) ∧ q.2.2.2.2.2.Nodup ∧ ∀ x ∈ q.2.2.2.2.2, x ∈ S
def enk (S : List Nat) (now : Nat) (up : Bool) (E : List En) : Prop := E.length ≤ 6 ∧ ∀ e ∈ E, e.1 < 256 ∧ e.2.1 ∈ S ∧ e.2.2 ≤ now + 24 ∧ (up = true → now < e.2.2)
def pok (S : List Nat) (now M : Nat) (p : Pe) : Prop := (p.1 < 256 ∧ p.1 ∈ S) ∧ ((∃ s, tbk S p.1 s p.2.2.1) ∧ ∀ b ∈ p.2.2.1, qB M now b) ∧ luk S now p.1 p.2.2.2.1 ∧ enk S now p.2.1 p.2.2.2.2
def okCn (S : List Nat) (now nr tg : Nat) (C : List Cd) : Prop := okC S tg C ∧ ∀ c ∈ C, c.1 ≠ nr ∧ -1 ≤ c.2.2.1 ∧ c.2.2.1 ≤ (now : Int)
theorem mem_ladd {L : List Dg} {D E : Dg} (h : E ∈ ladd L D) : E ∈ L ∨ E = D := by
  unfold ladd at h
  split at h
  · rcases List.mem_append.mp h with h | h
    · exact Or.inl h
    · exact Or.inr (by simpa using h)
  · exact Or.inl h
theorem ladd_ok {S : List Nat} {L : List Dg} {D : Dg} (h : ∀ E ∈ L, okD S E) (hD : okD S D) : ∀ E ∈ ladd L D, okD S E := fun E hE => by
  rcases mem_ladd hE with h1 | h1
  · exact h E h1
  · rw [h1]; exact hD
theorem mkD_ok {S : List Nat} {k : Int} {nr c se tg : Nat} {tok : Int} (hk : 0 ≤ k ∧ k ≤ 3) (hk2 : k ≠ 2) (hnr : nr ∈ S) (hc : c ∈ S) (hne : c ≠ nr) (htg : tg < 256) : okD S (mkD k nr c se tg tok) := by
  have e : ∀ i, i < 6 → mkD k nr c se tg tok (6 + i) = -1 := fun i hi => by
    unfold mkD
    rw [if_neg (by omega), if_neg (by omega), if_neg (by omega), if_neg (by omega), if_neg (by omega), if_neg (by omega)]
  have e2 : mkD k nr c se tg tok 2 = (c : Int) := rfl
  refine ⟨hk, ⟨nr, rfl, hnr⟩, ⟨c, rfl, hc⟩, ?_, ?_, fun _ => ?_, fun i hi => ?_⟩
  · show (nr : Int) ≠ (c : Int)
    omega
  · show (0 : Int) ≤ (se : Int)
    omega
  · show (0 : Int) ≤ (tg : Int) ∧ (tg : Int) < 256
    omega
  · rw [e i (by omega), show 9 + i = 6 + (3 + i) by omega, e (3 + i) (by omega), e2]
    exact ⟨Or.inl rfl, Or.inl rfl, by omega⟩
theorem okCn_cask {S : List Nat} {now nr tg j : Nat} {C : List Cd} (h : okCn S now nr tg C) (hj : j < C.length) : okCn S now nr tg (cask C j now) := by
  have hc := cgt_at hj
  refine ⟨okC_mod h.1 (fun c => rfl) hc (by dsimp only; omega), fun c hcm => ?_⟩
  rcases mod_mem hc hcm with rfl | ⟨k, -, hk⟩
  · have := h.2 _ (List.mem_of_getElem? hc)
    exact ⟨this.1, by dsimp only; omega, by dsimp only; omega⟩
  · exact h.2 c (List.mem_of_getElem? hk)
theorem goL_ok {S : List Nat} {kd nr se tg now : Nat} (hnr : nr ∈ S) (htg : tg < 256) : ∀ (r : Nat) (C : List Cd) (L : List Dg), okCn S now nr tg C → (∀ D ∈ L, okD S D) → okCn S now nr tg (goL kd nr se tg now r C L).1 ∧ ∀ D ∈ (goL kd nr se tg now r C L).2, okD S D
  | 0, C, L, h, hL => ⟨h, hL⟩
  | r + 1, C, L, h, hL => by
    unfold goL
    cases hn : nta C with
    | none => exact ⟨h, hL⟩
    | some j =>
      dsimp only
      have hj : j < C.length := by
        unfold nta at hn
        split at hn
        · have := ntk_lt C 0 0 j hn; omega
        · cases hn
      have hm := List.mem_of_getElem? (cgt_at hj)
      refine goL_ok hnr htg r _ _ (okCn_cask h hj) (ladd_ok hL ?_)
      exact mkD_ok (by split <;> omega) (by split <;> omega) hnr (h.1.2.1 _ hm) (h.2 _ hm).1 htg
theorem stf_ok {S : List Nat} {nr se tg : Nat} (hnr : nr ∈ S) (htg : tg < 256) : ∀ (C : List Cd) (L : List Dg), (∀ c ∈ C, c.1 ∈ S ∧ c.1 ≠ nr) → (∀ D ∈ L, okD S D) → ∀ D ∈ C.foldl (stf nr se tg) L, okD S D
  | [], L, _, hL => hL
  | c :: C, L, hC, hL => by
    rw [List.foldl_cons]
    refine stf_ok hnr htg C _ (fun d hd => hC d (List.mem_cons_of_mem _ hd)) ?_
    have := hC c List.mem_cons_self
    exact ladd_ok hL (mkD_ok (by omega) (by omega) hnr this.1 this.2 htg)
theorem goD_ok {S : List Nat} {kd nr se tg now : Nat} {C : List Cd} {L : List Dg} (hnr : nr ∈ S) (htg : tg < 256) (h : okCn S now nr tg C) (hL : ∀ D ∈ L, okD S D) : ∀ D ∈ goD kd nr se tg C L, okD S D := by
  unfold goD
  split
  · rw [sst_fold]
    refine stf_ok hnr htg _ L (fun c hc => ?_) hL
    have hm := (List.mem_filter.mp (List.mem_of_mem_take hc)).1
    exact ⟨h.1.2.1 c hm, (h.2 c hm).1⟩
  · exact hL
theorem goS_le {st : Nat} {C : List Cd} (h : st ≤ 2) : goS st C ≤ 2 := by
  unfold goS
  split <;> omega
theorem goS_1 {kd tg se : Nat} {C C' : List Cd} {H : List Nat} : lu0 (goS 1 C, kd, tg, se, C', H) := by
  refine ⟨goS_le (by omega), fun e => ?_⟩
  have e : goS 1 C = 0 := e
  unfold goS at e
  split at e <;> omega
theorem cadd_ok {S : List Nat} {now nr t u : Nat} {C : List Cd} (h : okCn S now nr t C) (hu : u ∈ S) (hne : u ≠ nr) : okCn S now nr t (cadd C t u) := by
  have e : caddI C t (u : Int) = cadd C t u := by
    unfold caddI
    rw [if_neg (by omega), Int.toNat_natCast]
  refine ⟨by rw [← e]; exact caddI_ok h.1 (Or.inr ⟨u, rfl, hu⟩), fun c hc => ?_⟩
  unfold cadd at hc
  cases hcp : cpl C u with
  | some j => rw [hcp] at hc; exact h.2 c hc
  | none =>
    rw [hcp] at hc
    rcases cin_iff.mp hc with rfl | hc
    · exact ⟨hne, by dsimp only; omega, by dsimp only; omega⟩
    · exact h.2 c hc
theorem caddF_ok {S : List Nat} {now nr t : Nat} : ∀ (A : List Nat) (C : List Cd), okCn S now nr t C → (∀ u ∈ A, u ∈ S ∧ u ≠ nr) → okCn S now nr t (A.foldl (fun C n => cadd C t n) C)
  | [], C, h, _ => h
  | u :: A, C, h, hA => by
    rw [List.foldl_cons]
    exact caddF_ok A _ (cadd_ok h (hA u List.mem_cons_self).1 (hA u List.mem_cons_self).2) (fun v hv => hA v (List.mem_cons_of_mem _ hv))
theorem tbk_len {S : List Nat} {nr s : Nat} {bs : List Bk} (h : tbk S nr s bs) : 0 < bs.length ∧ bs.length ≤ 9 := by
  have := shp_len h.2.1
  have := h.1
  omega
theorem tbk_tch {S : List Nat} {nr s t now : Nat} {bs : List Bk} (h : tbk S nr s bs) : tbk S nr s (tchB bs t now) := by
  have hk := rng_lt (bs := bs) t (tbk_len h).1
  have hb := bg_at hk
  obtain ⟨x, x1, -⟩ := tbk_x h hb
  exact tbk_set h x1 hb (h.2.2 _ _ _ x1 hb)
theorem tch_q {S : List Nat} {nr s t now M : Nat} {bs : List Bk} (h : tbk S nr s bs) (hq : ∀ b ∈ bs, qB M now b) : ∀ b ∈ tchB bs t now, qB M now b := by
  have hk := rng_lt (bs := bs) t (tbk_len h).1
  have hb := hq _ (List.mem_of_getElem? (bg_at hk))
  exact qB_set hq ⟨hb.1, hb.2.1, hb.2.2.1, Nat.le_refl _⟩
theorem strP_ok {S : List Nat} {now M ser k t : Nat} {p : Pe} {L : List Dg} (h : pok S now M p) (ht : t < 256) (hL : ∀ D ∈ L, okD S D) : pok S now M (strP now ser p k t L).1 ∧ ∀ D ∈ (strP now ser p k t L).2, okD S D := by
  obtain ⟨⟨h1, h2⟩, ⟨⟨s, h3⟩, h4⟩, h5, h6⟩ := h
  have hb := tbk_tch (t := t) (now := now) h3
  have hC : okCn S now p.1 t (cl3 (tchB p.2.2.1 t now) t 3 (cbb (tchB p.2.2.1 t now) t (-1) (-1)) []) := by
    rw [cbb_0 (tbk_nodup hb), cl3_nA (tbk_nodup hb)]
    refine caddF_ok _ _ ⟨⟨List.Pairwise.nil, (fun c hc => by cases hc), (fun c hc => by cases hc)⟩, (fun c hc => by cases hc)⟩ (fun u hu => ?_)
    exact tbk_ids hb u (nA_mem.mp (List.mem_of_mem_drop (List.mem_of_mem_take hu))).1
  obtain ⟨g1, g2⟩ := goL_ok (kd := k) (se := ser + 1) h2 ht 2 _ L hC hL
  exact ⟨⟨⟨h1, h2⟩, ⟨⟨s, hb⟩, tch_q h3 h4⟩, ⟨goS_1, ht, g1.1, g1.2, List.nodup_nil, (fun x hx => by cases hx)⟩, h6⟩, goD_ok h2 ht g1 g2⟩

/-! a tick keeps it -/
theorem addm_mem {L : List (Nat × Nat)} {u : Nat} {c : Nat × Nat} (h : c ∈ addm L u) : ∃ d ∈ L, d.1 = c.1 := by
  have h1 : c.1 ∈ (addm L u).map Prod.fst := List.mem_map.mpr ⟨c, h, rfl⟩
  rw [addm_fst] at h1
  obtain ⟨d, d1, d2⟩ := List.mem_map.mp h1
  exact ⟨d, d1, d2⟩
theorem tbk_mis {S : List Nat} {nr s u : Nat} {bs : List Bk} (h : tbk S nr s bs) : tbk S nr s (misB bs u) := by
  have hk := rng_lt (bs := bs) u (tbk_len h).1
  have hb := bg_at hk
  obtain ⟨x, x1, -⟩ := tbk_x h hb
  obtain ⟨a1, a2, a3⟩ := h.2.2 _ _ _ x1 hb
  refine tbk_set h x1 hb ⟨by rw [addm_fst]; exact a1, by rw [addm_len]; exact a2, fun c hc => ?_⟩
  obtain ⟨d, d1, d2⟩ := addm_mem hc
  rw [← d2]
  exact a3 d d1
theorem mis_q {S : List Nat} {nr s u M T : Nat} {bs : List Bk} (h : tbk S nr s bs) (hq : ∀ b ∈ bs, qB M T b) : ∀ b ∈ misB bs u, qB (M + 1) T b := by
  have hk := rng_lt (bs := bs) u (tbk_len h).1
  have hb := hq _ (List.mem_of_getElem? (bg_at hk))
  have h1 : ∀ b ∈ bs, qB (M + 1) T b := fun b hb => by
    obtain ⟨q1, q2, q3, q4⟩ := hq b hb
    exact ⟨q1, q2, fun c hc => ⟨(q3 c hc).1, by have := (q3 c hc).2; omega⟩, q4⟩
  refine qB_set h1 ⟨by dsimp only; rw [addm_len]; exact hb.1, hb.2.1, fun c hc => ?_, hb.2.2.2⟩
  obtain ⟨d, d1, d2⟩ := addm_mem hc
  exact ⟨by rw [← d2]; exact (hb.2.2.1 d d1).1, addm_le (fun p hp => (hb.2.2.1 p hp).2) c hc⟩
theorem qB_mono {M M' T T' : Nat} {bs : List Bk} (hq : ∀ b ∈ bs, qB M T b) (hM : M ≤ M') (hT : T ≤ T') : ∀ b ∈ bs, qB M' T' b := fun b hb => by
  obtain ⟨q1, q2, q3, q4⟩ := hq b hb
  exact ⟨q1, q2, fun c hc => ⟨(q3 c hc).1, Nat.le_trans (q3 c hc).2 hM⟩, Nat.le_trans q4 hT⟩
theorem gvF_ok {S : List Nat} {nr s now T : Nat} : ∀ (C : List Cd) (bs : List Bk) (M : Nat), tbk S nr s bs → (∀ b ∈ bs, qB M T b) → tbk S nr s (C.foldl (gvB now) bs) ∧ ∀ b ∈ C.foldl (gvB now) bs, qB (M + C.length) T b
  | [], bs, M, h, hq => ⟨h, hq⟩
  | c :: C, bs, M, h, hq => by
    rw [List.foldl_cons, List.length_cons, show M + (C.length + 1) = M + 1 + C.length by omega]
    unfold gvB
    split
    · exact gvF_ok C _ (M + 1) (tbk_mis h) (mis_q h hq)
    · exact gvF_ok C _ (M + 1) h (qB_mono hq (by omega) (Nat.le_refl _))
theorem gv1_fst {now : Nat} (c : Cd) : (gv1 now c).1 = c.1 := by
  unfold gv1
  split <;> rfl
theorem gv_ok {S : List Nat} {now nr tg : Nat} {C : List Cd} (h : okCn S now nr tg C) : okCn S now nr tg (C.map (gv1 now)) := by
  refine ⟨⟨?_, fun c hc => ?_, fun c hc => ?_⟩, fun c hc => ?_⟩
  · unfold srtC
    rw [List.pairwise_map]
    exact h.1.1.imp (fun {c d} h => by rw [gv1_fst, gv1_fst]; exact h)
  · obtain ⟨d, d1, rfl⟩ := List.mem_map.mp hc
    rw [gv1_fst]; exact h.1.2.1 d d1
  · obtain ⟨d, d1, rfl⟩ := List.mem_map.mp hc
    unfold gv1
    split
    · exact Nat.le_refl _
    · exact h.1.2.2 d d1
  · obtain ⟨d, d1, rfl⟩ := List.mem_map.mp hc
    have := h.2 d d1
    rw [gv1_fst]
    refine ⟨this.1, ?_⟩
    unfold gv1
    split
    · exact this.2
    · exact this.2
theorem okCn_now {S : List Nat} {now now' nr tg : Nat} {C : List Cd} (h : okCn S now nr tg C) (hn : now ≤ now') : okCn S now' nr tg C := ⟨h.1, fun c hc => by
  have := h.2 c hc
  exact ⟨this.1, this.2.1, by omega⟩⟩
theorem tkP_ok {S : List Nat} {now M : Nat} {p : Pe} {L : List Dg} (hS : S.length ≤ 12) (h : pok S now M p) (hL : ∀ D ∈ L, okD S D) : pok S (now + 1) (M + 12) (tkP (now + 1) p L).1 ∧ ∀ D ∈ (tkP (now + 1) p L).2.1, okD S D := by
  obtain ⟨⟨h1, h2⟩, ⟨⟨s, h3⟩, h4⟩, ⟨h50, h51, h52, h53, h54⟩, h6⟩ := h
  have hE : p.2.1 = true → enk S (now + 1) p.2.1 (p.2.2.2.2.filter (live (now + 1))) := fun hu => by
    refine ⟨Nat.le_trans (List.length_filter_le _ _) h6.1, fun e he => ?_⟩
    obtain ⟨e1, e2⟩ := List.mem_filter.mp he
    obtain ⟨g1, g2, g3, g4⟩ := h6.2 e e1
    exact ⟨g1, g2, by omega, fun _ => of_decide_eq_true e2⟩
  have hCn : okCn S (now + 1) p.1 p.2.2.2.1.2.2.1 p.2.2.2.1.2.2.2.2.1 := okCn_now ⟨h52, h53⟩ (by omega)
  unfold tkP
  by_cases hu : p.2.1 = true
  · rw [if_pos hu]
    by_cases hst : p.2.2.2.1.1 = 1
    · rw [if_pos hst]
      dsimp only
      obtain ⟨g1, g2⟩ := goL_ok (kd := p.2.2.2.1.2.1) (se := p.2.2.2.1.2.2.2.1) h2 h51 2 _ L (gv_ok hCn) hL
      obtain ⟨k1, k2⟩ := gvF_ok (now := now + 1) p.2.2.2.1.2.2.2.2.1 p.2.2.1 M h3 h4
      have hlen := srtC_len h52.1 h52.2.1 hS
      exact ⟨⟨⟨h1, h2⟩, ⟨⟨s, k1⟩, qB_mono k2 (by omega) (by omega)⟩, ⟨goS_1, h51, g1.1, g1.2, h54⟩, hE hu⟩, goD_ok h2 h51 g1 g2⟩
    · rw [if_neg hst]
      exact ⟨⟨⟨h1, h2⟩, ⟨⟨s, h3⟩, qB_mono h4 (by omega) (by omega)⟩, ⟨h50, h51, hCn.1, hCn.2, h54⟩, hE hu⟩, hL⟩
  · rw [if_neg hu]
    exact ⟨⟨⟨h1, h2⟩, ⟨⟨s, h3⟩, qB_mono h4 (by omega) (by omega)⟩, ⟨h50, h51, hCn.1, hCn.2, h54⟩, ⟨h6.1, fun e he => by
      obtain ⟨g1, g2, g3, g4⟩ := h6.2 e he
      exact ⟨g1, g2, by omega, fun e => absurd e hu⟩⟩⟩, hL⟩
theorem tkP_num {now : Nat} {p : Pe} {L : List Dg} : (tkP now p L).1.1 = p.1 := by
  unfold tkP
  split
  · split <;> rfl
  · rfl
theorem tckF_ok {S : List Nat} {now M : Nat} (hS : S.length ≤ 12) : ∀ (P : List (Nat × Pe)) (L : List Dg), (∀ p ∈ P, pok S now M p.2) → (∀ D ∈ L, okD S D) → (∀ p ∈ (tckF (now + 1) P L).1, pok S (now + 1) (M + 12) p.2) ∧ (∀ D ∈ (tckF (now + 1) P L).2.1, okD S D) ∧ (tckF (now + 1) P L).1.map (fun p => p.2.1) = P.map (fun p => p.2.1)
  | [], L, _, hL => ⟨(fun p hp => by cases hp), hL, rfl⟩
  | p :: P, L, hP, hL => by
    obtain ⟨k1, k2⟩ := tkP_ok hS (hP p List.mem_cons_self) hL
    obtain ⟨g1, g2, g3⟩ := tckF_ok hS P (tkP (now + 1) p.2 L).2.1 (fun q hq => hP q (List.mem_cons_of_mem _ hq)) k2
    unfold tckF
    refine ⟨fun q hq => ?_, g2, ?_⟩
    · rcases List.mem_cons.mp hq with rfl | hq
      · exact k1
      · exact g1 q hq
    · rw [List.map_cons, List.map_cons, g3]
      dsimp only
      rw [tkP_num]
