
/-! a delivery keeps it -/
theorem whl_mem {k : Nat} : ∀ (E : List En) (s : Nat) (v : Int), v ∈ whl E k s → ∃ e ∈ E, v = (e.2.1 : Int)
  | [], s, v, h => by simp [whl] at h
  | e :: E, s, v, h => by
    unfold whl at h
    split at h
    · cases h
    · split at h
      · rcases List.mem_cons.mp h with h | h
        · exact ⟨e, List.mem_cons_self, h⟩
        · obtain ⟨f, f1, f2⟩ := whl_mem E (s + 1) v h
          exact ⟨f, List.mem_cons_of_mem _ f1, f2⟩
      · obtain ⟨f, f1, f2⟩ := whl_mem E s v h
        exact ⟨f, List.mem_cons_of_mem _ f1, f2⟩
theorem whl_len {k : Nat} : ∀ (E : List En) (s : Nat), s ≤ 3 → (whl E k s).length ≤ 3 - s
  | [], s, _ => by simp [whl]
  | e :: E, s, h => by
    unfold whl
    split
    · simp
    · split
      · have := whl_len (k := k) E (s + 1) (by omega)
        rw [List.length_cons]; omega
      · exact whl_len E s h
theorem dset_out {D : Dg} {o c : Nat} {l : List Int} (h : c < o ∨ o + l.length ≤ c) : dset D o l c = D c := by
  unfold dset
  rw [if_neg (by omega)]
theorem dset_in {D : Dg} {o c : Nat} {l : List Int} (h1 : o ≤ c) (h2 : c < o + l.length) : dset D o l c ∈ l := by
  unfold dset
  rw [if_pos ⟨h1, h2⟩, List.getD_eq_getElem?_getD, List.getElem?_eq_getElem (by omega)]
  exact List.getElem_mem _
theorem dset_or {D : Dg} {o c : Nat} {l : List Int} : dset D o l c ∈ l ∨ dset D o l c = D c := by
  by_cases h : o ≤ c ∧ c < o + l.length
  · exact Or.inl (dset_in h.1 h.2)
  · exact Or.inr (dset_out (by omega))
theorem mkD_hi {k s r e t o : Int} {c : Nat} (h : 6 ≤ c) : mkD k s r e t o c = -1 := by
  unfold mkD
  rw [if_neg (by omega), if_neg (by omega), if_neg (by omega), if_neg (by omega), if_neg (by omega), if_neg (by omega)]
theorem ansD_ok {S : List Nat} {nr sn ser s t now : Nat} {tok : Int} {bs : List Bk} {E : List En} {get up : Bool} (h : tbk S nr s bs) (hnr : nr ∈ S) (hsn : sn ∈ S) (hne : sn ≠ nr) (hE : enk S now up E) : okD S (ansD nr sn ser tok bs t E get) := by
  have h3 : an3 bs t (sn : Int) 3 (cbb bs t (-1) (sn : Int)) = ((nA (cns bs) t (sn : Int)).take 3).map (fun (n : Nat) => (n : Int)) := by
    rw [cbb_0 (tbk_nodup h), an3_nA (tbk_nodup h), List.drop_zero]
  have l3 : (an3 bs t (sn : Int) 3 (cbb bs t (-1) (sn : Int))).length ≤ 3 := by
    rw [h3, List.length_map, List.length_take]; omega
  have m3 : ∀ v ∈ an3 bs t (sn : Int) 3 (cbb bs t (-1) (sn : Int)), ∃ u : Nat, v = (u : Int) ∧ u ∈ S ∧ u ≠ sn := by
    intro v hv
    rw [h3] at hv
    obtain ⟨u, hu, rfl⟩ := List.mem_map.mp hv
    obtain ⟨u1, u2⟩ := nA_mem.mp (List.mem_of_mem_take hu)
    exact ⟨u, rfl, (tbk_ids h u u1).1, fun e => u2 (by rw [e])⟩
  have lw := whl_len (k := t) E 0 (by omega)
  have lo : ∀ c, c < 6 → ansD nr sn ser tok bs t E get c = mkD 2 nr sn ser (-1) tok c := fun c hc => by
    unfold ansD
    split
    · rw [dset_out (by omega), dset_out (by omega)]
    · rw [dset_out (by omega)]
  have e0 := lo 0 (by omega)
  have e1 := lo 1 (by omega)
  have e2 := lo 2 (by omega)
  have e3 := lo 3 (by omega)
  have f0 : mkD 2 nr sn ser (-1) tok 0 = 2 := rfl
  have f1 : mkD 2 nr sn ser (-1) tok 1 = (nr : Int) := rfl
  have f2 : mkD 2 nr sn ser (-1) tok 2 = (sn : Int) := rfl
  have f3 : mkD 2 nr sn ser (-1) tok 3 = (ser : Int) := rfl
  rw [f0] at e0
  rw [f1] at e1
  rw [f2] at e2
  rw [f3] at e3
  refine ⟨by rw [e0]; omega, ⟨nr, e1, hnr⟩, ⟨sn, e2, hsn⟩, by rw [e1, e2]; omega, by rw [e3]; omega, fun hc => absurd e0 hc, fun i hi => ?_⟩
  have c6 : ansD nr sn ser tok bs t E get (6 + i) = -1 ∨ ∃ u : Nat, ansD nr sn ser tok bs t E get (6 + i) = (u : Int) ∧ u ∈ S ∧ u ≠ sn := by
    unfold ansD
    have key : dset (mkD 2 nr sn ser (-1) tok) 6 (an3 bs t (sn : Int) 3 (cbb bs t (-1) (sn : Int))) (6 + i) = -1 ∨ ∃ u : Nat, dset (mkD 2 nr sn ser (-1) tok) 6 (an3 bs t (sn : Int) 3 (cbb bs t (-1) (sn : Int))) (6 + i) = (u : Int) ∧ u ∈ S ∧ u ≠ sn := by
      rcases dset_or (D := mkD 2 nr sn ser (-1) tok) (o := 6) (c := 6 + i) (l := an3 bs t (sn : Int) 3 (cbb bs t (-1) (sn : Int))) with hd | hd
      · exact Or.inr (m3 _ hd)
      · rw [hd, mkD_hi (by omega)]; exact Or.inl rfl
    split
    · rw [dset_out (by omega)]; exact key
    · exact key
  have c9 : okI S (ansD nr sn ser tok bs t E get (9 + i)) := by
    unfold ansD
    have key : dset (mkD 2 nr sn ser (-1) tok) 6 (an3 bs t (sn : Int) 3 (cbb bs t (-1) (sn : Int))) (9 + i) = -1 := by
      rw [dset_out (by omega), mkD_hi (by omega)]
    split
    · rcases dset_or (D := dset (mkD 2 nr sn ser (-1) tok) 6 (an3 bs t (sn : Int) 3 (cbb bs t (-1) (sn : Int)))) (o := 9) (c := 9 + i) (l := whl E t 0) with hd | hd
      · obtain ⟨e, e1, e2⟩ := whl_mem E 0 _ hd
        exact Or.inr ⟨e.2.1, e2, (hE.2 e e1).2.1⟩
      · rw [hd, key]; exact Or.inl rfl
    · rw [key]; exact Or.inl rfl
  rw [e2]
  rcases c6 with c6 | ⟨u, u1, u2, u3⟩
  · rw [c6]
    exact ⟨Or.inl rfl, c9, by omega⟩
  · rw [u1]
    exact ⟨Or.inr ⟨u, rfl, u2⟩, c9, by omega⟩
theorem caddI_okn {S : List Nat} {now nr t : Nat} {C : List Cd} {v : Int} (h : okCn S now nr t C) (hv : okI S v) (hne : v ≠ (nr : Int)) : okCn S now nr t (caddI C t v) := by
  unfold caddI
  rcases hv with rfl | ⟨u, rfl, hu⟩
  · rw [if_pos rfl]; exact h
  · rw [if_neg (by omega), Int.toNat_natCast]
    exact cadd_ok h hu (by omega)
theorem cln_ok {S : List Nat} {now nr t : Nat} {D : Dg} (hD : ∀ i, i < 3 → okI S (D (6 + i)) ∧ D (6 + i) ≠ (nr : Int)) : ∀ (r i : Nat) (C : List Cd), i + r ≤ 3 → okCn S now nr t C → okCn S now nr t (cln D t r i C)
  | 0, i, C, _, h => h
  | r + 1, i, C, hi, h => by
    unfold cln
    have := hD i (by omega)
    exact cln_ok hD r (i + 1) _ (by omega) (caddI_okn h this.1 this.2)
theorem hln_ok {S : List Nat} {D : Dg} (hD : ∀ i, i < 3 → okI S (D (9 + i))) : ∀ (r i : Nat) (H : List Nat), i + r ≤ 3 → (H.Nodup ∧ ∀ x ∈ H, x ∈ S) → ((hln D r i H).Nodup ∧ ∀ x ∈ hln D r i H, x ∈ S)
  | 0, i, H, _, h => h
  | r + 1, i, H, hi, h => by
    unfold hln
    exact hln_ok hD r (i + 1) _ (by omega) (haddI_ok h (hD i (by omega)))
theorem cans_ok {S : List Nat} {now nr tg j : Nat} {C : List Cd} {tok : Int} (h : okCn S now nr tg C) (hj : j < C.length) : okCn S now nr tg (cans C j tok) := by
  have hc := cgt_at hj
  refine ⟨okC_mod h.1 (fun c => rfl) hc (by dsimp only; omega), fun c hcm => ?_⟩
  rcases mod_mem hc hcm with rfl | ⟨k, -, hk⟩
  · have := h.2 _ (List.mem_of_getElem? hc)
    exact this
  · exact h.2 c (List.mem_of_getElem? hk)
theorem nodX_ok {S : List Nat} {st kd tg se nr now sn : Nat} {C : List Cd} {H : List Nat} {L : List Dg} {D : Dg} (hnr : nr ∈ S) (htg : tg < 256) (hst : lu0 (st, kd, tg, se, C, H)) (hC : okCn S now nr tg C) (hH : H.Nodup ∧ ∀ x ∈ H, x ∈ S) (hL : ∀ D ∈ L, okD S D) (hD : okD S D) (hD2 : D 2 = (nr : Int)) : lu0 ((nodX st kd tg se nr now C H L D sn).1, kd, tg, se, (nodX st kd tg se nr now C H L D sn).2.1, (nodX st kd tg se nr now C H L D sn).2.2.1) ∧ okCn S now nr tg (nodX st kd tg se nr now C H L D sn).2.1 ∧ ((nodX st kd tg se nr now C H L D sn).2.2.1.Nodup ∧ ∀ x ∈ (nodX st kd tg se nr now C H L D sn).2.2.1, x ∈ S) ∧ ∀ E ∈ (nodX st kd tg se nr now C H L D sn).2.2.2, okD S E := by
  unfold nodX
  split
  · rename_i hst1
    cases hc : cpl C sn with
    | none => exact ⟨hst, hC, hH, hL⟩
    | some j =>
      dsimp only
      split
      · have hj := (cpl_some hc).1
        have h1 := cln_ok (now := now) (t := tg) (fun i hi => ⟨(hD.2.2.2.2.2.2 i hi).1, by rw [← hD2]; exact (hD.2.2.2.2.2.2 i hi).2.2⟩) 3 0 _ (by omega) (cans_ok (tok := D 5) hC hj)
        obtain ⟨g1, g2⟩ := goL_ok (kd := kd) (se := se) hnr htg 2 _ L h1 hL
        rw [hst1.1] at hst ⊢
        exact ⟨goS_1, g1, hln_ok (fun i hi => (hD.2.2.2.2.2.2 i hi).2.1) 3 0 H (by omega) hH, goD_ok hnr htg g1 g2⟩
      · exact ⟨hst, hC, hH, hL⟩
  · exact ⟨hst, hC, hH, hL⟩
theorem stoE_ok {S : List Nat} {nr sn now t : Nat} {tok : Int} {up : Bool} {E : List En} (h : enk S now up E) (hsn : sn ∈ S) (ht : t < 256) : enk S now up (stoE nr sn now tok t E) := by
  unfold stoE
  split
  · unfold ekp
    cases hf : E.findIdx? (ekey (t, sn, now + 24).1 (t, sn, now + 24).2.1) with
    | some j =>
      dsimp only
      refine ⟨by rw [List.length_modify]; exact h.1, fun e he => ?_⟩
      obtain ⟨k, hk⟩ := List.getElem?_of_mem he
      rw [List.getElem?_modify] at hk
      cases hc : E[k]? with
      | none => rw [hc] at hk; cases hk
      | some d =>
        rw [hc] at hk
        obtain ⟨g1, g2, g3, g4⟩ := h.2 d (List.mem_of_getElem? hc)
        by_cases hjk : j = k
        · simp [hjk] at hk
          rw [← hk]
          exact ⟨g1, g2, Nat.le_refl _, fun _ => by dsimp only; omega⟩
        · simp [hjk] at hk
          rw [← hk]
          exact ⟨g1, g2, g3, g4⟩
    | none =>
      dsimp only
      unfold eput
      split
      · refine ⟨by rw [List.length_append]; simp only [List.length_cons, List.length_nil]; omega, fun e he => ?_⟩
        rcases List.mem_append.mp he with he | he
        · exact h.2 e he
        · simp at he
          rw [he]
          exact ⟨ht, hsn, Nat.le_refl _, fun _ => by dsimp only; omega⟩
      · exact h
  · exact h
theorem dlvP_ok {S : List Nat} {now M : Nat} {p : Pe} {L : List Dg} {D : Dg} (hS : ∀ u ∈ S, u < 256) (h : pok S now M p) (hL : ∀ D ∈ L, okD S D) (hD : okD S D) (hD2 : D 2 = (p.1 : Int)) (hT : ∃ s, tbk S p.1 s (seeB p.2.2.1 p.1 (D 1).toNat now)) : pok S now M (dlvP now p L D).1 ∧ ∀ D' ∈ (dlvP now p L D).2, okD S D' := by
  obtain ⟨⟨h1, h2⟩, ⟨⟨s, h3⟩, h4⟩, ⟨h50, h51, h52, h53, h54⟩, h6⟩ := h
  obtain ⟨d0, ⟨sn, d1, d1'⟩, -, d12, d3, d4, d5⟩ := hD
  have hsn : (D 1).toNat = sn := by rw [d1]; exact Int.toNat_natCast _
  have hne : sn ≠ p.1 := fun e => d12 (by rw [d1, hD2, e])
  have hlen := tbk_len h3
  have hq := (seeB_q (o := p.1) (u := (D 1).toNat) (t := now) h4 hlen.1 hlen.2 (by rw [hsn]; exact hS sn d1') (Nat.le_refl _)).1
  obtain ⟨s', hT⟩ := hT
  rcases (by omega : (D 0 = 0 ∨ D 0 = 1) ∨ D 0 = 2 ∨ D 0 = 3) with e0 | e0 | e0
  · rw [dlvP_q e0]
    refine ⟨⟨⟨h1, h2⟩, ⟨⟨s', hT⟩, hq⟩, ⟨h50, h51, h52, h53, h54⟩, h6⟩, ladd_ok hL ?_⟩
    rw [hsn] at hT ⊢
    exact ansD_ok hT h2 d1' hne h6
  · rw [dlvP_n e0]
    obtain ⟨k1, k2, k3, k4⟩ := nodX_ok (st := p.2.2.2.1.1) (kd := p.2.2.2.1.2.1) (se := p.2.2.2.1.2.2.2.1) (sn := (D 1).toNat) h2 h51 h50 ⟨h52, h53⟩ h54 hL ⟨d0, ⟨sn, d1, d1'⟩, ⟨p.1, hD2, h2⟩, d12, d3, d4, d5⟩ hD2
    exact ⟨⟨⟨h1, h2⟩, ⟨⟨s', hT⟩, hq⟩, ⟨k1, h51, k2.1, k2.2, k3⟩, h6⟩, k4⟩
  · rw [dlvP_s e0]
    have ht := d4 (by omega)
    refine ⟨⟨⟨h1, h2⟩, ⟨⟨s', hT⟩, hq⟩, ⟨h50, h51, h52, h53, h54⟩, ?_⟩, hL⟩
    rw [hsn]
    exact stoE_ok h6 d1' (by omega)
/-! a join keeps it -/
theorem tbk_mono {S S' : List Nat} {nr s : Nat} {bs : List Bk} (h : tbk S nr s bs) (hs : ∀ u ∈ S, u ∈ S') : tbk S' nr s bs := ⟨h.1, h.2.1, fun k x b hx hb => by
  obtain ⟨a1, a2, a3⟩ := h.2.2 k x b hx hb
  exact ⟨a1, a2, fun c hc => ⟨(a3 c hc).1, hs _ (a3 c hc).2.1, (a3 c hc).2.2⟩⟩⟩
theorem pok_mono {S S' : List Nat} {now M M' : Nat} {p : Pe} (h : pok S now M p) (hs : ∀ u ∈ S, u ∈ S') (hM : M ≤ M') : pok S' now M' p := by
  obtain ⟨⟨h1, h2⟩, ⟨⟨s, h3⟩, h4⟩, ⟨h50, h51, h52, h53, h54⟩, h6⟩ := h
  exact ⟨⟨h1, hs _ h2⟩, ⟨⟨s, tbk_mono h3 hs⟩, qB_mono h4 hM (Nat.le_refl _)⟩, ⟨h50, h51, ⟨h52.1, fun c hc => hs _ (h52.2.1 c hc), h52.2.2⟩, h53, h54.1, fun x hx => hs _ (h54.2 x hx)⟩, ⟨h6.1, fun e he => ⟨(h6.2 e he).1, hs _ (h6.2 e he).2.1, (h6.2 e he).2.2⟩⟩⟩
theorem okD_mono {S S' : List Nat} {D : Dg} (h : okD S D) (hs : ∀ u ∈ S, u ∈ S') : okD S' D := by
  have hI : ∀ v, okI S v → okI S' v := fun v hv => hv.imp id (fun ⟨u, u1, u2⟩ => ⟨u, u1, hs u u2⟩)
  obtain ⟨d0, ⟨sn, d1, d1'⟩, ⟨rc, d2, d2'⟩, d3⟩ := h
  exact ⟨d0, ⟨sn, d1, hs _ d1'⟩, ⟨rc, d2, hs _ d2'⟩, d3.1, d3.2.1, d3.2.2.1, fun i hi => ⟨hI _ (d3.2.2.2 i hi).1, hI _ (d3.2.2.2 i hi).2.1, (d3.2.2.2 i hi).2.2⟩⟩
theorem tbk_new {S : List Nat} {nr now : Nat} (hn : nr < 256) : tbk S nr 0 [(0, 256, now, [])] := by
  refine ⟨by omega, ?_, fun k x b hx hb => ?_⟩
  · unfold shp FZ ordr oA oB fst' siz
    simp [shr8 hn]
  · have : k = 0 := by
      have := (List.getElem?_eq_some_iff.mp hb).1
      simpa using this
    subst this
    cases hb
    exact ⟨List.nodup_nil, by simp, (fun c hc => by cases hc)⟩
theorem anw_ok {S : List Nat} {now M : Nat} {p : Pe} (hp : p.1 < 256) (hS : p.1 ∈ S) (ht : p.2.2.2.1.2.2.1 < 256) : pok S now M (anw now p) := ⟨⟨hp, hS⟩, ⟨⟨0, tbk_new hp⟩, qB_mono bs1_q (Nat.zero_le _) (Nat.le_refl _)⟩, ⟨⟨Nat.zero_le _, fun _ => ⟨rfl, rfl⟩⟩, ht, ⟨List.Pairwise.nil, (fun c hc => by cases hc), (fun c hc => by cases hc)⟩, (fun c hc => by cases hc), List.nodup_nil, (fun c hc => by cases hc)⟩, ⟨Nat.zero_le _, (fun c hc => by cases hc)⟩⟩
theorem viaP_ok {S : List Nat} {now M v : Nat} {p : Pe} (hp : p.1 < 256) (hS : p.1 ∈ S) (ht : p.2.2.2.1.2.2.1 < 256) (hv : v < 256) (hT : ∃ s, tbk S p.1 s (seeB [(0, 256, now, [])] p.1 v now)) : pok S now M (viaP now p v) := ⟨⟨hp, hS⟩, ⟨hT, qB_mono (seeB_q bs1_q (by simp) (by simp) hv (Nat.le_refl _)).1 (Nat.zero_le _) (Nat.le_refl _)⟩, ⟨⟨Nat.zero_le _, fun _ => ⟨rfl, rfl⟩⟩, ht, ⟨List.Pairwise.nil, (fun c hc => by cases hc), (fun c hc => by cases hc)⟩, (fun c hc => by cases hc), List.nodup_nil, (fun c hc => by cases hc)⟩, ⟨Nat.zero_le _, (fun c hc => by cases hc)⟩⟩
/-! what it gives the first program -/
theorem pok_wfp {S : List Nat} {now M : Nat} {p : Pe} (h : pok S now M p) (hM : M ≤ 40000) (hn : now < 10000) : wfp S p := by
  obtain ⟨⟨h1, h2⟩, ⟨⟨s, h3⟩, h4⟩, ⟨h50, h51, h52, h53, h54⟩, h6⟩ := h
  have hl := tbk_len h3
  obtain ⟨q1, q2, q3⟩ := qB_ok h4
  refine ⟨h1, ⟨hl.1, hl.2, q1, q2, fun b hb c hc => Nat.le_trans (q3 b hb c hc) hM, fun b hb => ?_⟩, ⟨⟨srtC_nodup h52.1, h52.2.1⟩, h54, h51, fun c hc => ?_⟩, h6.1⟩
  · have := (h4 b hb).2.2.2
    omega
  · have := h53 c hc
    omega
theorem tbk_256 {S : List Nat} {nr s : Nat} {bs : List Bk} (h : tbk S nr s bs) (hn : nr < 256) : ∀ b ∈ bs, b.1 + b.2.1 ≤ 256 := fun b hb => by
  obtain ⟨k, hk⟩ := List.getElem?_of_mem hb
  exact (chn_at (FZ nr s) 0 256 _ _ (FZ_chn hn s h.1) (shp_at h.2.1 hk)).2.2.1
