/-! the shape of a table -/
theorem smf_ge {a b : Nat} : ∀ (r i x : Nat), i + r = 8 → i ≤ x → x ≤ 8 → a >>> (8 - i) = b >>> (8 - i) → (x ≤ smf a b i r ↔ a >>> (8 - x) = b >>> (8 - x))
  | 0, i, x, h, h1, h2, e => by
    have : x = i := by omega
    subst this
    unfold smf
    exact ⟨fun _ => e, fun _ => Nat.le_refl _⟩
  | r + 1, i, x, h, h1, h2, e => by
    unfold smf
    by_cases hc : a >>> (7 - i) = b >>> (7 - i)
    · rw [if_pos hc]
      by_cases hx : x = i
      · subst hx
        have := smf_le a b r (x + 1)
        have h3 : x + 1 ≤ smf a b (x + 1) r := (smf_ge r (x + 1) (x + 1) (by omega) (Nat.le_refl _) (by omega) (by rw [show 8 - (x + 1) = 7 - x by omega]; exact hc)).mpr (by rw [show 8 - (x + 1) = 7 - x by omega]; exact hc)
        exact ⟨fun _ => e, fun _ => by omega⟩
      · exact smf_ge r (i + 1) x (by omega) (by omega) h2 (by rw [show 8 - (i + 1) = 7 - i by omega]; exact hc)
    · rw [if_neg hc]
      by_cases hx : x = i
      · subst hx
        exact ⟨fun _ => e, fun _ => Nat.le_refl _⟩
      · refine ⟨fun h => by omega, fun h => absurd ?_ hc⟩
        rw [show 7 - i = (8 - x) + (x - 1 - i) by omega, Nat.shiftRight_add, Nat.shiftRight_add, h]
theorem shr8 {n : Nat} (h : n < 256) : n >>> 8 = 0 := by rw [Nat.shiftRight_eq_div_pow]; exact Nat.div_eq_of_lt h
theorem sam_ge {a b x : Nat} (ha : a < 256) (hb : b < 256) (hx : x ≤ 8) : x ≤ sam a b ↔ a >>> (8 - x) = b >>> (8 - x) := smf_ge 8 0 x rfl (Nat.zero_le _) hx (by rw [shr8 ha, shr8 hb])
theorem xor_1 (a : Nat) : a ^^^ 1 = 2 * (a / 2) + (a + 1) % 2 := by
  have h1 := Nat.xor_mod_two_eq_one (a := a) (b := 1)
  have h2 : (a ^^^ 1) / 2 = a / 2 := by
    have := Nat.xor_div_two (a := a) (b := 1)
    simpa using this
  have h3 := Nat.div_add_mod (a ^^^ 1) 2
  omega
theorem div_rng {u q d : Nat} (hd : 0 < d) : (q * d ≤ u ∧ u < q * d + d) ↔ u / d = q := by
  constructor
  · intro ⟨h1, h2⟩
    apply Nat.div_eq_of_lt_le
    · exact h1
    · rw [Nat.add_mul, Nat.one_mul]; exact h2
  · intro h
    have h1 := Nat.div_add_mod u d
    have h2 := Nat.mod_lt u hd
    rw [h, Nat.mul_comm] at h1
    omega
theorem pow_pos' (k : Nat) : 0 < 2 ^ k := Nat.pow_pos (by omega)
theorem bo_iff {nr s u x : Nat} (hn : nr < 256) (hu : u < 256) (hs : s ≤ 8) (hx : x ≤ s) : bo nr s u = x ↔ fst' nr s x ≤ u ∧ u < fst' nr s x + siz s x := by
  unfold bo fst' siz
  by_cases hxs : s ≤ x
  · have : x = s := by omega
    subst this
    rw [if_pos hxs, if_pos hxs]
    have hz : 256 >>> x = 2 ^ (8 - x) := by
      rw [Nat.shiftRight_eq_div_pow, show (256 : Nat) = 2 ^ (8 - x) * 2 ^ x by rw [← Nat.pow_add, show 8 - x + x = 8 by omega]]
      exact Nat.mul_div_cancel _ (pow_pos' x)
    rw [hz, Nat.shiftLeft_eq, div_rng (pow_pos' _), ← Nat.shiftRight_eq_div_pow]
    have hg := sam_ge hn hu hs
    by_cases hc : x ≤ sam nr u
    · rw [if_pos hc]
      exact ⟨fun _ => (hg.mp hc).symm, fun _ => rfl⟩
    · rw [if_neg hc]
      exact ⟨fun e => by omega, fun e => absurd (hg.mpr e.symm) hc⟩
  · rw [if_neg hxs, if_neg hxs]
    have hz : 1 <<< (7 - x) = 2 ^ (7 - x) := by rw [Nat.shiftLeft_eq, Nat.one_mul]
    rw [hz, Nat.shiftLeft_eq, div_rng (pow_pos' _), ← Nat.shiftRight_eq_div_pow]
    have g1 := sam_ge hn hu (x := x) (by omega)
    have g2 := sam_ge hn hu (x := x + 1) (by omega)
    rw [show 8 - (x + 1) = 7 - x by omega] at g2
    rw [show 8 - x = (7 - x) + 1 by omega, Nat.shiftRight_add, Nat.shiftRight_add] at g1
    have q1 : nr >>> (7 - x) >>> 1 = nr >>> (7 - x) / 2 := by rw [Nat.shiftRight_eq_div_pow]
    have q2 : u >>> (7 - x) >>> 1 = u >>> (7 - x) / 2 := by rw [Nat.shiftRight_eq_div_pow]
    rw [q1, q2] at g1
    rw [xor_1]
    generalize nr >>> (7 - x) = a at *
    generalize u >>> (7 - x) = c at *
    have hb : (if s ≤ sam nr u then s else sam nr u) = x ↔ x ≤ sam nr u ∧ ¬ x + 1 ≤ sam nr u := by
      split <;> omega
    rw [hb, g1, g2]
    omega
theorem sam_self (n : Nat) : sam n n = 8 := by
  unfold sam
  simp [smf]
theorem bo_self {nr s : Nat} (hs : s ≤ 8) : bo nr s nr = s := by
  unfold bo
  rw [sam_self, if_pos hs]
def oA (nr : Nat) : Nat → List Nat
  | 0 => []
  | s + 1 => if (nr >>> (7 - s)) % 2 = 1 then oA nr s ++ [s] else oA nr s
def oB (nr : Nat) : Nat → List Nat
  | 0 => []
  | s + 1 => if (nr >>> (7 - s)) % 2 = 1 then oB nr s else s :: oB nr s
def ordr (nr s : Nat) : List Nat := oA nr s ++ s :: oB nr s
theorem oA_lt (nr : Nat) : ∀ s x, x ∈ oA nr s → x < s
  | 0, x, h => by cases h
  | s + 1, x, h => by
    unfold oA at h
    split at h
    · rcases List.mem_append.mp h with h | h
      · have := oA_lt nr s x h; omega
      · simp at h; omega
    · have := oA_lt nr s x h; omega
theorem oB_lt (nr : Nat) : ∀ s x, x ∈ oB nr s → x < s
  | 0, x, h => by cases h
  | s + 1, x, h => by
    unfold oB at h
    split at h
    · have := oB_lt nr s x h; omega
    · rcases List.mem_cons.mp h with h | h
      · omega
      · have := oB_lt nr s x h; omega
theorem oAB_len (nr : Nat) : ∀ s, (oA nr s).length + (oB nr s).length = s
  | 0 => rfl
  | s + 1 => by
    have := oAB_len nr s
    unfold oA oB
    split <;> simp <;> omega
theorem ordr_len (nr s : Nat) : (ordr nr s).length = s + 1 := by
  have := oAB_len nr s
  unfold ordr
  rw [List.length_append, List.length_cons]
  omega
theorem oAB_mem (nr : Nat) : ∀ s x, x < s → x ∈ oA nr s ∨ x ∈ oB nr s
  | 0, x, h => by omega
  | s + 1, x, h => by
    unfold oA oB
    by_cases hx : x = s
    · subst hx
      split
      · exact Or.inl (by simp)
      · exact Or.inr (by simp)
    · have := oAB_mem nr s x (by omega)
      split
      · exact this.imp (fun h => List.mem_append_left _ h) id
      · exact this.imp id (fun h => List.mem_cons_of_mem _ h)
theorem ordr_mem {nr s x : Nat} : x ∈ ordr nr s ↔ x ≤ s := by
  unfold ordr
  rw [List.mem_append, List.mem_cons]
  constructor
  · rintro (h | h | h)
    · have := oA_lt nr s x h; omega
    · omega
    · have := oB_lt nr s x h; omega
  · intro h
    by_cases hx : x = s
    · exact Or.inr (Or.inl hx)
    · rcases oAB_mem nr s x (by omega) with h | h
      · exact Or.inl h
      · exact Or.inr (Or.inr h)
theorem ordr_s {nr s : Nat} : ordr nr (s + 1) = oA nr s ++ (if (nr >>> (7 - s)) % 2 = 1 then [s, s + 1] else [s + 1, s]) ++ oB nr s := by
  have e1 : oA nr (s + 1) = if (nr >>> (7 - s)) % 2 = 1 then oA nr s ++ [s] else oA nr s := rfl
  have e2 : oB nr (s + 1) = if (nr >>> (7 - s)) % 2 = 1 then oB nr s else s :: oB nr s := rfl
  unfold ordr
  rw [e1, e2]
  split
  · simp
  · simp
theorem ordr_nodup (nr : Nat) : ∀ s, (ordr nr s).Nodup
  | 0 => by simp [ordr, oA, oB]
  | s + 1 => by
    have ih := ordr_nodup nr s
    rw [ordr_s]
    unfold ordr at ih
    obtain ⟨h1, h2, h3⟩ := List.nodup_append.mp ih
    obtain ⟨h4, h5⟩ := List.nodup_cons.mp h2
    have a1 : s + 1 ∉ oA nr s := fun h => by have := oA_lt nr s _ h; omega
    have a2 : s + 1 ∉ oB nr s := fun h => by have := oB_lt nr s _ h; omega
    have a3 : s ∉ oA nr s := fun h => by have := oA_lt nr s _ h; omega
    have hd : ∀ x ∈ oA nr s, ∀ y ∈ oB nr s, x ≠ y := fun x hx y hy => h3 x hx y (List.mem_cons_of_mem _ hy)
    have key : ∀ p q, ((p = s ∧ q = s + 1) ∨ (p = s + 1 ∧ q = s)) → (oA nr s ++ [p, q] ++ oB nr s).Nodup := by
      intro p q hpq
      rw [List.append_assoc]
      show (oA nr s ++ p :: q :: oB nr s).Nodup
      refine List.nodup_append.mpr ⟨h1, List.nodup_cons.mpr ⟨?_, List.nodup_cons.mpr ⟨?_, h5⟩⟩, ?_⟩
      · intro h
        rcases List.mem_cons.mp h with h6 | h7
        · omega
        · clear h
          rcases hpq with ⟨rfl, rfl⟩ | ⟨rfl, rfl⟩
          · exact h4 h7
          · exact a2 h7
      · intro h
        rcases hpq with ⟨rfl, rfl⟩ | ⟨rfl, rfl⟩
        · exact a2 h
        · exact h4 h
      · intro x hx y hy
        rcases List.mem_cons.mp hy with rfl | hy
        · intro e; subst e
          rcases hpq with ⟨rfl, rfl⟩ | ⟨rfl, rfl⟩
          · exact a3 hx
          · exact a1 hx
        · rcases List.mem_cons.mp hy with rfl | hy
          · intro e; subst e
            rcases hpq with ⟨rfl, rfl⟩ | ⟨rfl, rfl⟩
            · exact a1 hx
            · exact a3 hx
          · exact hd x hx y hy
    split
    · exact key _ _ (Or.inl ⟨rfl, rfl⟩)
    · exact key _ _ (Or.inr ⟨rfl, rfl⟩)

/-- each range begins where the one before ends -/
def chn : Nat → List (Nat × Nat) → Nat → Prop
  | lo, [], hi => lo = hi
  | lo, p :: l, hi => p.1 = lo ∧ 0 < p.2 ∧ chn (lo + p.2) l hi
theorem chn_split {f h : Nat} (h0 : 0 < h) {B : List (Nat × Nat)} {hi : Nat} : ∀ (A : List (Nat × Nat)) (lo : Nat), chn lo (A ++ (f, 2 * h) :: B) hi → chn lo (A ++ (f, h) :: (f + h, h) :: B) hi
  | [], lo, hc => by
    obtain ⟨h1, h2, h3⟩ := hc
    dsimp only at h1 h3
    refine ⟨h1, h0, by dsimp only; omega, h0, ?_⟩
    rw [show lo + (f, h).2 + (f + h, h).2 = lo + 2 * h by dsimp only; omega]
    exact h3
  | p :: A, lo, hc => ⟨hc.1, hc.2.1, chn_split h0 A _ hc.2.2⟩
theorem chn_at : ∀ (F : List (Nat × Nat)) (lo hi k : Nat) (p : Nat × Nat), chn lo F hi → F[k]? = some p → lo ≤ p.1 ∧ 0 < p.2 ∧ p.1 + p.2 ≤ hi ∧ (∀ q, F[k + 1]? = some q → q.1 = p.1 + p.2) ∧ (F[k + 1]? = none → p.1 + p.2 = hi) ∧ (k = 0 → p.1 = lo)
  | [], lo, hi, k, p, hc, hp => by cases hp
  | r :: F, lo, hi, 0, p, hc, hp => by
    cases hp
    obtain ⟨h1, h2, h3⟩ := hc
    have hle : ∀ (F : List (Nat × Nat)) (lo : Nat), chn lo F hi → lo ≤ hi := by
      intro F
      induction F with
      | nil => intro lo h; exact Nat.le_of_eq h
      | cons q F ih => intro lo h; have := ih _ h.2.2; omega
    refine ⟨by omega, h2, by have := hle F _ h3; omega, fun q hq => ?_, fun hn => ?_, fun _ => h1⟩
    · cases F with
      | nil => cases hq
      | cons q' F => cases hq; rw [h3.1, h1]
    · cases F with
      | nil => have h3 : lo + r.2 = hi := h3; omega
      | cons q' F => cases hn
  | r :: F, lo, hi, k + 1, p, hc, hp => by
    obtain ⟨h1, h2, h3⟩ := hc
    obtain ⟨a1, a2, a3, a4, a5, a6⟩ := chn_at F (lo + r.2) hi k p h3 hp
    exact ⟨by omega, a2, a3, a4, a5, fun h => by omega⟩
def FZ (nr s : Nat) : List (Nat × Nat) := (ordr nr s).map (fun x => (fst' nr s x, siz s x))
theorem fst_lo {nr s x : Nat} (h : x < s) : fst' nr (s + 1) x = fst' nr s x ∧ siz (s + 1) x = siz s x := by
  unfold fst' siz
  rw [if_neg (by omega), if_neg (by omega), if_neg (by omega), if_neg (by omega)]
  exact ⟨rfl, rfl⟩
theorem siz_s {s : Nat} (h : s ≤ 7) : siz s s = 2 * 2 ^ (7 - s) ∧ siz (s + 1) s = 2 ^ (7 - s) ∧ siz (s + 1) (s + 1) = 2 ^ (7 - s) := by
  unfold siz
  rw [if_pos (Nat.le_refl _), if_neg (by omega), if_pos (Nat.le_refl _)]
  rcases (by omega : s = 0 ∨ s = 1 ∨ s = 2 ∨ s = 3 ∨ s = 4 ∨ s = 5 ∨ s = 6 ∨ s = 7) with rfl | rfl | rfl | rfl | rfl | rfl | rfl | rfl <;> decide
theorem fst_s {nr s : Nat} (h : s ≤ 7) : ((nr >>> (7 - s)) % 2 = 1 → fst' nr (s + 1) s = fst' nr s s ∧ fst' nr (s + 1) (s + 1) = fst' nr s s + 2 ^ (7 - s)) ∧ (¬ (nr >>> (7 - s)) % 2 = 1 → fst' nr (s + 1) (s + 1) = fst' nr s s ∧ fst' nr (s + 1) s = fst' nr s s + 2 ^ (7 - s)) := by
  unfold fst'
  rw [if_neg (by omega), if_pos (Nat.le_refl _), if_pos (Nat.le_refl _), xor_1, show 8 - (s + 1) = 7 - s by omega, show 8 - s = (7 - s) + 1 by omega, Nat.shiftRight_add, Nat.shiftLeft_eq, Nat.shiftLeft_eq, Nat.shiftLeft_eq, Nat.pow_succ]
  have q1 : nr >>> (7 - s) >>> 1 = nr >>> (7 - s) / 2 := by rw [Nat.shiftRight_eq_div_pow]
  rw [q1]
  generalize nr >>> (7 - s) = a
  generalize 2 ^ (7 - s) = d
  have hm : a / 2 * (d * 2) = 2 * (a / 2) * d := by rw [Nat.mul_comm d 2, ← Nat.mul_assoc, Nat.mul_comm (a / 2) 2]
  rw [hm]
  constructor
  · intro h1
    have e1 : (a + 1) % 2 = 0 := by omega
    have e2 : a * d = 2 * (a / 2) * d + d := by
      have : a = 2 * (a / 2) + 1 := by omega
      conv => lhs; rw [this, Nat.add_mul, Nat.one_mul]
    rw [e1, Nat.add_zero, e2]
    exact ⟨rfl, rfl⟩
  · intro h1
    have e1 : (a + 1) % 2 = 1 := by omega
    have e2 : a * d = 2 * (a / 2) * d := by
      have : a = 2 * (a / 2) := by omega
      conv => lhs; rw [this]
    rw [e1, e2, Nat.add_mul, Nat.one_mul]
    exact ⟨rfl, rfl⟩
theorem FZ_split {nr s : Nat} (h : s ≤ 7) : ∃ A B f, FZ nr s = A ++ (f, 2 * 2 ^ (7 - s)) :: B ∧ FZ nr (s + 1) = A ++ (f, 2 ^ (7 - s)) :: (f + 2 ^ (7 - s), 2 ^ (7 - s)) :: B ∧ A.length = (oA nr s).length := by
  obtain ⟨z1, z2, z3⟩ := siz_s h
  obtain ⟨f1, f2⟩ := fst_s (nr := nr) h
  refine ⟨(oA nr s).map (fun x => (fst' nr s x, siz s x)), (oB nr s).map (fun x => (fst' nr s x, siz s x)), fst' nr s s, ?_, ?_, by simp⟩
  · unfold FZ ordr
    rw [List.map_append, List.map_cons, z1]
  · have mA : (oA nr s).map (fun x => (fst' nr (s + 1) x, siz (s + 1) x)) = (oA nr s).map (fun x => (fst' nr s x, siz s x)) := by
      apply List.map_congr_left
      intro x hx
      rw [(fst_lo (oA_lt nr s x hx)).1, (fst_lo (nr := nr) (oA_lt nr s x hx)).2]
    have mB : (oB nr s).map (fun x => (fst' nr (s + 1) x, siz (s + 1) x)) = (oB nr s).map (fun x => (fst' nr s x, siz s x)) := by
      apply List.map_congr_left
      intro x hx
      rw [(fst_lo (oB_lt nr s x hx)).1, (fst_lo (nr := nr) (oB_lt nr s x hx)).2]
    unfold FZ
    rw [ordr_s, List.map_append, List.map_append, mA, mB]
    by_cases hb : (nr >>> (7 - s)) % 2 = 1
    · rw [if_pos hb]
      obtain ⟨g1, g2⟩ := f1 hb
      simp only [List.map_cons, List.map_nil, g1, g2, z2, z3, List.append_assoc, List.cons_append, List.nil_append]
    · rw [if_neg hb]
      obtain ⟨g1, g2⟩ := f2 hb
      simp only [List.map_cons, List.map_nil, g1, g2, z2, z3, List.append_assoc, List.cons_append, List.nil_append]
theorem FZ_chn {nr : Nat} (hn : nr < 256) : ∀ s, s ≤ 8 → chn 0 (FZ nr s) 256
  | 0, _ => by
    unfold FZ ordr oA oB
    simp only [List.nil_append, List.map_cons, List.map_nil]
    unfold fst' siz
    rw [if_pos (Nat.le_refl _), if_pos (Nat.le_refl _), shr8 hn]
    exact ⟨by simp, by decide, rfl⟩
  | s + 1, h => by
    obtain ⟨A, B, f, e1, e2, -⟩ := FZ_split (nr := nr) (s := s) (by omega)
    have ih := FZ_chn hn s (by omega)
    rw [e1] at ih
    rw [e2]
    exact chn_split (pow_pos' _) A 0 ih
theorem FZ_len (nr s : Nat) : (FZ nr s).length = s + 1 := by
  unfold FZ
  rw [List.length_map, ordr_len]
theorem FZ_at {nr s k x : Nat} (h : (ordr nr s)[k]? = some x) : (FZ nr s)[k]? = some (fst' nr s x, siz s x) := by
  unfold FZ
  rw [List.getElem?_map, h]
  rfl
/-- the ranges of a table's buckets -/
def shp (nr s : Nat) (bs : List Bk) : Prop := bs.map (fun b => (b.1, b.2.1)) = FZ nr s
theorem shp_len {nr s : Nat} {bs : List Bk} (h : shp nr s bs) : bs.length = s + 1 := by
  have := congrArg List.length h
  rw [List.length_map, FZ_len] at this
  exact this
theorem shp_at {nr s k : Nat} {bs : List Bk} {b : Bk} (h : shp nr s bs) (hb : bs[k]? = some b) : (FZ nr s)[k]? = some (b.1, b.2.1) := by
  rw [← h, List.getElem?_map, hb]
  rfl
theorem rgf_spec (f : Nat → Nat) (u : Nat) : ∀ (r i : Nat), f i ≤ u → f (rgf f u i r) ≤ u ∧ (rgf f u i r < i + r → u < f (rgf f u i r + 1))
  | 0, i, h => ⟨h, fun h => by unfold rgf at h; omega⟩
  | r + 1, i, h => by
    unfold rgf
    by_cases hc : f (i + 1) ≤ u
    · rw [if_pos hc]
      obtain ⟨h1, h2⟩ := rgf_spec f u r (i + 1) hc
      exact ⟨h1, fun h => h2 (by omega)⟩
    · rw [if_neg hc]
      exact ⟨h, fun _ => by omega⟩
theorem rng_bo {nr s u : Nat} {bs : List Bk} (h : shp nr s bs) (hs : s ≤ 8) (hn : nr < 256) (hu : u < 256) : (ordr nr s)[rng bs u]? = some (bo nr s u) := by
  have hl := shp_len h
  have hk := rng_lt (bs := bs) u (by omega)
  have hb := bg_at hk
  have hf := shp_at h hb
  obtain ⟨c1, c2, c3, c4, c5, c6⟩ := chn_at (FZ nr s) 0 256 _ _ (FZ_chn hn s hs) hf
  have h0 : b1 bs 0 ≤ u := by
    have hb0 := bg_at (bs := bs) (k := 0) (by omega)
    have := (chn_at (FZ nr s) 0 256 _ _ (FZ_chn hn s hs) (shp_at h hb0)).2.2.2.2.2 rfl
    dsimp only at this
    rw [b1_at hb0, this]
    exact Nat.zero_le _
  obtain ⟨g1, g2⟩ := rgf_spec (b1 bs) u (bs.length - 1) 0 h0
  have hg : rgf (b1 bs) u 0 (bs.length - 1) = rng bs u := rfl
  rw [hg] at g1 g2
  rw [b1_at hb] at g1
  have hkx : rng bs u < (ordr nr s).length := by rw [ordr_len]; omega
  have hx := List.getElem?_eq_getElem hkx
  generalize (ordr nr s)[rng bs u] = x at hx
  rw [hx]
  have hxs := ordr_mem.mp (List.mem_of_getElem? hx)
  have e := FZ_at hx
  rw [hf] at e
  have e := Option.some.inj e
  have e1 : (bg bs (rng bs u)).1 = fst' nr s x := congrArg Prod.fst e
  have e2 : (bg bs (rng bs u)).2.1 = siz s x := congrArg Prod.snd e
  dsimp only at c3 c4 c5
  have hlt : u < (bg bs (rng bs u)).1 + (bg bs (rng bs u)).2.1 := by
    by_cases hlast : rng bs u + 1 < bs.length
    · have hb1 := bg_at hlast
      have := c4 _ (shp_at h hb1)
      have g3 := g2 (by omega)
      rw [b1_at hb1] at g3
      dsimp only at this
      omega
    · have := c5 (by rw [List.getElem?_eq_none_iff, FZ_len]; omega)
      omega
  rw [(bo_iff hn hu hs hxs).mpr ⟨by omega, by omega⟩]
theorem ordr_own {nr s : Nat} : (ordr nr s)[(oA nr s).length]? = some s := by
  unfold ordr
  rw [List.getElem?_append_right (Nat.le_refl _), Nat.sub_self]
  rfl
theorem ordr_inj {nr s i j x : Nat} (hi : (ordr nr s)[i]? = some x) (hj : (ordr nr s)[j]? = some x) : i = j := nodup_idx (ordr_nodup nr s) hi hj
