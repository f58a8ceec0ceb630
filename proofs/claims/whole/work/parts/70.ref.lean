/-! the reference: where its arrays lie -/
def sM (G : mm_M) (m : Nat) : Prop := mm_K G m = 8 ∧ (mm_R G m 4 = some (m + 1) ∧ mm_K G (m + 1) = 101 ∧ mm_ln G (m + 1) = 12) ∧ (mm_R G m 5 = some (m + 2) ∧ mm_K G (m + 2) = 102 ∧ mm_ln G (m + 2) = 12) ∧ (mm_R G m 6 = some (m + 3) ∧ mm_K G (m + 3) = 102 ∧ mm_ln G (m + 3) = 144) ∧ (mm_R G m 7 = some (m + 4) ∧ mm_K G (m + 4) = 101 ∧ mm_ln G (m + 4) = 144) ∧ (mm_R G m 8 = some (m + 5) ∧ mm_K G (m + 5) = 101 ∧ mm_ln G (m + 5) = 144) ∧ (mm_R G m 9 = some (m + 6) ∧ mm_K G (m + 6) = 101 ∧ mm_ln G (m + 6) = 12) ∧ (mm_R G m 10 = some (m + 7) ∧ mm_K G (m + 7) = 101 ∧ mm_ln G (m + 7) = 108) ∧ (mm_R G m 11 = some (m + 8) ∧ mm_K G (m + 8) = 101 ∧ mm_ln G (m + 8) = 12) ∧ (mm_R G m 12 = some (m + 9) ∧ mm_K G (m + 9) = 101 ∧ mm_ln G (m + 9) = 72) ∧ (mm_R G m 13 = some (m + 10) ∧ mm_K G (m + 10) = 101 ∧ mm_ln G (m + 10) = 72) ∧ (mm_R G m 14 = some (m + 11) ∧ mm_K G (m + 11) = 101 ∧ mm_ln G (m + 11) = 72) ∧ (mm_R G m 15 = some (m + 12) ∧ mm_K G (m + 12) = 101 ∧ mm_ln G (m + 12) = 12) ∧ (mm_R G m 16 = some (m + 13) ∧ mm_K G (m + 13) = 101 ∧ mm_ln G (m + 13) = 12) ∧ (mm_R G m 17 = some (m + 14) ∧ mm_K G (m + 14) = 101 ∧ mm_ln G (m + 14) = 12) ∧ (mm_R G m 18 = some (m + 15) ∧ mm_K G (m + 15) = 101 ∧ mm_ln G (m + 15) = 12) ∧ (mm_R G m 19 = some (m + 16) ∧ mm_K G (m + 16) = 101 ∧ mm_ln G (m + 16) = 144) ∧ (mm_R G m 20 = some (m + 17) ∧ mm_K G (m + 17) = 101 ∧ mm_ln G (m + 17) = 144) ∧ (mm_R G m 21 = some (m + 18) ∧ mm_K G (m + 18) = 101 ∧ mm_ln G (m + 18) = 144) ∧ (mm_R G m 22 = some (m + 19) ∧ mm_K G (m + 19) = 101 ∧ mm_ln G (m + 19) = 12) ∧ (mm_R G m 23 = some (m + 20) ∧ mm_K G (m + 20) = 101 ∧ mm_ln G (m + 20) = 144) ∧ (mm_R G m 25 = some (m + 21) ∧ mm_K G (m + 21) = 101 ∧ mm_ln G (m + 21) = 288) ∧ (mm_R G m 26 = some (m + 22) ∧ mm_K G (m + 22) = 101 ∧ mm_ln G (m + 22) = 12)
section REF
variable {α : Type} {G : mm_M} {J : Nat → Nat → Int32} {m : Nat}
theorem gr_id {f : Option Nat → Option α} (h : sM G m) : q_gR (mm_w G J) m 8 4 f = f (some (m + 1)) := by rw [w_gR h.1, h.2.1.1]
theorem ai_id {x : Int32} {i : Nat} {f : Int32 → Option α} (h : sM G m) (hx : x.toInt = (i : Int)) (hi : i < 12) : q_aI (mm_w G J) (m + 1) 101 x f = f (J (m + 1) i) := w_aI h.2.1.2.1 hx (by rw [h.2.1.2.2]; exact hi)
theorem si_id {x v : Int32} {i : Nat} {f : mm_M → Option α} (h : sM G m) (hx : x.toInt = (i : Int)) (hi : i < 12) : q_sI (mm_w G J) (m + 1) 101 x v f = f (mm_w G (js J (m + 1) i v)) := w_sI h.2.1.2.1 hx (by rw [h.2.1.2.2]; exact hi)
theorem gr_up {f : Option Nat → Option α} (h : sM G m) : q_gR (mm_w G J) m 8 5 f = f (some (m + 2)) := by rw [w_gR h.1, h.2.2.1.1]
theorem ai_up {x : Int32} {i : Nat} {f : Int32 → Option α} (h : sM G m) (hx : x.toInt = (i : Int)) (hi : i < 12) : q_aI (mm_w G J) (m + 2) 102 x f = f (J (m + 2) i) := w_aI h.2.2.1.2.1 hx (by rw [h.2.2.1.2.2]; exact hi)
theorem si_up {x v : Int32} {i : Nat} {f : mm_M → Option α} (h : sM G m) (hx : x.toInt = (i : Int)) (hi : i < 12) (hv : v = 0 ∨ v = 1) : q_sZ (mm_w G J) (m + 2) 102 x v f = f (mm_w G (js J (m + 2) i v)) := w_sZ h.2.2.1.2.1 hx (by rw [h.2.2.1.2.2]; exact hi) hv
theorem gr_member {f : Option Nat → Option α} (h : sM G m) : q_gR (mm_w G J) m 8 6 f = f (some (m + 3)) := by rw [w_gR h.1, h.2.2.2.1.1]
theorem ai_member {x : Int32} {i : Nat} {f : Int32 → Option α} (h : sM G m) (hx : x.toInt = (i : Int)) (hi : i < 144) : q_aI (mm_w G J) (m + 3) 102 x f = f (J (m + 3) i) := w_aI h.2.2.2.1.2.1 hx (by rw [h.2.2.2.1.2.2]; exact hi)
theorem si_member {x v : Int32} {i : Nat} {f : mm_M → Option α} (h : sM G m) (hx : x.toInt = (i : Int)) (hi : i < 144) (hv : v = 0 ∨ v = 1) : q_sZ (mm_w G J) (m + 3) 102 x v f = f (mm_w G (js J (m + 3) i v)) := w_sZ h.2.2.2.1.2.1 hx (by rw [h.2.2.2.1.2.2]; exact hi) hv
theorem gr_stamp {f : Option Nat → Option α} (h : sM G m) : q_gR (mm_w G J) m 8 7 f = f (some (m + 4)) := by rw [w_gR h.1, h.2.2.2.2.1.1]
theorem ai_stamp {x : Int32} {i : Nat} {f : Int32 → Option α} (h : sM G m) (hx : x.toInt = (i : Int)) (hi : i < 144) : q_aI (mm_w G J) (m + 4) 101 x f = f (J (m + 4) i) := w_aI h.2.2.2.2.1.2.1 hx (by rw [h.2.2.2.2.1.2.2]; exact hi)
theorem si_stamp {x v : Int32} {i : Nat} {f : mm_M → Option α} (h : sM G m) (hx : x.toInt = (i : Int)) (hi : i < 144) : q_sI (mm_w G J) (m + 4) 101 x v f = f (mm_w G (js J (m + 4) i v)) := w_sI h.2.2.2.2.1.2.1 hx (by rw [h.2.2.2.2.1.2.2]; exact hi)
theorem gr_misses {f : Option Nat → Option α} (h : sM G m) : q_gR (mm_w G J) m 8 8 f = f (some (m + 5)) := by rw [w_gR h.1, h.2.2.2.2.2.1.1]
theorem ai_misses {x : Int32} {i : Nat} {f : Int32 → Option α} (h : sM G m) (hx : x.toInt = (i : Int)) (hi : i < 144) : q_aI (mm_w G J) (m + 5) 101 x f = f (J (m + 5) i) := w_aI h.2.2.2.2.2.1.2.1 hx (by rw [h.2.2.2.2.2.1.2.2]; exact hi)
theorem si_misses {x v : Int32} {i : Nat} {f : mm_M → Option α} (h : sM G m) (hx : x.toInt = (i : Int)) (hi : i < 144) : q_sI (mm_w G J) (m + 5) 101 x v f = f (mm_w G (js J (m + 5) i v)) := w_sI h.2.2.2.2.2.1.2.1 hx (by rw [h.2.2.2.2.2.1.2.2]; exact hi)
theorem gr_splits {f : Option Nat → Option α} (h : sM G m) : q_gR (mm_w G J) m 8 9 f = f (some (m + 6)) := by rw [w_gR h.1, h.2.2.2.2.2.2.1.1]
theorem ai_splits {x : Int32} {i : Nat} {f : Int32 → Option α} (h : sM G m) (hx : x.toInt = (i : Int)) (hi : i < 12) : q_aI (mm_w G J) (m + 6) 101 x f = f (J (m + 6) i) := w_aI h.2.2.2.2.2.2.1.2.1 hx (by rw [h.2.2.2.2.2.2.1.2.2]; exact hi)
theorem si_splits {x v : Int32} {i : Nat} {f : mm_M → Option α} (h : sM G m) (hx : x.toInt = (i : Int)) (hi : i < 12) : q_sI (mm_w G J) (m + 6) 101 x v f = f (mm_w G (js J (m + 6) i v)) := w_sI h.2.2.2.2.2.2.1.2.1 hx (by rw [h.2.2.2.2.2.2.1.2.2]; exact hi)
theorem gr_touched {f : Option Nat → Option α} (h : sM G m) : q_gR (mm_w G J) m 8 10 f = f (some (m + 7)) := by rw [w_gR h.1, h.2.2.2.2.2.2.2.1.1]
theorem ai_touched {x : Int32} {i : Nat} {f : Int32 → Option α} (h : sM G m) (hx : x.toInt = (i : Int)) (hi : i < 108) : q_aI (mm_w G J) (m + 7) 101 x f = f (J (m + 7) i) := w_aI h.2.2.2.2.2.2.2.1.2.1 hx (by rw [h.2.2.2.2.2.2.2.1.2.2]; exact hi)
theorem si_touched {x v : Int32} {i : Nat} {f : mm_M → Option α} (h : sM G m) (hx : x.toInt = (i : Int)) (hi : i < 108) : q_sI (mm_w G J) (m + 7) 101 x v f = f (mm_w G (js J (m + 7) i v)) := w_sI h.2.2.2.2.2.2.2.1.2.1 hx (by rw [h.2.2.2.2.2.2.2.1.2.2]; exact hi)
theorem gr_entries {f : Option Nat → Option α} (h : sM G m) : q_gR (mm_w G J) m 8 11 f = f (some (m + 8)) := by rw [w_gR h.1, h.2.2.2.2.2.2.2.2.1.1]
theorem ai_entries {x : Int32} {i : Nat} {f : Int32 → Option α} (h : sM G m) (hx : x.toInt = (i : Int)) (hi : i < 12) : q_aI (mm_w G J) (m + 8) 101 x f = f (J (m + 8) i) := w_aI h.2.2.2.2.2.2.2.2.1.2.1 hx (by rw [h.2.2.2.2.2.2.2.2.1.2.2]; exact hi)
theorem si_entries {x v : Int32} {i : Nat} {f : mm_M → Option α} (h : sM G m) (hx : x.toInt = (i : Int)) (hi : i < 12) : q_sI (mm_w G J) (m + 8) 101 x v f = f (mm_w G (js J (m + 8) i v)) := w_sI h.2.2.2.2.2.2.2.2.1.2.1 hx (by rw [h.2.2.2.2.2.2.2.2.1.2.2]; exact hi)
theorem gr_key {f : Option Nat → Option α} (h : sM G m) : q_gR (mm_w G J) m 8 12 f = f (some (m + 9)) := by rw [w_gR h.1, h.2.2.2.2.2.2.2.2.2.1.1]
theorem ai_key {x : Int32} {i : Nat} {f : Int32 → Option α} (h : sM G m) (hx : x.toInt = (i : Int)) (hi : i < 72) : q_aI (mm_w G J) (m + 9) 101 x f = f (J (m + 9) i) := w_aI h.2.2.2.2.2.2.2.2.2.1.2.1 hx (by rw [h.2.2.2.2.2.2.2.2.2.1.2.2]; exact hi)
theorem si_key {x v : Int32} {i : Nat} {f : mm_M → Option α} (h : sM G m) (hx : x.toInt = (i : Int)) (hi : i < 72) : q_sI (mm_w G J) (m + 9) 101 x v f = f (mm_w G (js J (m + 9) i v)) := w_sI h.2.2.2.2.2.2.2.2.2.1.2.1 hx (by rw [h.2.2.2.2.2.2.2.2.2.1.2.2]; exact hi)
theorem gr_holder {f : Option Nat → Option α} (h : sM G m) : q_gR (mm_w G J) m 8 13 f = f (some (m + 10)) := by rw [w_gR h.1, h.2.2.2.2.2.2.2.2.2.2.1.1]
theorem ai_holder {x : Int32} {i : Nat} {f : Int32 → Option α} (h : sM G m) (hx : x.toInt = (i : Int)) (hi : i < 72) : q_aI (mm_w G J) (m + 10) 101 x f = f (J (m + 10) i) := w_aI h.2.2.2.2.2.2.2.2.2.2.1.2.1 hx (by rw [h.2.2.2.2.2.2.2.2.2.2.1.2.2]; exact hi)
theorem si_holder {x v : Int32} {i : Nat} {f : mm_M → Option α} (h : sM G m) (hx : x.toInt = (i : Int)) (hi : i < 72) : q_sI (mm_w G J) (m + 10) 101 x v f = f (mm_w G (js J (m + 10) i v)) := w_sI h.2.2.2.2.2.2.2.2.2.2.1.2.1 hx (by rw [h.2.2.2.2.2.2.2.2.2.2.1.2.2]; exact hi)
theorem gr_until {f : Option Nat → Option α} (h : sM G m) : q_gR (mm_w G J) m 8 14 f = f (some (m + 11)) := by rw [w_gR h.1, h.2.2.2.2.2.2.2.2.2.2.2.1.1]
theorem ai_until {x : Int32} {i : Nat} {f : Int32 → Option α} (h : sM G m) (hx : x.toInt = (i : Int)) (hi : i < 72) : q_aI (mm_w G J) (m + 11) 101 x f = f (J (m + 11) i) := w_aI h.2.2.2.2.2.2.2.2.2.2.2.1.2.1 hx (by rw [h.2.2.2.2.2.2.2.2.2.2.2.1.2.2]; exact hi)
theorem si_until {x v : Int32} {i : Nat} {f : mm_M → Option α} (h : sM G m) (hx : x.toInt = (i : Int)) (hi : i < 72) : q_sI (mm_w G J) (m + 11) 101 x v f = f (mm_w G (js J (m + 11) i v)) := w_sI h.2.2.2.2.2.2.2.2.2.2.2.1.2.1 hx (by rw [h.2.2.2.2.2.2.2.2.2.2.2.1.2.2]; exact hi)
theorem gr_going {f : Option Nat → Option α} (h : sM G m) : q_gR (mm_w G J) m 8 15 f = f (some (m + 12)) := by rw [w_gR h.1, h.2.2.2.2.2.2.2.2.2.2.2.2.1.1]
theorem ai_going {x : Int32} {i : Nat} {f : Int32 → Option α} (h : sM G m) (hx : x.toInt = (i : Int)) (hi : i < 12) : q_aI (mm_w G J) (m + 12) 101 x f = f (J (m + 12) i) := w_aI h.2.2.2.2.2.2.2.2.2.2.2.2.1.2.1 hx (by rw [h.2.2.2.2.2.2.2.2.2.2.2.2.1.2.2]; exact hi)
theorem si_going {x v : Int32} {i : Nat} {f : mm_M → Option α} (h : sM G m) (hx : x.toInt = (i : Int)) (hi : i < 12) : q_sI (mm_w G J) (m + 12) 101 x v f = f (mm_w G (js J (m + 12) i v)) := w_sI h.2.2.2.2.2.2.2.2.2.2.2.2.1.2.1 hx (by rw [h.2.2.2.2.2.2.2.2.2.2.2.2.1.2.2]; exact hi)
theorem gr_kind {f : Option Nat → Option α} (h : sM G m) : q_gR (mm_w G J) m 8 16 f = f (some (m + 13)) := by rw [w_gR h.1, h.2.2.2.2.2.2.2.2.2.2.2.2.2.1.1]
theorem ai_kind {x : Int32} {i : Nat} {f : Int32 → Option α} (h : sM G m) (hx : x.toInt = (i : Int)) (hi : i < 12) : q_aI (mm_w G J) (m + 13) 101 x f = f (J (m + 13) i) := w_aI h.2.2.2.2.2.2.2.2.2.2.2.2.2.1.2.1 hx (by rw [h.2.2.2.2.2.2.2.2.2.2.2.2.2.1.2.2]; exact hi)
theorem si_kind {x v : Int32} {i : Nat} {f : mm_M → Option α} (h : sM G m) (hx : x.toInt = (i : Int)) (hi : i < 12) : q_sI (mm_w G J) (m + 13) 101 x v f = f (mm_w G (js J (m + 13) i v)) := w_sI h.2.2.2.2.2.2.2.2.2.2.2.2.2.1.2.1 hx (by rw [h.2.2.2.2.2.2.2.2.2.2.2.2.2.1.2.2]; exact hi)
theorem gr_goal {f : Option Nat → Option α} (h : sM G m) : q_gR (mm_w G J) m 8 17 f = f (some (m + 14)) := by rw [w_gR h.1, h.2.2.2.2.2.2.2.2.2.2.2.2.2.2.1.1]
theorem ai_goal {x : Int32} {i : Nat} {f : Int32 → Option α} (h : sM G m) (hx : x.toInt = (i : Int)) (hi : i < 12) : q_aI (mm_w G J) (m + 14) 101 x f = f (J (m + 14) i) := w_aI h.2.2.2.2.2.2.2.2.2.2.2.2.2.2.1.2.1 hx (by rw [h.2.2.2.2.2.2.2.2.2.2.2.2.2.2.1.2.2]; exact hi)
theorem si_goal {x v : Int32} {i : Nat} {f : mm_M → Option α} (h : sM G m) (hx : x.toInt = (i : Int)) (hi : i < 12) : q_sI (mm_w G J) (m + 14) 101 x v f = f (mm_w G (js J (m + 14) i v)) := w_sI h.2.2.2.2.2.2.2.2.2.2.2.2.2.2.1.2.1 hx (by rw [h.2.2.2.2.2.2.2.2.2.2.2.2.2.2.1.2.2]; exact hi)
theorem gr_serial {f : Option Nat → Option α} (h : sM G m) : q_gR (mm_w G J) m 8 18 f = f (some (m + 15)) := by rw [w_gR h.1, h.2.2.2.2.2.2.2.2.2.2.2.2.2.2.2.1.1]
theorem ai_serial {x : Int32} {i : Nat} {f : Int32 → Option α} (h : sM G m) (hx : x.toInt = (i : Int)) (hi : i < 12) : q_aI (mm_w G J) (m + 15) 101 x f = f (J (m + 15) i) := w_aI h.2.2.2.2.2.2.2.2.2.2.2.2.2.2.2.1.2.1 hx (by rw [h.2.2.2.2.2.2.2.2.2.2.2.2.2.2.2.1.2.2]; exact hi)
theorem si_serial {x v : Int32} {i : Nat} {f : mm_M → Option α} (h : sM G m) (hx : x.toInt = (i : Int)) (hi : i < 12) : q_sI (mm_w G J) (m + 15) 101 x v f = f (mm_w G (js J (m + 15) i v)) := w_sI h.2.2.2.2.2.2.2.2.2.2.2.2.2.2.2.1.2.1 hx (by rw [h.2.2.2.2.2.2.2.2.2.2.2.2.2.2.2.1.2.2]; exact hi)
theorem gr_state {f : Option Nat → Option α} (h : sM G m) : q_gR (mm_w G J) m 8 19 f = f (some (m + 16)) := by rw [w_gR h.1, h.2.2.2.2.2.2.2.2.2.2.2.2.2.2.2.2.1.1]
theorem ai_state {x : Int32} {i : Nat} {f : Int32 → Option α} (h : sM G m) (hx : x.toInt = (i : Int)) (hi : i < 144) : q_aI (mm_w G J) (m + 16) 101 x f = f (J (m + 16) i) := w_aI h.2.2.2.2.2.2.2.2.2.2.2.2.2.2.2.2.1.2.1 hx (by rw [h.2.2.2.2.2.2.2.2.2.2.2.2.2.2.2.2.1.2.2]; exact hi)
theorem si_state {x v : Int32} {i : Nat} {f : mm_M → Option α} (h : sM G m) (hx : x.toInt = (i : Int)) (hi : i < 144) : q_sI (mm_w G J) (m + 16) 101 x v f = f (mm_w G (js J (m + 16) i v)) := w_sI h.2.2.2.2.2.2.2.2.2.2.2.2.2.2.2.2.1.2.1 hx (by rw [h.2.2.2.2.2.2.2.2.2.2.2.2.2.2.2.2.1.2.2]; exact hi)
theorem gr_asked {f : Option Nat → Option α} (h : sM G m) : q_gR (mm_w G J) m 8 20 f = f (some (m + 17)) := by rw [w_gR h.1, h.2.2.2.2.2.2.2.2.2.2.2.2.2.2.2.2.2.1.1]
theorem ai_asked {x : Int32} {i : Nat} {f : Int32 → Option α} (h : sM G m) (hx : x.toInt = (i : Int)) (hi : i < 144) : q_aI (mm_w G J) (m + 17) 101 x f = f (J (m + 17) i) := w_aI h.2.2.2.2.2.2.2.2.2.2.2.2.2.2.2.2.2.1.2.1 hx (by rw [h.2.2.2.2.2.2.2.2.2.2.2.2.2.2.2.2.2.1.2.2]; exact hi)
theorem si_asked {x v : Int32} {i : Nat} {f : mm_M → Option α} (h : sM G m) (hx : x.toInt = (i : Int)) (hi : i < 144) : q_sI (mm_w G J) (m + 17) 101 x v f = f (mm_w G (js J (m + 17) i v)) := w_sI h.2.2.2.2.2.2.2.2.2.2.2.2.2.2.2.2.2.1.2.1 hx (by rw [h.2.2.2.2.2.2.2.2.2.2.2.2.2.2.2.2.2.1.2.2]; exact hi)
theorem gr_token {f : Option Nat → Option α} (h : sM G m) : q_gR (mm_w G J) m 8 21 f = f (some (m + 18)) := by rw [w_gR h.1, h.2.2.2.2.2.2.2.2.2.2.2.2.2.2.2.2.2.2.1.1]
theorem ai_token {x : Int32} {i : Nat} {f : Int32 → Option α} (h : sM G m) (hx : x.toInt = (i : Int)) (hi : i < 144) : q_aI (mm_w G J) (m + 18) 101 x f = f (J (m + 18) i) := w_aI h.2.2.2.2.2.2.2.2.2.2.2.2.2.2.2.2.2.2.1.2.1 hx (by rw [h.2.2.2.2.2.2.2.2.2.2.2.2.2.2.2.2.2.2.1.2.2]; exact hi)
theorem si_token {x v : Int32} {i : Nat} {f : mm_M → Option α} (h : sM G m) (hx : x.toInt = (i : Int)) (hi : i < 144) : q_sI (mm_w G J) (m + 18) 101 x v f = f (mm_w G (js J (m + 18) i v)) := w_sI h.2.2.2.2.2.2.2.2.2.2.2.2.2.2.2.2.2.2.1.2.1 hx (by rw [h.2.2.2.2.2.2.2.2.2.2.2.2.2.2.2.2.2.2.1.2.2]; exact hi)
theorem gr_founds {f : Option Nat → Option α} (h : sM G m) : q_gR (mm_w G J) m 8 22 f = f (some (m + 19)) := by rw [w_gR h.1, h.2.2.2.2.2.2.2.2.2.2.2.2.2.2.2.2.2.2.2.1.1]
theorem ai_founds {x : Int32} {i : Nat} {f : Int32 → Option α} (h : sM G m) (hx : x.toInt = (i : Int)) (hi : i < 12) : q_aI (mm_w G J) (m + 19) 101 x f = f (J (m + 19) i) := w_aI h.2.2.2.2.2.2.2.2.2.2.2.2.2.2.2.2.2.2.2.1.2.1 hx (by rw [h.2.2.2.2.2.2.2.2.2.2.2.2.2.2.2.2.2.2.2.1.2.2]; exact hi)
theorem si_founds {x v : Int32} {i : Nat} {f : mm_M → Option α} (h : sM G m) (hx : x.toInt = (i : Int)) (hi : i < 12) : q_sI (mm_w G J) (m + 19) 101 x v f = f (mm_w G (js J (m + 19) i v)) := w_sI h.2.2.2.2.2.2.2.2.2.2.2.2.2.2.2.2.2.2.2.1.2.1 hx (by rw [h.2.2.2.2.2.2.2.2.2.2.2.2.2.2.2.2.2.2.2.1.2.2]; exact hi)
theorem gr_find {f : Option Nat → Option α} (h : sM G m) : q_gR (mm_w G J) m 8 23 f = f (some (m + 20)) := by rw [w_gR h.1, h.2.2.2.2.2.2.2.2.2.2.2.2.2.2.2.2.2.2.2.2.1.1]
theorem ai_find {x : Int32} {i : Nat} {f : Int32 → Option α} (h : sM G m) (hx : x.toInt = (i : Int)) (hi : i < 144) : q_aI (mm_w G J) (m + 20) 101 x f = f (J (m + 20) i) := w_aI h.2.2.2.2.2.2.2.2.2.2.2.2.2.2.2.2.2.2.2.2.1.2.1 hx (by rw [h.2.2.2.2.2.2.2.2.2.2.2.2.2.2.2.2.2.2.2.2.1.2.2]; exact hi)
theorem si_find {x v : Int32} {i : Nat} {f : mm_M → Option α} (h : sM G m) (hx : x.toInt = (i : Int)) (hi : i < 144) : q_sI (mm_w G J) (m + 20) 101 x v f = f (mm_w G (js J (m + 20) i v)) := w_sI h.2.2.2.2.2.2.2.2.2.2.2.2.2.2.2.2.2.2.2.2.1.2.1 hx (by rw [h.2.2.2.2.2.2.2.2.2.2.2.2.2.2.2.2.2.2.2.2.1.2.2]; exact hi)
theorem gr_line {f : Option Nat → Option α} (h : sM G m) : q_gR (mm_w G J) m 8 25 f = f (some (m + 21)) := by rw [w_gR h.1, h.2.2.2.2.2.2.2.2.2.2.2.2.2.2.2.2.2.2.2.2.2.1.1]
theorem ai_line {x : Int32} {i : Nat} {f : Int32 → Option α} (h : sM G m) (hx : x.toInt = (i : Int)) (hi : i < 288) : q_aI (mm_w G J) (m + 21) 101 x f = f (J (m + 21) i) := w_aI h.2.2.2.2.2.2.2.2.2.2.2.2.2.2.2.2.2.2.2.2.2.1.2.1 hx (by rw [h.2.2.2.2.2.2.2.2.2.2.2.2.2.2.2.2.2.2.2.2.2.1.2.2]; exact hi)
theorem si_line {x v : Int32} {i : Nat} {f : mm_M → Option α} (h : sM G m) (hx : x.toInt = (i : Int)) (hi : i < 288) : q_sI (mm_w G J) (m + 21) 101 x v f = f (mm_w G (js J (m + 21) i v)) := w_sI h.2.2.2.2.2.2.2.2.2.2.2.2.2.2.2.2.2.2.2.2.2.1.2.1 hx (by rw [h.2.2.2.2.2.2.2.2.2.2.2.2.2.2.2.2.2.2.2.2.2.1.2.2]; exact hi)
theorem gr_now {f : Option Nat → Option α} (h : sM G m) : q_gR (mm_w G J) m 8 26 f = f (some (m + 22)) := by rw [w_gR h.1, h.2.2.2.2.2.2.2.2.2.2.2.2.2.2.2.2.2.2.2.2.2.2.1]
theorem ai_now {x : Int32} {i : Nat} {f : Int32 → Option α} (h : sM G m) (hx : x.toInt = (i : Int)) (hi : i < 12) : q_aI (mm_w G J) (m + 22) 101 x f = f (J (m + 22) i) := w_aI h.2.2.2.2.2.2.2.2.2.2.2.2.2.2.2.2.2.2.2.2.2.2.2.1 hx (by rw [h.2.2.2.2.2.2.2.2.2.2.2.2.2.2.2.2.2.2.2.2.2.2.2.2]; exact hi)
theorem si_now {x v : Int32} {i : Nat} {f : mm_M → Option α} (h : sM G m) (hx : x.toInt = (i : Int)) (hi : i < 12) : q_sI (mm_w G J) (m + 22) 101 x v f = f (mm_w G (js J (m + 22) i v)) := w_sI h.2.2.2.2.2.2.2.2.2.2.2.2.2.2.2.2.2.2.2.2.2.2.2.1 hx (by rw [h.2.2.2.2.2.2.2.2.2.2.2.2.2.2.2.2.2.2.2.2.2.2.2.2]; exact hi)
end REF
theorem zi_12i {x y : Int32} {i j : Nat} (hx : x.toInt = (i : Int)) (hy : y.toInt = (j : Int)) (hi : i < 12) (hj : j < 1000) : ((12 : Int32) * x + y).toInt = ((12 * i + j : Nat) : Int) := by
  rw [zi_add (x := ((12 * i : Nat) : Int)) (y := (j : Int)) (by rw [zi_mul zi_12 hx (by omega) (by omega)]; omega) hy (by omega) (by omega)]; omega
theorem zi_9i {x y : Int32} {i j : Nat} (hx : x.toInt = (i : Int)) (hy : y.toInt = (j : Int)) (hi : i < 12) (hj : j < 1000) : ((9 : Int32) * x + y).toInt = ((9 * i + j : Nat) : Int) := by
  rw [zi_add (x := ((9 * i : Nat) : Int)) (y := (j : Int)) (by rw [zi_mul zi_9 hx (by omega) (by omega)]; omega) hy (by omega) (by omega)]; omega
theorem zi_6i {x y : Int32} {i j : Nat} (hx : x.toInt = (i : Int)) (hy : y.toInt = (j : Int)) (hi : i < 12) (hj : j < 1000) : ((6 : Int32) * x + y).toInt = ((6 * i + j : Nat) : Int) := by
  rw [zi_add (x := ((6 * i : Nat) : Int)) (y := (j : Int)) (by rw [zi_mul zi_6 hx (by omega) (by omega)]; omega) hy (by omega) (by omega)]; omega
/-- the numbers in the order in which they enrolled -/
def rid (J : Nat → Nat → Int32) (m : Nat) (ids : List Nat) : Prop := (J m 3).toInt = (ids.length : Int) ∧ ids.length ≤ 12 ∧ ids.Nodup ∧ ∀ (j u : Nat), ids[j]? = some u → (J (m + 1) j).toInt = (u : Int) ∧ u < 256
def kn (ids : List Nat) (v : Int) : Option Nat := ids.findIdx? (fun (u : Nat) => decide ((u : Int) = v))
theorem r_known_l {G : mm_M} {J : Nat → Nat → Int32} {m N : Nat} {ids : List Nat} {x : Int32} {kx : mm_M → Option (mm_M × Int32)} (h : sM G m) (hi : rid J m ids) : ∀ (r n i : Nat) (y : Int32), y.toInt = (i : Int) → i + r = ids.length → r < n → pX7_known_2 N m kx n (mm_w G J) x y = match (ids.drop i).findIdx? (fun (u : Nat) => decide ((u : Int) = x.toInt)) with | some j => some (mm_w G J, Int32.ofNat (j + i)) | none => kx (mm_w G J) := by
  have h12 := hi.2.1
  intro r
  induction r with
  | zero =>
    intro n i y hy hir hn
    obtain ⟨n, rfl⟩ : ∃ m, n = m + 1 := ⟨n - 1, by omega⟩
    show pX7_known_2_b N m _ kx _ x y = _
    unfold pX7_known_2_b
    rw [w_gI h.1, if_pos (by rw [zi_le, hi.1, hy]; omega), List.drop_eq_nil_of_le (by omega)]
    rfl
  | succ r ih =>
    intro n i y hy hir hn
    obtain ⟨n, rfl⟩ : ∃ m, n = m + 1 := ⟨n - 1, by omega⟩
    have hlt : i < ids.length := by omega
    obtain ⟨u1, u2⟩ := hi.2.2.2 i _ (List.getElem?_eq_getElem hlt)
    show pX7_known_2_b N m _ kx _ x y = _
    unfold pX7_known_2_b
    rw [w_gI h.1, if_neg (by rw [zi_le, hi.1, hy]; omega), gr_id h, w_nn, ai_id h hy (by omega), List.drop_eq_getElem_cons hlt, List.findIdx?_cons]
    by_cases hx : (ids[i] : Int) = x.toInt
    · rw [if_pos (by rw [zi_eq, u1]; exact hx), if_pos (decide_eq_true hx)]
      simp only [Nat.zero_add]
      rw [zi_eqN hy (by omega)]
    · rw [if_neg (by rw [zi_eq, u1]; exact hx), if_neg (fun e => hx (of_decide_eq_true e)), ih n (i + 1) (y + 1) (zi_inc hy (by omega)) (by omega) (by omega)]
      cases (ids.drop (i + 1)).findIdx? (fun (u : Nat) => decide ((u : Int) = x.toInt)) with
      | none => rfl
      | some j => simp only [Option.map_some]; rw [show j + (i + 1) = j + 1 + i by omega]
theorem r_known {G : mm_M} {J : Nat → Nat → Int32} {m N : Nat} {ids : List Nat} {x : Int32} (h : sM G m) (hi : rid J m ids) (hN : 400 ≤ N) : pX7_known_0 N m (mm_w G J) x = some (mm_w G J, oI (kn ids x.toInt)) := by
  have h12 := hi.2.1
  unfold pX7_known_0 kn
  rw [r_known_l h hi ids.length N 0 0 zi_0 (by omega) (by omega), List.drop_zero]
  cases ids.findIdx? (fun (u : Nat) => decide ((u : Int) = x.toInt)) with
  | none => rfl
  | some j => rfl
theorem kn_some {ids : List Nat} {v : Int} {j : Nat} (h : kn ids v = some j) : j < ids.length ∧ ∃ u, ids[j]? = some u ∧ (u : Int) = v := by
  unfold kn at h
  obtain ⟨h1, h2, -⟩ := List.findIdx?_eq_some_iff_getElem.mp h
  exact ⟨h1, _, List.getElem?_eq_getElem h1, of_decide_eq_true h2⟩
theorem kn_none {ids : List Nat} {v : Int} (h : kn ids v = none) : ∀ u ∈ ids, (u : Int) ≠ v := fun u hu e => by
  unfold kn at h
  rw [List.findIdx?_eq_none_iff] at h
  have := h u hu
  simp [e] at this
theorem nodup_idx {l : List Nat} (h : l.Nodup) {i j u : Nat} (hi : l[i]? = some u) (hj : l[j]? = some u) : i = j := by
  have hi1 := (List.getElem?_eq_some_iff.mp hi)
  have hj1 := (List.getElem?_eq_some_iff.mp hj)
  obtain ⟨hi1, hi2⟩ := hi1
  obtain ⟨hj1, hj2⟩ := hj1
  refine Decidable.byContradiction fun hne => ?_
  have hp := List.pairwise_iff_getElem.mp h
  rcases Nat.lt_or_gt_of_ne hne with hlt | hlt
  · exact hp i j hi1 hj1 hlt (hi2.trans hj2.symm)
  · exact hp j i hj1 hi1 hlt (hj2.trans hi2.symm)
theorem kn_at {ids : List Nat} (hn : ids.Nodup) {j u : Nat} (h : ids[j]? = some u) : kn ids (u : Int) = some j := by
  cases hk : kn ids (u : Int) with
  | none => exact absurd rfl (kn_none hk u (List.mem_of_getElem? h))
  | some k =>
    obtain ⟨k1, v, k2, k3⟩ := kn_some hk
    have : v = u := by omega
    subst this
    rw [nodup_idx hn k2 h]
/-- who is up -/
def ri_up (J : Nat → Nat → Int32) (m : Nat) (up : Nat → Bool) : Prop := ∀ i, i < 12 → (J (m + 2) i).toInt = if up i = true then 1 else 0
def atI (ids : List Nat) (up : Nat → Bool) (v : Int) : Option Nat := match kn ids v with
  | some i => if up i = true then some i else none
  | none => none
theorem r_at {G : mm_M} {J : Nat → Nat → Int32} {m N : Nat} {ids : List Nat} {up : Nat → Bool} {x : Int32} (h : sM G m) (hi : rid J m ids) (hu : ri_up J m up) (hN : 400 ≤ N) : pX7_at_0 N m (mm_w G J) x = some (mm_w G J, oI (atI ids up x.toInt)) := by
  have h12 := hi.2.1
  unfold pX7_at_0 atI
  rw [w_is h.1, r_known h hi hN, w_cl]
  cases hk : kn ids x.toInt with
  | none => rw [if_pos (by rw [zi_lt, oI_none, zi_0]; decide)]; rfl
  | some j =>
    obtain ⟨k1, -⟩ := kn_some hk
    have hj := oI_some (n := j) (by omega)
    rw [if_neg (by rw [zi_lt, hj, zi_0]; omega), gr_up h, w_nn, ai_up h hj (by omega)]
    have := hu j (by omega)
    dsimp only
    cases hup : up j with
    | true => rw [hup] at this; rw [if_neg (by rw [zi_eq, this, zi_0]; decide)]; rfl
    | false => rw [hup] at this; rw [if_pos (by rw [zi_eq, this, zi_0]; decide)]; rfl
theorem r_number {N m : Nat} {G : mm_M} {x : Int32} : pX7_number_0 N m G x = some (G, if 0 ≤ x.toInt ∧ x.toInt < 256 then 1 else 0) := by
  unfold pX7_number_0
  by_cases h0 : x.toInt < 0
  · rw [if_pos (by rw [zi_lt, zi_0]; exact h0), if_neg (by omega)]
  · rw [if_neg (by rw [zi_lt, zi_0]; exact h0)]
    by_cases h1 : 255 < x.toInt
    · rw [if_pos (by rw [zi_lt, zi_255]; exact h1), if_neg (by omega)]
    · rw [if_neg (by rw [zi_lt, zi_255]; exact h1), if_pos (by omega)]
