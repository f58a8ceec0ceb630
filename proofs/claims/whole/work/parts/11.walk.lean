abbrev yX0_append : MethodName := ⟨"XorOverlay$Bucket", "append", "(II)V"⟩
abbrev rX0_append : Room := { frames := 0, cells := 0, slots := 0, locals := 0 }
theorem kX0_append : Cond.code yX0_append prog_2_method_6_code 3 none ∈ tw_T ∧ Cond.instanceMethod yX0_append ∈ tw_T ∧ Cond.selects "XorOverlay$Bucket" yX0_append yX0_append ∈ tw_T ∧ Cond.initialized "XorOverlay$Bucket" ∈ tw_T := ⟨(tw_2 28 rfl rfl), (tw_2 26 rfl rfl), (tw_2 27 rfl rfl), (tw_1 6 rfl rfl)⟩
theorem hX0_append : yX0_append.cls = "XorOverlay$Bucket" ∧ yX0_append.cls ≠ "java/lang/invoke/MethodHandle" ∧ yX0_append.cls ≠ "java/lang/invoke/VarHandle" ∧ (parseMethodDescriptor yX0_append.desc).map (fun d => d.parameters.length) = some 2 := by decide +kernel
theorem dX0_append_0 : decode prog_2_method_6_code 0 = .ok (.aload_n 0, 1) := by decide +kernel
theorem dX0_append_1 : decode prog_2_method_6_code 1 = .ok (.getfield 28, 3) := by decide +kernel
theorem dX0_append_4 : decode prog_2_method_6_code 4 = .ok (.iconst 3, 1) := by decide +kernel
theorem dX0_append_5 : decode prog_2_method_6_code 5 = .ok (.if_icmp .ge 33, 3) := by decide +kernel
theorem dX0_append_8 : decode prog_2_method_6_code 8 = .ok (.aload_n 0, 1) := by decide +kernel
theorem dX0_append_9 : decode prog_2_method_6_code 9 = .ok (.getfield 11, 3) := by decide +kernel
theorem dX0_append_12 : decode prog_2_method_6_code 12 = .ok (.aload_n 0, 1) := by decide +kernel
theorem dX0_append_13 : decode prog_2_method_6_code 13 = .ok (.getfield 28, 3) := by decide +kernel
theorem dX0_append_16 : decode prog_2_method_6_code 16 = .ok (.iload_n 1, 1) := by decide +kernel
theorem dX0_append_17 : decode prog_2_method_6_code 17 = .ok (.iastore, 1) := by decide +kernel
theorem dX0_append_18 : decode prog_2_method_6_code 18 = .ok (.aload_n 0, 1) := by decide +kernel
theorem dX0_append_19 : decode prog_2_method_6_code 19 = .ok (.getfield 15, 3) := by decide +kernel
theorem dX0_append_22 : decode prog_2_method_6_code 22 = .ok (.aload_n 0, 1) := by decide +kernel
theorem dX0_append_23 : decode prog_2_method_6_code 23 = .ok (.getfield 28, 3) := by decide +kernel
theorem dX0_append_26 : decode prog_2_method_6_code 26 = .ok (.iload_n 2, 1) := by decide +kernel
theorem dX0_append_27 : decode prog_2_method_6_code 27 = .ok (.iastore, 1) := by decide +kernel
theorem dX0_append_28 : decode prog_2_method_6_code 28 = .ok (.aload_n 0, 1) := by decide +kernel
theorem dX0_append_29 : decode prog_2_method_6_code 29 = .ok (.dup, 1) := by decide +kernel
theorem dX0_append_30 : decode prog_2_method_6_code 30 = .ok (.getfield 28, 3) := by decide +kernel
theorem dX0_append_33 : decode prog_2_method_6_code 33 = .ok (.iconst 1, 1) := by decide +kernel
theorem dX0_append_34 : decode prog_2_method_6_code 34 = .ok (.iadd, 1) := by decide +kernel
theorem dX0_append_35 : decode prog_2_method_6_code 35 = .ok (.putfield 28, 3) := by decide +kernel
theorem dX0_append_38 : decode prog_2_method_6_code 38 = .ok (.return_, 1) := by decide +kernel
def pX0_append_0 (N a0 : Nat) (G : mm_M) (x1 : Int32) (x2 : Int32) : Option (mm_M × Unit) :=
  q_gI G a0 1 5 fun v1_1 =>
  if (3 : Int32) ≤ v1_1 then
    some (G, ())
  else
    q_gR G a0 1 0 fun r9_2 =>
    q_gI G a0 1 5 fun v13_3 =>
    q_nn r9_2 fun b17_4 =>
    q_sI G b17_4 101 v13_3 x1 fun G =>
    q_gR G a0 1 1 fun r19_5 =>
    q_gI G a0 1 5 fun v23_6 =>
    q_nn r19_5 fun b27_7 =>
    q_sI G b27_7 101 v23_6 x2 fun G =>
    q_gI G a0 1 5 fun v30_8 =>
    q_pI G a0 1 5 (v30_8 + (1 : Int32)) fun G =>
    some (G, ())
set_option maxRecDepth 100000 in
set_option maxHeartbeats 4000000 in
theorem bX0_append_0 {p : Program} {l : Launch} {e : Env} {s : State} {m : MethodId} {args : Array Value} {below : List Frame} {meth : Method} {c : Code} {E : mm_E} {N a0 : Nat} {res : mm_M × Unit} (X : mm_X p s m args meth c prog_2_method_6_code 3 "XorOverlay$Bucket" tw_T E) (hr : meth.sig.returnType = none) {G : mm_M} {H : Heap} {locs : List Loc} {ls : Array Slot} {x1 : Int32} {x2 : Int32} (V : mm_V E s G H locs) (hl : lx_has ls 3 [(0, .inr (some a0)), (1, .inl x1), (2, .inl x2)]) (hp : pX0_append_0 N a0 G x1 x2 = some res) : W p l e rX0_append s m args below meth c H locs 0 0 (MQ below (mm_Qv E res.1) args s 0 0 (mm_A E)) (F0 m 0 ls []) := by
  have hx := X.1.1
  have hb := X.1.2.1
  unfold pX0_append_0 at hp
  refine x_aload_n X dX0_append_0 hl 0 rfl rfl ?_
  refine q_getI (ci := 0) X V inX0 rfl (by decide) rfl 5 (by decide) rfl (tw_1 109 rfl rfl) rfl dX0_append_1 hp (fun v1_1 hp => ?_)
  refine lv_iconst (v := (3 : Int32)) hx hb dX0_append_4 (by decide) ?_
  refine q_if hp (lv_icmp_ge (tgt := 38) hx hb dX0_append_5 (by decide)) (fun hp => ?_) (fun hp => ?_)
  · exact q_vret X V hr ⟨by decide, by decide⟩ dX0_append_38 hp
  · refine x_aload_n X dX0_append_8 hl 0 rfl rfl ?_
    refine q_getR (ci := 0) X V inX0 rfl (by decide) rfl 0 (by decide) rfl (tw_1 95 rfl rfl) rfl dX0_append_9 hp (fun r9_2 hp => ?_)
    refine x_aload_n X dX0_append_12 hl 0 rfl rfl ?_
    refine q_getI (ci := 0) X V inX0 rfl (by decide) rfl 5 (by decide) rfl (tw_1 109 rfl rfl) rfl dX0_append_13 hp (fun v13_3 hp => ?_)
    refine x_iload_n X dX0_append_16 hl 1 rfl rfl ?_
    obtain ⟨b17_4, e0, hp2⟩ := q_nn_of hp
    clear hp; subst e0; have hp := hp2; clear hp2
    refine q_iast X V dX0_append_17 hp (fun G H locs V hp => ?_)
    refine x_aload_n X dX0_append_18 hl 0 rfl rfl ?_
    refine q_getR (ci := 0) X V inX0 rfl (by decide) rfl 1 (by decide) rfl (tw_1 98 rfl rfl) rfl dX0_append_19 hp (fun r19_5 hp => ?_)
    refine x_aload_n X dX0_append_22 hl 0 rfl rfl ?_
    refine q_getI (ci := 0) X V inX0 rfl (by decide) rfl 5 (by decide) rfl (tw_1 109 rfl rfl) rfl dX0_append_23 hp (fun v23_6 hp => ?_)
    refine x_iload_n X dX0_append_26 hl 2 rfl rfl ?_
    obtain ⟨b27_7, e0, hp2⟩ := q_nn_of hp
    clear hp; subst e0; have hp := hp2; clear hp2
    refine q_iast X V dX0_append_27 hp (fun G H locs V hp => ?_)
    refine x_aload_n X dX0_append_28 hl 0 rfl rfl ?_
    refine lv_dup hx hb dX0_append_29 (va_rf_cat _) ?_
    refine q_getI (ci := 0) X V inX0 rfl (by decide) rfl 5 (by decide) rfl (tw_1 109 rfl rfl) rfl dX0_append_30 hp (fun v30_8 hp => ?_)
    refine lv_iconst (v := (1 : Int32)) hx hb dX0_append_33 (by decide) ?_
    refine lv_iadd hx hb dX0_append_34 ?_
    refine q_putI (ci := 0) X V inX0 rfl tyX0 tyX0_ok nmX0 (by decide) rfl 5 (by decide) rfl (tw_1 109 rfl rfl) rfl (Or.inl rfl) .int rfl rfl rfl dX0_append_35 hp (fun G H locs V hp => ?_)
    exact q_vret X V hr ⟨by decide, by decide⟩ dX0_append_38 hp
theorem cX0_append (l : Launch) (E : mm_E) {N a0 : Nat} {G : mm_M} {x1 : Int32} {x2 : Int32} {res : mm_M × Unit} (hp : pX0_append_0 N a0 G x1 x2 = some res) : Met l yX0_append (Cond.code yX0_append prog_2_method_6_code 3 none :: tw_T) rX0_append (mm_Pc E G [.ref a0, .int x1, .int x2]) (mm_Qv E res.1) 0 0 (mm_A E) :=
  mm_met (own := "XorOverlay$Bucket") E G [.inr (some a0), .inl x1, .inl x2] (by decide) rfl rfl (Nat.le_of_ble_eq_true rfl) (fun p e s m args below meth c ls X hr hi V hl => bX0_append_0 X hr V hl hp)
abbrev yX0_isFull : MethodName := ⟨"XorOverlay$Bucket", "isFull", "()Z"⟩
abbrev rX0_isFull : Room := { frames := 0, cells := 0, slots := 0, locals := 0 }
theorem kX0_isFull : Cond.code yX0_isFull prog_2_method_4_code 1 (Option.some .boolean) ∈ tw_T ∧ Cond.instanceMethod yX0_isFull ∈ tw_T ∧ Cond.selects "XorOverlay$Bucket" yX0_isFull yX0_isFull ∈ tw_T ∧ Cond.initialized "XorOverlay$Bucket" ∈ tw_T := ⟨(tw_2 36 rfl rfl), (tw_2 34 rfl rfl), (tw_2 35 rfl rfl), (tw_1 6 rfl rfl)⟩
theorem hX0_isFull : yX0_isFull.cls = "XorOverlay$Bucket" ∧ yX0_isFull.cls ≠ "java/lang/invoke/MethodHandle" ∧ yX0_isFull.cls ≠ "java/lang/invoke/VarHandle" ∧ (parseMethodDescriptor yX0_isFull.desc).map (fun d => d.parameters.length) = some 0 := by decide +kernel
theorem dX0_isFull_0 : decode prog_2_method_4_code 0 = .ok (.aload_n 0, 1) := by decide +kernel
theorem dX0_isFull_1 : decode prog_2_method_4_code 1 = .ok (.getfield 28, 3) := by decide +kernel
theorem dX0_isFull_4 : decode prog_2_method_4_code 4 = .ok (.iconst 3, 1) := by decide +kernel
theorem dX0_isFull_5 : decode prog_2_method_4_code 5 = .ok (.if_icmp .lt 7, 3) := by decide +kernel
theorem dX0_isFull_8 : decode prog_2_method_4_code 8 = .ok (.iconst 1, 1) := by decide +kernel
theorem dX0_isFull_9 : decode prog_2_method_4_code 9 = .ok (.goto 4, 3) := by decide +kernel
theorem dX0_isFull_12 : decode prog_2_method_4_code 12 = .ok (.iconst 0, 1) := by decide +kernel
theorem dX0_isFull_13 : decode prog_2_method_4_code 13 = .ok (.ireturn, 1) := by decide +kernel
def pX0_isFull_0 (N a0 : Nat) (G : mm_M) : Option (mm_M × Int32) :=
  q_gI G a0 1 5 fun v1_1 =>
  if v1_1 < (3 : Int32) then
    some (G, (0 : Int32))
  else
    some (G, (1 : Int32))
set_option maxRecDepth 100000 in
set_option maxHeartbeats 4000000 in
theorem bX0_isFull_0 {p : Program} {l : Launch} {e : Env} {s : State} {m : MethodId} {args : Array Value} {below : List Frame} {meth : Method} {c : Code} {E : mm_E} {N a0 : Nat} {res : mm_M × Int32} (X : mm_X p s m args meth c prog_2_method_4_code 1 "XorOverlay$Bucket" tw_T E) (hr : meth.sig.returnType = (Option.some .boolean)) {G : mm_M} {H : Heap} {locs : List Loc} {ls : Array Slot} (V : mm_V E s G H locs) (hl : lx_has ls 1 [(0, .inr (some a0))]) (hp : pX0_isFull_0 N a0 G = some res) : W p l e rX0_isFull s m args below meth c H locs 0 0 (MQ below (mm_Qi E res.1 res.2) args s 0 0 (mm_A E)) (F0 m 0 ls []) := by
  have hx := X.1.1
  have hb := X.1.2.1
  unfold pX0_isFull_0 at hp
  refine x_aload_n X dX0_isFull_0 hl 0 rfl rfl ?_
  refine q_getI (ci := 0) X V inX0 rfl (by decide) rfl 5 (by decide) rfl (tw_1 109 rfl rfl) rfl dX0_isFull_1 hp (fun v1_1 hp => ?_)
  refine lv_iconst (v := (3 : Int32)) hx hb dX0_isFull_4 (by decide) ?_
  refine q_if hp (lv_icmp_lt (tgt := 12) hx hb dX0_isFull_5 (by decide)) (fun hp => ?_) (fun hp => ?_)
  · refine lv_iconst (v := (0 : Int32)) hx hb dX0_isFull_12 (by decide) ?_
    exact q_zret X V hr rfl ⟨by decide, by decide⟩ dX0_isFull_13 hp
  · refine lv_iconst (v := (1 : Int32)) hx hb dX0_isFull_8 (by decide) ?_
    refine lv_goto (tgt := 13) hx hb dX0_isFull_9 (by decide) ?_
    exact q_zret X V hr rfl ⟨by decide, by decide⟩ dX0_isFull_13 hp
theorem cX0_isFull (l : Launch) (E : mm_E) {N a0 : Nat} {G : mm_M} {res : mm_M × Int32} (hp : pX0_isFull_0 N a0 G = some res) : Met l yX0_isFull (Cond.code yX0_isFull prog_2_method_4_code 1 (Option.some .boolean) :: tw_T) rX0_isFull (mm_Pc E G [.ref a0]) (mm_Qi E res.1 res.2) 0 0 (mm_A E) :=
  mm_met (own := "XorOverlay$Bucket") E G [.inr (some a0)] (by decide) rfl rfl (Nat.le_of_ble_eq_true rfl) (fun p e s m args below meth c ls X hr hi V hl => bX0_isFull_0 X hr V hl hp)
abbrev yX0_mustSplitFor : MethodName := ⟨"XorOverlay$Bucket", "mustSplitFor", "(I)Z"⟩
abbrev rX0_mustSplitFor : Room := { frames := 1, cells := 0, slots := 0, locals := 20 }
theorem kX0_mustSplitFor : Cond.code yX0_mustSplitFor prog_2_method_3_code 2 (Option.some .boolean) ∈ tw_T ∧ Cond.instanceMethod yX0_mustSplitFor ∈ tw_T ∧ Cond.selects "XorOverlay$Bucket" yX0_mustSplitFor yX0_mustSplitFor ∈ tw_T ∧ Cond.initialized "XorOverlay$Bucket" ∈ tw_T := ⟨(tw_2 32 rfl rfl), (tw_2 30 rfl rfl), (tw_2 31 rfl rfl), (tw_1 6 rfl rfl)⟩
theorem hX0_mustSplitFor : yX0_mustSplitFor.cls = "XorOverlay$Bucket" ∧ yX0_mustSplitFor.cls ≠ "java/lang/invoke/MethodHandle" ∧ yX0_mustSplitFor.cls ≠ "java/lang/invoke/VarHandle" ∧ (parseMethodDescriptor yX0_mustSplitFor.desc).map (fun d => d.parameters.length) = some 1 := by decide +kernel
theorem dX0_mustSplitFor_0 : decode prog_2_method_3_code 0 = .ok (.aload_n 0, 1) := by decide +kernel
theorem dX0_mustSplitFor_1 : decode prog_2_method_3_code 1 = .ok (.invokevirtual 31, 3) := by decide +kernel
theorem dX0_mustSplitFor_4 : decode prog_2_method_3_code 4 = .ok (.ifCond .eq 28, 3) := by decide +kernel
theorem dX0_mustSplitFor_7 : decode prog_2_method_3_code 7 = .ok (.iload_n 1, 1) := by decide +kernel
theorem dX0_mustSplitFor_8 : decode prog_2_method_3_code 8 = .ok (.aload_n 0, 1) := by decide +kernel
theorem dX0_mustSplitFor_9 : decode prog_2_method_3_code 9 = .ok (.getfield 18, 3) := by decide +kernel
theorem dX0_mustSplitFor_12 : decode prog_2_method_3_code 12 = .ok (.if_icmp .lt 20, 3) := by decide +kernel
theorem dX0_mustSplitFor_15 : decode prog_2_method_3_code 15 = .ok (.iload_n 1, 1) := by decide +kernel
theorem dX0_mustSplitFor_16 : decode prog_2_method_3_code 16 = .ok (.aload_n 0, 1) := by decide +kernel
theorem dX0_mustSplitFor_17 : decode prog_2_method_3_code 17 = .ok (.getfield 18, 3) := by decide +kernel
theorem dX0_mustSplitFor_20 : decode prog_2_method_3_code 20 = .ok (.aload_n 0, 1) := by decide +kernel
theorem dX0_mustSplitFor_21 : decode prog_2_method_3_code 21 = .ok (.getfield 22, 3) := by decide +kernel
theorem dX0_mustSplitFor_24 : decode prog_2_method_3_code 24 = .ok (.iadd, 1) := by decide +kernel
theorem dX0_mustSplitFor_25 : decode prog_2_method_3_code 25 = .ok (.if_icmp .ge 7, 3) := by decide +kernel
theorem dX0_mustSplitFor_28 : decode prog_2_method_3_code 28 = .ok (.iconst 1, 1) := by decide +kernel
theorem dX0_mustSplitFor_29 : decode prog_2_method_3_code 29 = .ok (.goto 4, 3) := by decide +kernel
theorem dX0_mustSplitFor_32 : decode prog_2_method_3_code 32 = .ok (.iconst 0, 1) := by decide +kernel
theorem dX0_mustSplitFor_33 : decode prog_2_method_3_code 33 = .ok (.ireturn, 1) := by decide +kernel
def pX0_mustSplitFor_0 (N a0 : Nat) (G : mm_M) (x1 : Int32) : Option (mm_M × Int32) :=
  q_is G a0 1 <|
  q_cl (pX0_isFull_0 N a0 G) fun G v1_2 =>
  if v1_2 = 0 then
    some (G, (0 : Int32))
  else
    q_gI G a0 1 2 fun v9_3 =>
    if x1 < v9_3 then
      some (G, (0 : Int32))
    else
      q_gI G a0 1 2 fun v17_4 =>
      q_gI G a0 1 3 fun v21_5 =>
      if (v17_4 + v21_5) ≤ x1 then
        some (G, (0 : Int32))
      else
        some (G, (1 : Int32))
set_option maxRecDepth 100000 in
set_option maxHeartbeats 4000000 in
theorem bX0_mustSplitFor_0 {p : Program} {l : Launch} {e : Env} {s : State} {m : MethodId} {args : Array Value} {below : List Frame} {meth : Method} {c : Code} {E : mm_E} {N a0 : Nat} {res : mm_M × Int32} (X : mm_X p s m args meth c prog_2_method_3_code 2 "XorOverlay$Bucket" tw_T E) (hr : meth.sig.returnType = (Option.some .boolean)) {G : mm_M} {H : Heap} {locs : List Loc} {ls : Array Slot} {x1 : Int32} (V : mm_V E s G H locs) (hl : lx_has ls 2 [(0, .inr (some a0)), (1, .inl x1)]) (hp : pX0_mustSplitFor_0 N a0 G x1 = some res) : W p l e rX0_mustSplitFor s m args below meth c H locs 0 0 (MQ below (mm_Qi E res.1 res.2) args s 0 0 (mm_A E)) (F0 m 0 ls []) := by
  have hx := X.1.1
  have hb := X.1.2.1
  unfold pX0_mustSplitFor_0 at hp
  refine x_aload_n X dX0_mustSplitFor_0 hl 0 rfl rfl ?_
  obtain ⟨hk, hp⟩ := q_is_of hp
  obtain ⟨⟨G, v1_2⟩, hq, hp⟩ := q_cl_of hp
  dsimp only at hp
  refine q_goi (cells' := 0) (slots' := 0) (va_runV (As := []) (rest := []) X.1 (cX0_isFull l E hq) (tw_cwV 0 X.1.2.2.2.2 (tw_2 33 rfl rfl) kX0_isFull.2.1 kX0_isFull.2.2.1 kX0_isFull.2.2.2 kX0_isFull.1 rfl rfl hX0_isFull ⟨Nat.le_of_ble_eq_true rfl, Nat.le_of_ble_eq_true rfl⟩) (mm_preV X V rfl (by decide) rfl hk) rfl rfl hl.1 rfl (lv_room (Nat.le_of_ble_eq_true rfl)) dX0_mustSplitFor_1 ⟨by decide, by decide⟩) V ⟨rfl, rfl⟩ (fun H locs V => ?_)
  refine q_if hp (lv_if_eq (tgt := 32) hx hb dX0_mustSplitFor_4 (by decide)) (fun hp => ?_) (fun hp => ?_)
  · refine lv_iconst (v := (0 : Int32)) hx hb dX0_mustSplitFor_32 (by decide) ?_
    exact q_zret X V hr rfl ⟨by decide, by decide⟩ dX0_mustSplitFor_33 hp
  · refine x_iload_n X dX0_mustSplitFor_7 hl 1 rfl rfl ?_
    refine x_aload_n X dX0_mustSplitFor_8 hl 0 rfl rfl ?_
    refine q_getI (ci := 0) X V inX0 rfl (by decide) rfl 2 (by decide) rfl (tw_1 101 rfl rfl) rfl dX0_mustSplitFor_9 hp (fun v9_3 hp => ?_)
    refine q_if hp (lv_icmp_lt (tgt := 32) hx hb dX0_mustSplitFor_12 (by decide)) (fun hp => ?_) (fun hp => ?_)
    · refine lv_iconst (v := (0 : Int32)) hx hb dX0_mustSplitFor_32 (by decide) ?_
      exact q_zret X V hr rfl ⟨by decide, by decide⟩ dX0_mustSplitFor_33 hp
    · refine x_iload_n X dX0_mustSplitFor_15 hl 1 rfl rfl ?_
      refine x_aload_n X dX0_mustSplitFor_16 hl 0 rfl rfl ?_
      refine q_getI (ci := 0) X V inX0 rfl (by decide) rfl 2 (by decide) rfl (tw_1 101 rfl rfl) rfl dX0_mustSplitFor_17 hp (fun v17_4 hp => ?_)
      refine x_aload_n X dX0_mustSplitFor_20 hl 0 rfl rfl ?_
      refine q_getI (ci := 0) X V inX0 rfl (by decide) rfl 3 (by decide) rfl (tw_1 104 rfl rfl) rfl dX0_mustSplitFor_21 hp (fun v21_5 hp => ?_)
      refine lv_iadd hx hb dX0_mustSplitFor_24 ?_
      refine q_if hp (lv_icmp_ge (tgt := 32) hx hb dX0_mustSplitFor_25 (by decide)) (fun hp => ?_) (fun hp => ?_)
      · refine lv_iconst (v := (0 : Int32)) hx hb dX0_mustSplitFor_32 (by decide) ?_
        exact q_zret X V hr rfl ⟨by decide, by decide⟩ dX0_mustSplitFor_33 hp
      · refine lv_iconst (v := (1 : Int32)) hx hb dX0_mustSplitFor_28 (by decide) ?_
        refine lv_goto (tgt := 33) hx hb dX0_mustSplitFor_29 (by decide) ?_
        exact q_zret X V hr rfl ⟨by decide, by decide⟩ dX0_mustSplitFor_33 hp
theorem cX0_mustSplitFor (l : Launch) (E : mm_E) {N a0 : Nat} {G : mm_M} {x1 : Int32} {res : mm_M × Int32} (hp : pX0_mustSplitFor_0 N a0 G x1 = some res) : Met l yX0_mustSplitFor (Cond.code yX0_mustSplitFor prog_2_method_3_code 2 (Option.some .boolean) :: tw_T) rX0_mustSplitFor (mm_Pc E G [.ref a0, .int x1]) (mm_Qi E res.1 res.2) 0 0 (mm_A E) :=
  mm_met (own := "XorOverlay$Bucket") E G [.inr (some a0), .inl x1] (by decide) rfl rfl (Nat.le_of_ble_eq_true rfl) (fun p e s m args below meth c ls X hr hi V hl => bX0_mustSplitFor_0 X hr V hl hp)
abbrev yX0_moveUpperHalf : MethodName := ⟨"XorOverlay$Bucket", "moveUpperHalf", "(LXorOverlay$Bucket;)V"⟩
abbrev rX0_moveUpperHalf : Room := { frames := 1, cells := 0, slots := 0, locals := 23 }
theorem kX0_moveUpperHalf : Cond.code yX0_moveUpperHalf prog_2_method_9_code 5 none ∈ tw_T ∧ Cond.instanceMethod yX0_moveUpperHalf ∈ tw_T ∧ Cond.selects "XorOverlay$Bucket" yX0_moveUpperHalf yX0_moveUpperHalf ∈ tw_T ∧ Cond.initialized "XorOverlay$Bucket" ∈ tw_T := ⟨(tw_2 44 rfl rfl), (tw_2 42 rfl rfl), (tw_2 43 rfl rfl), (tw_1 6 rfl rfl)⟩
theorem hX0_moveUpperHalf : yX0_moveUpperHalf.cls = "XorOverlay$Bucket" ∧ yX0_moveUpperHalf.cls ≠ "java/lang/invoke/MethodHandle" ∧ yX0_moveUpperHalf.cls ≠ "java/lang/invoke/VarHandle" ∧ (parseMethodDescriptor yX0_moveUpperHalf.desc).map (fun d => d.parameters.length) = some 1 := by decide +kernel
theorem dX0_moveUpperHalf_0 : decode prog_2_method_9_code 0 = .ok (.aload_n 0, 1) := by decide +kernel
theorem dX0_moveUpperHalf_1 : decode prog_2_method_9_code 1 = .ok (.getfield 28, 3) := by decide +kernel
theorem dX0_moveUpperHalf_4 : decode prog_2_method_9_code 4 = .ok (.istore_n 2, 1) := by decide +kernel
theorem dX0_moveUpperHalf_5 : decode prog_2_method_9_code 5 = .ok (.aload_n 0, 1) := by decide +kernel
theorem dX0_moveUpperHalf_6 : decode prog_2_method_9_code 6 = .ok (.aload_n 0, 1) := by decide +kernel
theorem dX0_moveUpperHalf_7 : decode prog_2_method_9_code 7 = .ok (.getfield 22, 3) := by decide +kernel
theorem dX0_moveUpperHalf_10 : decode prog_2_method_9_code 10 = .ok (.iconst 2, 1) := by decide +kernel
theorem dX0_moveUpperHalf_11 : decode prog_2_method_9_code 11 = .ok (.idiv, 1) := by decide +kernel
theorem dX0_moveUpperHalf_12 : decode prog_2_method_9_code 12 = .ok (.putfield 22, 3) := by decide +kernel
theorem dX0_moveUpperHalf_15 : decode prog_2_method_9_code 15 = .ok (.aload_n 0, 1) := by decide +kernel
theorem dX0_moveUpperHalf_16 : decode prog_2_method_9_code 16 = .ok (.iconst 0, 1) := by decide +kernel
theorem dX0_moveUpperHalf_17 : decode prog_2_method_9_code 17 = .ok (.putfield 28, 3) := by decide +kernel
theorem dX0_moveUpperHalf_20 : decode prog_2_method_9_code 20 = .ok (.aload_n 1, 1) := by decide +kernel
theorem dX0_moveUpperHalf_21 : decode prog_2_method_9_code 21 = .ok (.aload_n 0, 1) := by decide +kernel
theorem dX0_moveUpperHalf_22 : decode prog_2_method_9_code 22 = .ok (.getfield 18, 3) := by decide +kernel
theorem dX0_moveUpperHalf_25 : decode prog_2_method_9_code 25 = .ok (.aload_n 0, 1) := by decide +kernel
theorem dX0_moveUpperHalf_26 : decode prog_2_method_9_code 26 = .ok (.getfield 22, 3) := by decide +kernel
theorem dX0_moveUpperHalf_29 : decode prog_2_method_9_code 29 = .ok (.iadd, 1) := by decide +kernel
theorem dX0_moveUpperHalf_30 : decode prog_2_method_9_code 30 = .ok (.aload_n 0, 1) := by decide +kernel
theorem dX0_moveUpperHalf_31 : decode prog_2_method_9_code 31 = .ok (.getfield 22, 3) := by decide +kernel
theorem dX0_moveUpperHalf_34 : decode prog_2_method_9_code 34 = .ok (.aload_n 0, 1) := by decide +kernel
theorem dX0_moveUpperHalf_35 : decode prog_2_method_9_code 35 = .ok (.getfield 25, 3) := by decide +kernel
theorem dX0_moveUpperHalf_38 : decode prog_2_method_9_code 38 = .ok (.invokevirtual 39, 3) := by decide +kernel
theorem dX0_moveUpperHalf_41 : decode prog_2_method_9_code 41 = .ok (.iconst 0, 1) := by decide +kernel
theorem dX0_moveUpperHalf_42 : decode prog_2_method_9_code 42 = .ok (.istore_n 3, 1) := by decide +kernel
theorem dX0_moveUpperHalf_43 : decode prog_2_method_9_code 43 = .ok (.iload_n 3, 1) := by decide +kernel
theorem dX0_moveUpperHalf_44 : decode prog_2_method_9_code 44 = .ok (.iload_n 2, 1) := by decide +kernel
theorem dX0_moveUpperHalf_45 : decode prog_2_method_9_code 45 = .ok (.if_icmp .ge 46, 3) := by decide +kernel
theorem dX0_moveUpperHalf_48 : decode prog_2_method_9_code 48 = .ok (.aload_n 0, 1) := by decide +kernel
theorem dX0_moveUpperHalf_49 : decode prog_2_method_9_code 49 = .ok (.getfield 11, 3) := by decide +kernel
theorem dX0_moveUpperHalf_52 : decode prog_2_method_9_code 52 = .ok (.iload_n 3, 1) := by decide +kernel
theorem dX0_moveUpperHalf_53 : decode prog_2_method_9_code 53 = .ok (.iaload, 1) := by decide +kernel
theorem dX0_moveUpperHalf_54 : decode prog_2_method_9_code 54 = .ok (.aload_n 1, 1) := by decide +kernel
theorem dX0_moveUpperHalf_55 : decode prog_2_method_9_code 55 = .ok (.getfield 18, 3) := by decide +kernel
theorem dX0_moveUpperHalf_58 : decode prog_2_method_9_code 58 = .ok (.if_icmp .ge 7, 3) := by decide +kernel
theorem dX0_moveUpperHalf_61 : decode prog_2_method_9_code 61 = .ok (.aload_n 0, 1) := by decide +kernel
theorem dX0_moveUpperHalf_62 : decode prog_2_method_9_code 62 = .ok (.goto 4, 3) := by decide +kernel
theorem dX0_moveUpperHalf_65 : decode prog_2_method_9_code 65 = .ok (.aload_n 1, 1) := by decide +kernel
theorem dX0_moveUpperHalf_66 : decode prog_2_method_9_code 66 = .ok (.astore 4, 2) := by decide +kernel
theorem dX0_moveUpperHalf_68 : decode prog_2_method_9_code 68 = .ok (.aload 4, 2) := by decide +kernel
theorem dX0_moveUpperHalf_70 : decode prog_2_method_9_code 70 = .ok (.aload_n 0, 1) := by decide +kernel
theorem dX0_moveUpperHalf_71 : decode prog_2_method_9_code 71 = .ok (.getfield 11, 3) := by decide +kernel
theorem dX0_moveUpperHalf_74 : decode prog_2_method_9_code 74 = .ok (.iload_n 3, 1) := by decide +kernel
theorem dX0_moveUpperHalf_75 : decode prog_2_method_9_code 75 = .ok (.iaload, 1) := by decide +kernel
theorem dX0_moveUpperHalf_76 : decode prog_2_method_9_code 76 = .ok (.aload_n 0, 1) := by decide +kernel
theorem dX0_moveUpperHalf_77 : decode prog_2_method_9_code 77 = .ok (.getfield 15, 3) := by decide +kernel
theorem dX0_moveUpperHalf_80 : decode prog_2_method_9_code 80 = .ok (.iload_n 3, 1) := by decide +kernel
theorem dX0_moveUpperHalf_81 : decode prog_2_method_9_code 81 = .ok (.iaload, 1) := by decide +kernel
theorem dX0_moveUpperHalf_82 : decode prog_2_method_9_code 82 = .ok (.invokevirtual 43, 3) := by decide +kernel
theorem dX0_moveUpperHalf_85 : decode prog_2_method_9_code 85 = .ok (.iinc 3 1, 3) := by decide +kernel
theorem dX0_moveUpperHalf_88 : decode prog_2_method_9_code 88 = .ok (.goto (-45), 3) := by decide +kernel
theorem dX0_moveUpperHalf_91 : decode prog_2_method_9_code 91 = .ok (.return_, 1) := by decide +kernel
def pX0_moveUpperHalf_43_b (N a0 : Nat) (kb : mm_M → Option Nat → Int32 → Int32 → Option (mm_M × Unit)) (kx : mm_M → Option (mm_M × Unit)) (G : mm_M) (x1 : Option Nat) (x2 : Int32) (x3 : Int32) : Option (mm_M × Unit) :=
  if x2 ≤ x3 then
    kx G
  else
    q_gR G a0 1 0 fun r49_9 =>
    q_nn r49_9 fun b53_10 =>
    q_aI G b53_10 101 x3 fun v53_11 =>
    q_nn x1 fun b55_12 =>
    q_gI G b55_12 1 2 fun v55_13 =>
    if v55_13 ≤ v53_11 then
      q_gR G a0 1 0 fun r71_14 =>
      q_nn r71_14 fun b75_15 =>
      q_aI G b75_15 101 x3 fun v75_16 =>
      q_gR G a0 1 1 fun r77_17 =>
      q_nn r77_17 fun b81_18 =>
      q_aI G b81_18 101 x3 fun v81_19 =>
      q_is G b55_12 1 <|
      q_cl (pX0_append_0 N b55_12 G v75_16 v81_19) fun G _ =>
      kb G (some b55_12) x2 (x3 + (1 : Int32))
    else
      q_gR G a0 1 0 fun r71_21 =>
      q_nn r71_21 fun b75_22 =>
      q_aI G b75_22 101 x3 fun v75_23 =>
      q_gR G a0 1 1 fun r77_24 =>
      q_nn r77_24 fun b81_25 =>
      q_aI G b81_25 101 x3 fun v81_26 =>
      q_is G a0 1 <|
      q_cl (pX0_append_0 N a0 G v75_23 v81_26) fun G _ =>
      kb G (some b55_12) x2 (x3 + (1 : Int32))
def pX0_moveUpperHalf_43 (N a0 : Nat) (kx : mm_M → Option (mm_M × Unit)) : Nat → mm_M → Option Nat → Int32 → Int32 → Option (mm_M × Unit)
  | 0 => fun _ _ _ _ => none
  | n + 1 => pX0_moveUpperHalf_43_b N a0 (pX0_moveUpperHalf_43 N a0 kx n) kx
set_option maxRecDepth 100000 in
set_option maxHeartbeats 4000000 in
theorem bX0_moveUpperHalf_43 {p : Program} {l : Launch} {e : Env} {s : State} {m : MethodId} {args : Array Value} {below : List Frame} {meth : Method} {c : Code} {E : mm_E} {N a0 : Nat} {res : mm_M × Unit} (X : mm_X p s m args meth c prog_2_method_9_code 5 "XorOverlay$Bucket" tw_T E) (hr : meth.sig.returnType = none) {kx : mm_M → Option (mm_M × Unit)} (hkx : ∀ (G : mm_M) (H : Heap) (locs : List Loc) (ls : Array Slot), mm_V E s G H locs → lx_has ls 5 [(0, .inr (some a0))] → kx G = some res → W p l e rX0_moveUpperHalf s m args below meth c H locs 0 0 (MQ below (mm_Qv E res.1) args s 0 0 (mm_A E)) (F0 m 91 ls [])) :
    ∀ (n : Nat) (G : mm_M) (H : Heap) (locs : List Loc) (ls : Array Slot) (x1 : Option Nat) (x2 : Int32) (x3 : Int32), mm_V E s G H locs → lx_has ls 5 [(0, .inr (some a0)), (1, .inr x1), (2, .inl x2), (3, .inl x3)] → pX0_moveUpperHalf_43 N a0 kx n G x1 x2 x3 = some res → W p l e rX0_moveUpperHalf s m args below meth c H locs 0 0 (MQ below (mm_Qv E res.1) args s 0 0 (mm_A E)) (F0 m 43 ls []) := by
  have hx := X.1.1
  have hb := X.1.2.1
  intro n
  induction n with
  | zero =>
    intro G H locs ls x1 x2 x3 V hl hp
    cases hp
  | succ n ih =>
    intro G H locs ls x1 x2 x3 V hl hp
    have hp : pX0_moveUpperHalf_43_b N a0 (pX0_moveUpperHalf_43 N a0 kx n) kx G x1 x2 x3 = some res := hp
    unfold pX0_moveUpperHalf_43_b at hp
    refine x_iload_n X dX0_moveUpperHalf_43 hl 3 rfl rfl ?_
    refine x_iload_n X dX0_moveUpperHalf_44 hl 2 rfl rfl ?_
    refine q_if hp (lv_icmp_ge (tgt := 91) hx hb dX0_moveUpperHalf_45 (by decide)) (fun hp => ?_) (fun hp => ?_)
    · exact hkx _ _ _ _ V (lx_sub hl [0] rfl) hp
    · refine x_aload_n X dX0_moveUpperHalf_48 hl 0 rfl rfl ?_
      refine q_getR (ci := 0) X V inX0 rfl (by decide) rfl 0 (by decide) rfl (tw_1 95 rfl rfl) rfl dX0_moveUpperHalf_49 hp (fun r49_9 hp => ?_)
      refine x_iload_n X dX0_moveUpperHalf_52 hl 3 rfl rfl ?_
      obtain ⟨b53_10, e0, hp2⟩ := q_nn_of hp
      clear hp; subst e0; have hp := hp2; clear hp2
      refine q_iald X V dX0_moveUpperHalf_53 hp (fun v53_11 hp => ?_)
      refine x_aload_n X dX0_moveUpperHalf_54 hl 1 rfl rfl ?_
      obtain ⟨b55_12, e0, hp2⟩ := q_nn_of hp
      clear hp; subst e0; have hp := hp2; clear hp2
      refine q_getI (ci := 0) X V inX0 rfl (by decide) rfl 2 (by decide) rfl (tw_1 101 rfl rfl) rfl dX0_moveUpperHalf_55 hp (fun v55_13 hp => ?_)
      refine q_if hp (lv_icmp_ge (tgt := 65) hx hb dX0_moveUpperHalf_58 (by decide)) (fun hp => ?_) (fun hp => ?_)
      · refine x_aload_n X dX0_moveUpperHalf_65 hl 1 rfl rfl ?_
        refine x_astore (lst' := [(4, .inr (some b55_12)), (0, .inr (some a0)), (1, .inr (some b55_12)), (2, .inl x2), (3, .inl x3)]) X dX0_moveUpperHalf_66 hl (by decide) rfl (fun ls hl => ?_)
        refine x_aload X dX0_moveUpperHalf_68 hl 0 rfl ?_
        refine x_aload_n X dX0_moveUpperHalf_70 hl 1 rfl rfl ?_
        refine q_getR (ci := 0) X V inX0 rfl (by decide) rfl 0 (by decide) rfl (tw_1 95 rfl rfl) rfl dX0_moveUpperHalf_71 hp (fun r71_14 hp => ?_)
        refine x_iload_n X dX0_moveUpperHalf_74 hl 4 rfl rfl ?_
        obtain ⟨b75_15, e0, hp2⟩ := q_nn_of hp
        clear hp; subst e0; have hp := hp2; clear hp2
        refine q_iald X V dX0_moveUpperHalf_75 hp (fun v75_16 hp => ?_)
        refine x_aload_n X dX0_moveUpperHalf_76 hl 1 rfl rfl ?_
        refine q_getR (ci := 0) X V inX0 rfl (by decide) rfl 1 (by decide) rfl (tw_1 98 rfl rfl) rfl dX0_moveUpperHalf_77 hp (fun r77_17 hp => ?_)
        refine x_iload_n X dX0_moveUpperHalf_80 hl 4 rfl rfl ?_
        obtain ⟨b81_18, e0, hp2⟩ := q_nn_of hp
        clear hp; subst e0; have hp := hp2; clear hp2
        refine q_iald X V dX0_moveUpperHalf_81 hp (fun v81_19 hp => ?_)
        obtain ⟨hk, hp⟩ := q_is_of hp
        obtain ⟨⟨G, u⟩, hq, hp⟩ := q_cl_of hp
        dsimp only at hp
        refine q_gov (cells' := 0) (slots' := 0) (va_runV (As := [.int v75_16, .int v81_19]) (rest := []) X.1 (cX0_append l E hq) (tw_cwV 2 X.1.2.2.2.2 (tw_2 46 rfl rfl) kX0_append.2.1 kX0_append.2.2.1 kX0_append.2.2.2 kX0_append.1 rfl rfl hX0_append ⟨Nat.le_of_ble_eq_true rfl, Nat.le_of_ble_eq_true rfl⟩) (mm_preV X V rfl (by decide) rfl hk) rfl rfl hl.1 rfl (lv_room (Nat.le_of_ble_eq_true rfl)) dX0_moveUpperHalf_82 ⟨by decide, by decide⟩) V ⟨rfl, rfl⟩ (fun H locs V => ?_)
        refine x_iinc (v := (1 : Int32)) (lst' := [(3, .inl (x3 + (1 : Int32))), (4, .inr (some b55_12)), (0, .inr (some a0)), (1, .inr (some b55_12)), (2, .inl x2)]) X dX0_moveUpperHalf_85 hl 4 rfl (by decide) (by decide) rfl (fun ls hl => ?_)
        refine lv_goto (tgt := 43) hx hb dX0_moveUpperHalf_88 (by decide) ?_
        exact ih _ _ _ _ _ _ _ V (lx_sub hl [2, 3, 4, 0] rfl) hp
      · refine x_aload_n X dX0_moveUpperHalf_61 hl 0 rfl rfl ?_
        refine lv_goto (tgt := 66) hx hb dX0_moveUpperHalf_62 (by decide) ?_
        refine x_astore (lst' := [(4, .inr (some a0)), (0, .inr (some a0)), (1, .inr (some b55_12)), (2, .inl x2), (3, .inl x3)]) X dX0_moveUpperHalf_66 hl (by decide) rfl (fun ls hl => ?_)
        refine x_aload X dX0_moveUpperHalf_68 hl 0 rfl ?_
        refine x_aload_n X dX0_moveUpperHalf_70 hl 1 rfl rfl ?_
        refine q_getR (ci := 0) X V inX0 rfl (by decide) rfl 0 (by decide) rfl (tw_1 95 rfl rfl) rfl dX0_moveUpperHalf_71 hp (fun r71_21 hp => ?_)
        refine x_iload_n X dX0_moveUpperHalf_74 hl 4 rfl rfl ?_
        obtain ⟨b75_22, e0, hp2⟩ := q_nn_of hp
        clear hp; subst e0; have hp := hp2; clear hp2
        refine q_iald X V dX0_moveUpperHalf_75 hp (fun v75_23 hp => ?_)
        refine x_aload_n X dX0_moveUpperHalf_76 hl 1 rfl rfl ?_
        refine q_getR (ci := 0) X V inX0 rfl (by decide) rfl 1 (by decide) rfl (tw_1 98 rfl rfl) rfl dX0_moveUpperHalf_77 hp (fun r77_24 hp => ?_)
        refine x_iload_n X dX0_moveUpperHalf_80 hl 4 rfl rfl ?_
        obtain ⟨b81_25, e0, hp2⟩ := q_nn_of hp
        clear hp; subst e0; have hp := hp2; clear hp2
        refine q_iald X V dX0_moveUpperHalf_81 hp (fun v81_26 hp => ?_)
        obtain ⟨hk, hp⟩ := q_is_of hp
        obtain ⟨⟨G, u⟩, hq, hp⟩ := q_cl_of hp
        dsimp only at hp
        refine q_gov (cells' := 0) (slots' := 0) (va_runV (As := [.int v75_23, .int v81_26]) (rest := []) X.1 (cX0_append l E hq) (tw_cwV 2 X.1.2.2.2.2 (tw_2 46 rfl rfl) kX0_append.2.1 kX0_append.2.2.1 kX0_append.2.2.2 kX0_append.1 rfl rfl hX0_append ⟨Nat.le_of_ble_eq_true rfl, Nat.le_of_ble_eq_true rfl⟩) (mm_preV X V rfl (by decide) rfl hk) rfl rfl hl.1 rfl (lv_room (Nat.le_of_ble_eq_true rfl)) dX0_moveUpperHalf_82 ⟨by decide, by decide⟩) V ⟨rfl, rfl⟩ (fun H locs V => ?_)
        refine x_iinc (v := (1 : Int32)) (lst' := [(3, .inl (x3 + (1 : Int32))), (4, .inr (some a0)), (0, .inr (some a0)), (1, .inr (some b55_12)), (2, .inl x2)]) X dX0_moveUpperHalf_85 hl 4 rfl (by decide) (by decide) rfl (fun ls hl => ?_)
        refine lv_goto (tgt := 43) hx hb dX0_moveUpperHalf_88 (by decide) ?_
        exact ih _ _ _ _ _ _ _ V (lx_sub hl [2, 3, 4, 0] rfl) hp
def pX0_moveUpperHalf_0 (N a0 : Nat) (G : mm_M) (x1 : Option Nat) : Option (mm_M × Unit) :=
  q_gI G a0 1 5 fun v1_1 =>
  q_gI G a0 1 3 fun v7_2 =>
  q_pI G a0 1 3 (v7_2 / (2 : Int32)) fun G =>
  q_pI G a0 1 5 (0 : Int32) fun G =>
  q_gI G a0 1 2 fun v22_3 =>
  q_gI G a0 1 3 fun v26_4 =>
  q_gI G a0 1 3 fun v31_5 =>
  q_gI G a0 1 4 fun v35_6 =>
  q_nn x1 fun b38_7 =>
  q_is G b38_7 1 <|
  q_cl (pX0_open_0 N b38_7 G (v22_3 + v26_4) v31_5 v35_6) fun G _ =>
  pX0_moveUpperHalf_43 N a0 (fun (G : mm_M) =>
    some (G, ())) N G (some b38_7) v1_1 (0 : Int32)
set_option maxRecDepth 100000 in
set_option maxHeartbeats 4000000 in
theorem bX0_moveUpperHalf_0 {p : Program} {l : Launch} {e : Env} {s : State} {m : MethodId} {args : Array Value} {below : List Frame} {meth : Method} {c : Code} {E : mm_E} {N a0 : Nat} {res : mm_M × Unit} (X : mm_X p s m args meth c prog_2_method_9_code 5 "XorOverlay$Bucket" tw_T E) (hr : meth.sig.returnType = none) {G : mm_M} {H : Heap} {locs : List Loc} {ls : Array Slot} {x1 : Option Nat} (V : mm_V E s G H locs) (hl : lx_has ls 5 [(0, .inr (some a0)), (1, .inr x1)]) (hp : pX0_moveUpperHalf_0 N a0 G x1 = some res) : W p l e rX0_moveUpperHalf s m args below meth c H locs 0 0 (MQ below (mm_Qv E res.1) args s 0 0 (mm_A E)) (F0 m 0 ls []) := by
  have hx := X.1.1
  have hb := X.1.2.1
  unfold pX0_moveUpperHalf_0 at hp
  refine x_aload_n X dX0_moveUpperHalf_0 hl 0 rfl rfl ?_
  refine q_getI (ci := 0) X V inX0 rfl (by decide) rfl 5 (by decide) rfl (tw_1 109 rfl rfl) rfl dX0_moveUpperHalf_1 hp (fun v1_1 hp => ?_)
  refine x_istore_n (lst' := [(2, .inl v1_1), (0, .inr (some a0)), (1, .inr x1)]) X dX0_moveUpperHalf_4 hl rfl (by decide) rfl (fun ls hl => ?_)
  refine x_aload_n X dX0_moveUpperHalf_5 hl 1 rfl rfl ?_
  refine x_aload_n X dX0_moveUpperHalf_6 hl 1 rfl rfl ?_
  refine q_getI (ci := 0) X V inX0 rfl (by decide) rfl 3 (by decide) rfl (tw_1 104 rfl rfl) rfl dX0_moveUpperHalf_7 hp (fun v7_2 hp => ?_)
  refine lv_iconst (v := (2 : Int32)) hx hb dX0_moveUpperHalf_10 (by decide) ?_
  refine lv_idiv hx hb dX0_moveUpperHalf_11 (by decide) ?_
  refine q_putI (ci := 0) X V inX0 rfl tyX0 tyX0_ok nmX0 (by decide) rfl 3 (by decide) rfl (tw_1 104 rfl rfl) rfl (Or.inl rfl) .int rfl rfl rfl dX0_moveUpperHalf_12 hp (fun G H locs V hp => ?_)
  refine x_aload_n X dX0_moveUpperHalf_15 hl 1 rfl rfl ?_
  refine lv_iconst (v := (0 : Int32)) hx hb dX0_moveUpperHalf_16 (by decide) ?_
  refine q_putI (ci := 0) X V inX0 rfl tyX0 tyX0_ok nmX0 (by decide) rfl 5 (by decide) rfl (tw_1 109 rfl rfl) rfl (Or.inl rfl) .int rfl rfl rfl dX0_moveUpperHalf_17 hp (fun G H locs V hp => ?_)
  refine x_aload_n X dX0_moveUpperHalf_20 hl 2 rfl rfl ?_
  refine x_aload_n X dX0_moveUpperHalf_21 hl 1 rfl rfl ?_
  refine q_getI (ci := 0) X V inX0 rfl (by decide) rfl 2 (by decide) rfl (tw_1 101 rfl rfl) rfl dX0_moveUpperHalf_22 hp (fun v22_3 hp => ?_)
  refine x_aload_n X dX0_moveUpperHalf_25 hl 1 rfl rfl ?_
  refine q_getI (ci := 0) X V inX0 rfl (by decide) rfl 3 (by decide) rfl (tw_1 104 rfl rfl) rfl dX0_moveUpperHalf_26 hp (fun v26_4 hp => ?_)
  refine lv_iadd hx hb dX0_moveUpperHalf_29 ?_
  refine x_aload_n X dX0_moveUpperHalf_30 hl 1 rfl rfl ?_
  refine q_getI (ci := 0) X V inX0 rfl (by decide) rfl 3 (by decide) rfl (tw_1 104 rfl rfl) rfl dX0_moveUpperHalf_31 hp (fun v31_5 hp => ?_)
  refine x_aload_n X dX0_moveUpperHalf_34 hl 1 rfl rfl ?_
  refine q_getI (ci := 0) X V inX0 rfl (by decide) rfl 4 (by decide) rfl (tw_1 106 rfl rfl) rfl dX0_moveUpperHalf_35 hp (fun v35_6 hp => ?_)
  obtain ⟨b38_7, e0, hp2⟩ := q_nn_of hp
  clear hp; subst e0; have hp := hp2; clear hp2
  obtain ⟨hk, hp⟩ := q_is_of hp
  obtain ⟨⟨G, u⟩, hq, hp⟩ := q_cl_of hp
  dsimp only at hp
  refine q_gov (cells' := 0) (slots' := 0) (va_runV (As := [.int (v22_3 + v26_4), .int v31_5, .int v35_6]) (rest := []) X.1 (cX0_open l E hq) (tw_cwV 3 X.1.2.2.2.2 (tw_2 45 rfl rfl) kX0_open.2.1 kX0_open.2.2.1 kX0_open.2.2.2 kX0_open.1 rfl rfl hX0_open ⟨Nat.le_of_ble_eq_true rfl, Nat.le_of_ble_eq_true rfl⟩) (mm_preV X V rfl (by decide) rfl hk) rfl rfl hl.1 rfl (lv_room (Nat.le_of_ble_eq_true rfl)) dX0_moveUpperHalf_38 ⟨by decide, by decide⟩) V ⟨rfl, rfl⟩ (fun H locs V => ?_)
  refine lv_iconst (v := (0 : Int32)) hx hb dX0_moveUpperHalf_41 (by decide) ?_
  refine x_istore_n (lst' := [(3, .inl (0 : Int32)), (2, .inl v1_1), (0, .inr (some a0)), (1, .inr (some b38_7))]) X dX0_moveUpperHalf_42 hl rfl (by decide) rfl (fun ls hl => ?_)
  refine bX0_moveUpperHalf_43 X hr (fun G H locs ls V hl hp => ?_) _ _ _ _ _ _ _ _ V (lx_sub hl [2, 3, 1, 0] rfl) hp
  exact q_vret X V hr ⟨by decide, by decide⟩ dX0_moveUpperHalf_91 hp
theorem cX0_moveUpperHalf (l : Launch) (E : mm_E) {N a0 : Nat} {G : mm_M} {x1 : Option Nat} {res : mm_M × Unit} (hp : pX0_moveUpperHalf_0 N a0 G x1 = some res) : Met l yX0_moveUpperHalf (Cond.code yX0_moveUpperHalf prog_2_method_9_code 5 none :: tw_T) rX0_moveUpperHalf (mm_Pc E G [.ref a0, va_rf x1]) (mm_Qv E res.1) 0 0 (mm_A E) :=
  mm_met (own := "XorOverlay$Bucket") E G [.inr (some a0), .inr x1] (by decide) rfl rfl (Nat.le_of_ble_eq_true rfl) (fun p e s m args below meth c ls X hr hi V hl => bX0_moveUpperHalf_0 X hr V hl hp)
abbrev yX5_split : MethodName := ⟨"XorOverlay$Table", "split", "(I)V"⟩
abbrev rX5_split : Room := { frames := 2, cells := 0, slots := 0, locals := 47 }
theorem kX5_split : Cond.code yX5_split prog_7_method_9_code 4 none ∈ tw_T ∧ Cond.instanceMethod yX5_split ∈ tw_T ∧ Cond.selects "XorOverlay$Table" yX5_split yX5_split ∈ tw_T ∧ Cond.initialized "XorOverlay$Table" ∈ tw_T := ⟨(tw_2 40 rfl rfl), (tw_2 39 rfl rfl), (tw_s 4 rfl rfl), (tw_1 5 rfl rfl)⟩
theorem hX5_split : yX5_split.cls = "XorOverlay$Table" ∧ yX5_split.cls ≠ "java/lang/invoke/MethodHandle" ∧ yX5_split.cls ≠ "java/lang/invoke/VarHandle" ∧ (parseMethodDescriptor yX5_split.desc).map (fun d => d.parameters.length) = some 1 := by decide +kernel
theorem dX5_split_0 : decode prog_7_method_9_code 0 = .ok (.aload_n 0, 1) := by decide +kernel
theorem dX5_split_1 : decode prog_7_method_9_code 1 = .ok (.getfield 17, 3) := by decide +kernel
theorem dX5_split_4 : decode prog_7_method_9_code 4 = .ok (.aload_n 0, 1) := by decide +kernel
theorem dX5_split_5 : decode prog_7_method_9_code 5 = .ok (.getfield 22, 3) := by decide +kernel
theorem dX5_split_8 : decode prog_7_method_9_code 8 = .ok (.aaload, 1) := by decide +kernel
theorem dX5_split_9 : decode prog_7_method_9_code 9 = .ok (.astore_n 2, 1) := by decide +kernel
theorem dX5_split_10 : decode prog_7_method_9_code 10 = .ok (.aload_n 0, 1) := by decide +kernel
theorem dX5_split_11 : decode prog_7_method_9_code 11 = .ok (.getfield 22, 3) := by decide +kernel
theorem dX5_split_14 : decode prog_7_method_9_code 14 = .ok (.istore_n 3, 1) := by decide +kernel
theorem dX5_split_15 : decode prog_7_method_9_code 15 = .ok (.iload_n 3, 1) := by decide +kernel
theorem dX5_split_16 : decode prog_7_method_9_code 16 = .ok (.iload_n 1, 1) := by decide +kernel
theorem dX5_split_17 : decode prog_7_method_9_code 17 = .ok (.iconst 1, 1) := by decide +kernel
theorem dX5_split_18 : decode prog_7_method_9_code 18 = .ok (.iadd, 1) := by decide +kernel
theorem dX5_split_19 : decode prog_7_method_9_code 19 = .ok (.if_icmp .le 23, 3) := by decide +kernel
theorem dX5_split_22 : decode prog_7_method_9_code 22 = .ok (.aload_n 0, 1) := by decide +kernel
theorem dX5_split_23 : decode prog_7_method_9_code 23 = .ok (.getfield 17, 3) := by decide +kernel
theorem dX5_split_26 : decode prog_7_method_9_code 26 = .ok (.iload_n 3, 1) := by decide +kernel
theorem dX5_split_27 : decode prog_7_method_9_code 27 = .ok (.aload_n 0, 1) := by decide +kernel
theorem dX5_split_28 : decode prog_7_method_9_code 28 = .ok (.getfield 17, 3) := by decide +kernel
theorem dX5_split_31 : decode prog_7_method_9_code 31 = .ok (.iload_n 3, 1) := by decide +kernel
theorem dX5_split_32 : decode prog_7_method_9_code 32 = .ok (.iconst 1, 1) := by decide +kernel
theorem dX5_split_33 : decode prog_7_method_9_code 33 = .ok (.isub, 1) := by decide +kernel
theorem dX5_split_34 : decode prog_7_method_9_code 34 = .ok (.aaload, 1) := by decide +kernel
theorem dX5_split_35 : decode prog_7_method_9_code 35 = .ok (.aastore, 1) := by decide +kernel
theorem dX5_split_36 : decode prog_7_method_9_code 36 = .ok (.iinc 3 (-1), 3) := by decide +kernel
theorem dX5_split_39 : decode prog_7_method_9_code 39 = .ok (.goto (-24), 3) := by decide +kernel
theorem dX5_split_42 : decode prog_7_method_9_code 42 = .ok (.aload_n 0, 1) := by decide +kernel
theorem dX5_split_43 : decode prog_7_method_9_code 43 = .ok (.getfield 17, 3) := by decide +kernel
theorem dX5_split_46 : decode prog_7_method_9_code 46 = .ok (.iload_n 1, 1) := by decide +kernel
theorem dX5_split_47 : decode prog_7_method_9_code 47 = .ok (.iconst 1, 1) := by decide +kernel
theorem dX5_split_48 : decode prog_7_method_9_code 48 = .ok (.iadd, 1) := by decide +kernel
theorem dX5_split_49 : decode prog_7_method_9_code 49 = .ok (.aload_n 2, 1) := by decide +kernel
theorem dX5_split_50 : decode prog_7_method_9_code 50 = .ok (.aastore, 1) := by decide +kernel
theorem dX5_split_51 : decode prog_7_method_9_code 51 = .ok (.aload_n 0, 1) := by decide +kernel
theorem dX5_split_52 : decode prog_7_method_9_code 52 = .ok (.dup, 1) := by decide +kernel
theorem dX5_split_53 : decode prog_7_method_9_code 53 = .ok (.getfield 22, 3) := by decide +kernel
theorem dX5_split_56 : decode prog_7_method_9_code 56 = .ok (.iconst 1, 1) := by decide +kernel
theorem dX5_split_57 : decode prog_7_method_9_code 57 = .ok (.iadd, 1) := by decide +kernel
theorem dX5_split_58 : decode prog_7_method_9_code 58 = .ok (.putfield 22, 3) := by decide +kernel
theorem dX5_split_61 : decode prog_7_method_9_code 61 = .ok (.aload_n 0, 1) := by decide +kernel
theorem dX5_split_62 : decode prog_7_method_9_code 62 = .ok (.getfield 17, 3) := by decide +kernel
theorem dX5_split_65 : decode prog_7_method_9_code 65 = .ok (.iload_n 1, 1) := by decide +kernel
theorem dX5_split_66 : decode prog_7_method_9_code 66 = .ok (.aaload, 1) := by decide +kernel
theorem dX5_split_67 : decode prog_7_method_9_code 67 = .ok (.aload_n 2, 1) := by decide +kernel
theorem dX5_split_68 : decode prog_7_method_9_code 68 = .ok (.invokevirtual 72, 3) := by decide +kernel
theorem dX5_split_71 : decode prog_7_method_9_code 71 = .ok (.return_, 1) := by decide +kernel
def pX5_split_15_b (N a0 : Nat) (kb : mm_M → Int32 → Option Nat → Int32 → Option (mm_M × Unit)) (kx : mm_M → Int32 → Option Nat → Option (mm_M × Unit)) (G : mm_M) (x1 : Int32) (x2 : Option Nat) (x3 : Int32) : Option (mm_M × Unit) :=
  if x3 ≤ (x1 + (1 : Int32)) then
    kx G x1 x2
  else
    q_gR G a0 6 1 fun r23_6 =>
    q_gR G a0 6 1 fun r28_7 =>
    q_nn r28_7 fun b34_8 =>
    q_aR G b34_8 104 (x3 - (1 : Int32)) fun r34_9 =>
    q_nn r23_6 fun b35_10 =>
    q_sR G b35_10 104 1 x3 r34_9 fun G =>
    kb G x1 x2 (x3 + (-1 : Int32))
def pX5_split_15 (N a0 : Nat) (kx : mm_M → Int32 → Option Nat → Option (mm_M × Unit)) : Nat → mm_M → Int32 → Option Nat → Int32 → Option (mm_M × Unit)
  | 0 => fun _ _ _ _ => none
  | n + 1 => pX5_split_15_b N a0 (pX5_split_15 N a0 kx n) kx
set_option maxRecDepth 100000 in
set_option maxHeartbeats 4000000 in
theorem bX5_split_15 {p : Program} {l : Launch} {e : Env} {s : State} {m : MethodId} {args : Array Value} {below : List Frame} {meth : Method} {c : Code} {E : mm_E} {N a0 : Nat} {res : mm_M × Unit} (X : mm_X p s m args meth c prog_7_method_9_code 4 "XorOverlay$Table" tw_T E) (hr : meth.sig.returnType = none) {kx : mm_M → Int32 → Option Nat → Option (mm_M × Unit)} (hkx : ∀ (G : mm_M) (H : Heap) (locs : List Loc) (ls : Array Slot) (x1 : Int32) (x2 : Option Nat), mm_V E s G H locs → lx_has ls 4 [(0, .inr (some a0)), (1, .inl x1), (2, .inr x2)] → kx G x1 x2 = some res → W p l e rX5_split s m args below meth c H locs 0 0 (MQ below (mm_Qv E res.1) args s 0 0 (mm_A E)) (F0 m 42 ls [])) :
    ∀ (n : Nat) (G : mm_M) (H : Heap) (locs : List Loc) (ls : Array Slot) (x1 : Int32) (x2 : Option Nat) (x3 : Int32), mm_V E s G H locs → lx_has ls 4 [(0, .inr (some a0)), (1, .inl x1), (2, .inr x2), (3, .inl x3)] → pX5_split_15 N a0 kx n G x1 x2 x3 = some res → W p l e rX5_split s m args below meth c H locs 0 0 (MQ below (mm_Qv E res.1) args s 0 0 (mm_A E)) (F0 m 15 ls []) := by
  have hx := X.1.1
  have hb := X.1.2.1
  intro n
  induction n with
  | zero =>
    intro G H locs ls x1 x2 x3 V hl hp
    cases hp
  | succ n ih =>
    intro G H locs ls x1 x2 x3 V hl hp
    have hp : pX5_split_15_b N a0 (pX5_split_15 N a0 kx n) kx G x1 x2 x3 = some res := hp
    unfold pX5_split_15_b at hp
    refine x_iload_n X dX5_split_15 hl 3 rfl rfl ?_
    refine x_iload_n X dX5_split_16 hl 1 rfl rfl ?_
    refine lv_iconst (v := (1 : Int32)) hx hb dX5_split_17 (by decide) ?_
    refine lv_iadd hx hb dX5_split_18 ?_
    refine q_if hp (lv_icmp_le (tgt := 42) hx hb dX5_split_19 (by decide)) (fun hp => ?_) (fun hp => ?_)
    · exact hkx _ _ _ _ _ _ V (lx_sub hl [0, 1, 2] rfl) hp
    · refine x_aload_n X dX5_split_22 hl 0 rfl rfl ?_
      refine q_getR (ci := 5) X V inX5 rfl (by decide) rfl 1 (by decide) rfl (tw_1 126 rfl rfl) rfl dX5_split_23 hp (fun r23_6 hp => ?_)
      refine x_iload_n X dX5_split_26 hl 3 rfl rfl ?_
      refine x_aload_n X dX5_split_27 hl 0 rfl rfl ?_
      refine q_getR (ci := 5) X V inX5 rfl (by decide) rfl 1 (by decide) rfl (tw_1 126 rfl rfl) rfl dX5_split_28 hp (fun r28_7 hp => ?_)
      refine x_iload_n X dX5_split_31 hl 3 rfl rfl ?_
      refine lv_iconst (v := (1 : Int32)) hx hb dX5_split_32 (by decide) ?_
      refine lv_isub hx hb dX5_split_33 ?_
      obtain ⟨b34_8, e0, hp2⟩ := q_nn_of hp
      clear hp; subst e0; have hp := hp2; clear hp2
      refine q_aldB X V dX5_split_34 hp (fun r34_9 hp => ?_)
      obtain ⟨b35_10, e0, hp2⟩ := q_nn_of hp
      clear hp; subst e0; have hp := hp2; clear hp2
      refine q_astB (ci := 0) X V rfl rfl (by decide) rfl dX5_split_35 hp (fun G H locs V hp => ?_)
      refine x_iinc (v := (-1 : Int32)) (lst' := [(3, .inl (x3 + (-1 : Int32))), (0, .inr (some a0)), (1, .inl x1), (2, .inr x2)]) X dX5_split_36 hl 3 rfl (by decide) (by decide) rfl (fun ls hl => ?_)
      refine lv_goto (tgt := 15) hx hb dX5_split_39 (by decide) ?_
      exact ih _ _ _ _ _ _ _ V (lx_sub hl [1, 2, 3, 0] rfl) hp
def pX5_split_0 (N a0 : Nat) (G : mm_M) (x1 : Int32) : Option (mm_M × Unit) :=
  q_gR G a0 6 1 fun r1_1 =>
  q_gI G a0 6 2 fun v5_2 =>
  q_nn r1_1 fun b8_3 =>
  q_aR G b8_3 104 v5_2 fun r8_4 =>
  q_gI G a0 6 2 fun v11_5 =>
  pX5_split_15 N a0 (fun (G : mm_M) (x1 : Int32) (x2 : Option Nat) =>
    q_gR G a0 6 1 fun r43_11 =>
    q_nn r43_11 fun b50_12 =>
    q_sR G b50_12 104 1 (x1 + (1 : Int32)) x2 fun G =>
    q_gI G a0 6 2 fun v53_13 =>
    q_pI G a0 6 2 (v53_13 + (1 : Int32)) fun G =>
    q_gR G a0 6 1 fun r62_14 =>
    q_nn r62_14 fun b66_15 =>
    q_aR G b66_15 104 x1 fun r66_16 =>
    q_nn r66_16 fun b68_17 =>
    q_is G b68_17 1 <|
    q_cl (pX0_moveUpperHalf_0 N b68_17 G x2) fun G _ =>
    some (G, ())) N G x1 r8_4 v11_5
set_option maxRecDepth 100000 in
set_option maxHeartbeats 4000000 in
theorem bX5_split_0 {p : Program} {l : Launch} {e : Env} {s : State} {m : MethodId} {args : Array Value} {below : List Frame} {meth : Method} {c : Code} {E : mm_E} {N a0 : Nat} {res : mm_M × Unit} (X : mm_X p s m args meth c prog_7_method_9_code 4 "XorOverlay$Table" tw_T E) (hr : meth.sig.returnType = none) {G : mm_M} {H : Heap} {locs : List Loc} {ls : Array Slot} {x1 : Int32} (V : mm_V E s G H locs) (hl : lx_has ls 4 [(0, .inr (some a0)), (1, .inl x1)]) (hp : pX5_split_0 N a0 G x1 = some res) : W p l e rX5_split s m args below meth c H locs 0 0 (MQ below (mm_Qv E res.1) args s 0 0 (mm_A E)) (F0 m 0 ls []) := by
  have hx := X.1.1
  have hb := X.1.2.1
  unfold pX5_split_0 at hp
  refine x_aload_n X dX5_split_0 hl 0 rfl rfl ?_
  refine q_getR (ci := 5) X V inX5 rfl (by decide) rfl 1 (by decide) rfl (tw_1 126 rfl rfl) rfl dX5_split_1 hp (fun r1_1 hp => ?_)
  refine x_aload_n X dX5_split_4 hl 0 rfl rfl ?_
  refine q_getI (ci := 5) X V inX5 rfl (by decide) rfl 2 (by decide) rfl (tw_1 128 rfl rfl) rfl dX5_split_5 hp (fun v5_2 hp => ?_)
  obtain ⟨b8_3, e0, hp2⟩ := q_nn_of hp
  clear hp; subst e0; have hp := hp2; clear hp2
  refine q_aldB X V dX5_split_8 hp (fun r8_4 hp => ?_)
  refine x_astore_n (lst' := [(2, .inr r8_4), (0, .inr (some a0)), (1, .inl x1)]) X dX5_split_9 hl rfl (by decide) rfl (fun ls hl => ?_)
  refine x_aload_n X dX5_split_10 hl 1 rfl rfl ?_
  refine q_getI (ci := 5) X V inX5 rfl (by decide) rfl 2 (by decide) rfl (tw_1 128 rfl rfl) rfl dX5_split_11 hp (fun v11_5 hp => ?_)
  refine x_istore_n (lst' := [(3, .inl v11_5), (2, .inr r8_4), (0, .inr (some a0)), (1, .inl x1)]) X dX5_split_14 hl rfl (by decide) rfl (fun ls hl => ?_)
  refine bX5_split_15 X hr (fun G H locs ls x1 x2 V hl hp => ?_) _ _ _ _ _ _ _ _ V (lx_sub hl [2, 3, 1, 0] rfl) hp
  refine x_aload_n X dX5_split_42 hl 0 rfl rfl ?_
  refine q_getR (ci := 5) X V inX5 rfl (by decide) rfl 1 (by decide) rfl (tw_1 126 rfl rfl) rfl dX5_split_43 hp (fun r43_11 hp => ?_)
  refine x_iload_n X dX5_split_46 hl 1 rfl rfl ?_
  refine lv_iconst (v := (1 : Int32)) hx hb dX5_split_47 (by decide) ?_
  refine lv_iadd hx hb dX5_split_48 ?_
  refine x_aload_n X dX5_split_49 hl 2 rfl rfl ?_
  obtain ⟨b50_12, e0, hp2⟩ := q_nn_of hp
  clear hp; subst e0; have hp := hp2; clear hp2
  refine q_astB (ci := 0) X V rfl rfl (by decide) rfl dX5_split_50 hp (fun G H locs V hp => ?_)
  refine x_aload_n X dX5_split_51 hl 0 rfl rfl ?_
  refine lv_dup hx hb dX5_split_52 (va_rf_cat _) ?_
  refine q_getI (ci := 5) X V inX5 rfl (by decide) rfl 2 (by decide) rfl (tw_1 128 rfl rfl) rfl dX5_split_53 hp (fun v53_13 hp => ?_)
  refine lv_iconst (v := (1 : Int32)) hx hb dX5_split_56 (by decide) ?_
  refine lv_iadd hx hb dX5_split_57 ?_
  refine q_putI (ci := 5) X V inX5 rfl tyX5 tyX5_ok nmX5 (by decide) rfl 2 (by decide) rfl (tw_1 128 rfl rfl) rfl (Or.inl rfl) .int rfl rfl rfl dX5_split_58 hp (fun G H locs V hp => ?_)
  refine x_aload_n X dX5_split_61 hl 0 rfl rfl ?_
  refine q_getR (ci := 5) X V inX5 rfl (by decide) rfl 1 (by decide) rfl (tw_1 126 rfl rfl) rfl dX5_split_62 hp (fun r62_14 hp => ?_)
  refine x_iload_n X dX5_split_65 hl 1 rfl rfl ?_
  obtain ⟨b66_15, e0, hp2⟩ := q_nn_of hp
  clear hp; subst e0; have hp := hp2; clear hp2
  refine q_aldB X V dX5_split_66 hp (fun r66_16 hp => ?_)
  refine x_aload_n X dX5_split_67 hl 2 rfl rfl ?_
  obtain ⟨b68_17, e0, hp2⟩ := q_nn_of hp
  clear hp; subst e0; have hp := hp2; clear hp2
  obtain ⟨hk, hp⟩ := q_is_of hp
  obtain ⟨⟨G, u⟩, hq, hp⟩ := q_cl_of hp
  dsimp only at hp
  refine q_gov (cells' := 0) (slots' := 0) (va_runV (As := [va_rf x2]) (rest := []) X.1 (cX0_moveUpperHalf l E hq) (tw_cwV 1 X.1.2.2.2.2 (tw_2 41 rfl rfl) kX0_moveUpperHalf.2.1 kX0_moveUpperHalf.2.2.1 kX0_moveUpperHalf.2.2.2 kX0_moveUpperHalf.1 rfl rfl hX0_moveUpperHalf ⟨Nat.le_of_ble_eq_true rfl, Nat.le_of_ble_eq_true rfl⟩) (mm_preV X V rfl (by decide) rfl hk) rfl rfl hl.1 rfl (lv_room (Nat.le_of_ble_eq_true rfl)) dX5_split_68 ⟨by decide, by decide⟩) V ⟨rfl, rfl⟩ (fun H locs V => ?_)
  exact q_vret X V hr ⟨by decide, by decide⟩ dX5_split_71 hp
theorem cX5_split (l : Launch) (E : mm_E) {N a0 : Nat} {G : mm_M} {x1 : Int32} {res : mm_M × Unit} (hp : pX5_split_0 N a0 G x1 = some res) : Met l yX5_split (Cond.code yX5_split prog_7_method_9_code 4 none :: tw_T) rX5_split (mm_Pc E G [.ref a0, .int x1]) (mm_Qv E res.1) 0 0 (mm_A E) :=
  mm_met (own := "XorOverlay$Table") E G [.inr (some a0), .inl x1] (by decide) rfl rfl (Nat.le_of_ble_eq_true rfl) (fun p e s m args below meth c ls X hr hi V hl => bX5_split_0 X hr V hl hp)
abbrev yX0_makeRoom : MethodName := ⟨"XorOverlay$Bucket", "makeRoom", "()Z"⟩
abbrev rX0_makeRoom : Room := { frames := 1, cells := 0, slots := 0, locals := 22 }
theorem kX0_makeRoom : Cond.code yX0_makeRoom prog_2_method_8_code 2 (Option.some .boolean) ∈ tw_T ∧ Cond.instanceMethod yX0_makeRoom ∈ tw_T ∧ Cond.selects "XorOverlay$Bucket" yX0_makeRoom yX0_makeRoom ∈ tw_T ∧ Cond.initialized "XorOverlay$Bucket" ∈ tw_T := ⟨(tw_2 50 rfl rfl), (tw_2 48 rfl rfl), (tw_2 49 rfl rfl), (tw_1 6 rfl rfl)⟩
theorem hX0_makeRoom : yX0_makeRoom.cls = "XorOverlay$Bucket" ∧ yX0_makeRoom.cls ≠ "java/lang/invoke/MethodHandle" ∧ yX0_makeRoom.cls ≠ "java/lang/invoke/VarHandle" ∧ (parseMethodDescriptor yX0_makeRoom.desc).map (fun d => d.parameters.length) = some 0 := by decide +kernel
theorem dX0_makeRoom_0 : decode prog_2_method_8_code 0 = .ok (.iconst 0, 1) := by decide +kernel
theorem dX0_makeRoom_1 : decode prog_2_method_8_code 1 = .ok (.istore_n 1, 1) := by decide +kernel
theorem dX0_makeRoom_2 : decode prog_2_method_8_code 2 = .ok (.iload_n 1, 1) := by decide +kernel
theorem dX0_makeRoom_3 : decode prog_2_method_8_code 3 = .ok (.aload_n 0, 1) := by decide +kernel
theorem dX0_makeRoom_4 : decode prog_2_method_8_code 4 = .ok (.getfield 28, 3) := by decide +kernel
theorem dX0_makeRoom_7 : decode prog_2_method_8_code 7 = .ok (.if_icmp .ge 31, 3) := by decide +kernel
theorem dX0_makeRoom_10 : decode prog_2_method_8_code 10 = .ok (.aload_n 0, 1) := by decide +kernel
theorem dX0_makeRoom_11 : decode prog_2_method_8_code 11 = .ok (.invokevirtual 31, 3) := by decide +kernel
theorem dX0_makeRoom_14 : decode prog_2_method_8_code 14 = .ok (.ifCond .eq 24, 3) := by decide +kernel
theorem dX0_makeRoom_17 : decode prog_2_method_8_code 17 = .ok (.aload_n 0, 1) := by decide +kernel
theorem dX0_makeRoom_18 : decode prog_2_method_8_code 18 = .ok (.getfield 15, 3) := by decide +kernel
theorem dX0_makeRoom_21 : decode prog_2_method_8_code 21 = .ok (.iload_n 1, 1) := by decide +kernel
theorem dX0_makeRoom_22 : decode prog_2_method_8_code 22 = .ok (.iaload, 1) := by decide +kernel
theorem dX0_makeRoom_23 : decode prog_2_method_8_code 23 = .ok (.iconst 2, 1) := by decide +kernel
theorem dX0_makeRoom_24 : decode prog_2_method_8_code 24 = .ok (.if_icmp .lt 8, 3) := by decide +kernel
theorem dX0_makeRoom_27 : decode prog_2_method_8_code 27 = .ok (.aload_n 0, 1) := by decide +kernel
theorem dX0_makeRoom_28 : decode prog_2_method_8_code 28 = .ok (.iload_n 1, 1) := by decide +kernel
theorem dX0_makeRoom_29 : decode prog_2_method_8_code 29 = .ok (.invokevirtual 35, 3) := by decide +kernel
theorem dX0_makeRoom_32 : decode prog_2_method_8_code 32 = .ok (.iinc 1 1, 3) := by decide +kernel
theorem dX0_makeRoom_35 : decode prog_2_method_8_code 35 = .ok (.goto (-33), 3) := by decide +kernel
theorem dX0_makeRoom_38 : decode prog_2_method_8_code 38 = .ok (.aload_n 0, 1) := by decide +kernel
theorem dX0_makeRoom_39 : decode prog_2_method_8_code 39 = .ok (.invokevirtual 31, 3) := by decide +kernel
theorem dX0_makeRoom_42 : decode prog_2_method_8_code 42 = .ok (.ifCond .ne 7, 3) := by decide +kernel
theorem dX0_makeRoom_45 : decode prog_2_method_8_code 45 = .ok (.iconst 1, 1) := by decide +kernel
theorem dX0_makeRoom_46 : decode prog_2_method_8_code 46 = .ok (.goto 4, 3) := by decide +kernel
theorem dX0_makeRoom_49 : decode prog_2_method_8_code 49 = .ok (.iconst 0, 1) := by decide +kernel
theorem dX0_makeRoom_50 : decode prog_2_method_8_code 50 = .ok (.ireturn, 1) := by decide +kernel
def pX0_makeRoom_2_b (N a0 : Nat) (kb : mm_M → Int32 → Option (mm_M × Int32)) (kx : mm_M → Option (mm_M × Int32)) (G : mm_M) (x1 : Int32) : Option (mm_M × Int32) :=
  q_gI G a0 1 5 fun v4_1 =>
  if v4_1 ≤ x1 then
    kx G
  else
    q_is G a0 1 <|
    q_cl (pX0_isFull_0 N a0 G) fun G v11_3 =>
    if v11_3 = 0 then
      kx G
    else
      q_gR G a0 1 1 fun r18_4 =>
      q_nn r18_4 fun b22_5 =>
      q_aI G b22_5 101 x1 fun v22_6 =>
      if v22_6 < (2 : Int32) then
        kb G (x1 + (1 : Int32))
      else
        q_is G a0 1 <|
        q_cl (pX0_removeAt_0 N a0 G x1) fun G _ =>
        kb G (x1 + (1 : Int32))
def pX0_makeRoom_2 (N a0 : Nat) (kx : mm_M → Option (mm_M × Int32)) : Nat → mm_M → Int32 → Option (mm_M × Int32)
  | 0 => fun _ _ => none
  | n + 1 => pX0_makeRoom_2_b N a0 (pX0_makeRoom_2 N a0 kx n) kx
set_option maxRecDepth 100000 in
set_option maxHeartbeats 4000000 in
theorem bX0_makeRoom_2 {p : Program} {l : Launch} {e : Env} {s : State} {m : MethodId} {args : Array Value} {below : List Frame} {meth : Method} {c : Code} {E : mm_E} {N a0 : Nat} {res : mm_M × Int32} (X : mm_X p s m args meth c prog_2_method_8_code 2 "XorOverlay$Bucket" tw_T E) (hr : meth.sig.returnType = (Option.some .boolean)) {kx : mm_M → Option (mm_M × Int32)} (hkx : ∀ (G : mm_M) (H : Heap) (locs : List Loc) (ls : Array Slot), mm_V E s G H locs → lx_has ls 2 [(0, .inr (some a0))] → kx G = some res → W p l e rX0_makeRoom s m args below meth c H locs 0 0 (MQ below (mm_Qi E res.1 res.2) args s 0 0 (mm_A E)) (F0 m 38 ls [])) :
    ∀ (n : Nat) (G : mm_M) (H : Heap) (locs : List Loc) (ls : Array Slot) (x1 : Int32), mm_V E s G H locs → lx_has ls 2 [(0, .inr (some a0)), (1, .inl x1)] → pX0_makeRoom_2 N a0 kx n G x1 = some res → W p l e rX0_makeRoom s m args below meth c H locs 0 0 (MQ below (mm_Qi E res.1 res.2) args s 0 0 (mm_A E)) (F0 m 2 ls []) := by
  have hx := X.1.1
  have hb := X.1.2.1
  intro n
  induction n with
  | zero =>
    intro G H locs ls x1 V hl hp
    cases hp
  | succ n ih =>
    intro G H locs ls x1 V hl hp
    have hp : pX0_makeRoom_2_b N a0 (pX0_makeRoom_2 N a0 kx n) kx G x1 = some res := hp
    unfold pX0_makeRoom_2_b at hp
    refine x_iload_n X dX0_makeRoom_2 hl 1 rfl rfl ?_
    refine x_aload_n X dX0_makeRoom_3 hl 0 rfl rfl ?_
    refine q_getI (ci := 0) X V inX0 rfl (by decide) rfl 5 (by decide) rfl (tw_1 109 rfl rfl) rfl dX0_makeRoom_4 hp (fun v4_1 hp => ?_)
    refine q_if hp (lv_icmp_ge (tgt := 38) hx hb dX0_makeRoom_7 (by decide)) (fun hp => ?_) (fun hp => ?_)
    · exact hkx _ _ _ _ V (lx_sub hl [0] rfl) hp
    · refine x_aload_n X dX0_makeRoom_10 hl 0 rfl rfl ?_
      obtain ⟨hk, hp⟩ := q_is_of hp
      obtain ⟨⟨G, v11_3⟩, hq, hp⟩ := q_cl_of hp
      dsimp only at hp
      refine q_goi (cells' := 0) (slots' := 0) (va_runV (As := []) (rest := []) X.1 (cX0_isFull l E hq) (tw_cwV 0 X.1.2.2.2.2 (tw_2 33 rfl rfl) kX0_isFull.2.1 kX0_isFull.2.2.1 kX0_isFull.2.2.2 kX0_isFull.1 rfl rfl hX0_isFull ⟨Nat.le_of_ble_eq_true rfl, Nat.le_of_ble_eq_true rfl⟩) (mm_preV X V rfl (by decide) rfl hk) rfl rfl hl.1 rfl (lv_room (Nat.le_of_ble_eq_true rfl)) dX0_makeRoom_11 ⟨by decide, by decide⟩) V ⟨rfl, rfl⟩ (fun H locs V => ?_)
      refine q_if hp (lv_if_eq (tgt := 38) hx hb dX0_makeRoom_14 (by decide)) (fun hp => ?_) (fun hp => ?_)
      · exact hkx _ _ _ _ V (lx_sub hl [0] rfl) hp
      · refine x_aload_n X dX0_makeRoom_17 hl 0 rfl rfl ?_
        refine q_getR (ci := 0) X V inX0 rfl (by decide) rfl 1 (by decide) rfl (tw_1 98 rfl rfl) rfl dX0_makeRoom_18 hp (fun r18_4 hp => ?_)
        refine x_iload_n X dX0_makeRoom_21 hl 1 rfl rfl ?_
        obtain ⟨b22_5, e0, hp2⟩ := q_nn_of hp
        clear hp; subst e0; have hp := hp2; clear hp2
        refine q_iald X V dX0_makeRoom_22 hp (fun v22_6 hp => ?_)
        refine lv_iconst (v := (2 : Int32)) hx hb dX0_makeRoom_23 (by decide) ?_
        refine q_if hp (lv_icmp_lt (tgt := 32) hx hb dX0_makeRoom_24 (by decide)) (fun hp => ?_) (fun hp => ?_)
        · refine x_iinc (v := (1 : Int32)) (lst' := [(1, .inl (x1 + (1 : Int32))), (0, .inr (some a0))]) X dX0_makeRoom_32 hl 1 rfl (by decide) (by decide) rfl (fun ls hl => ?_)
          refine lv_goto (tgt := 2) hx hb dX0_makeRoom_35 (by decide) ?_
          exact ih _ _ _ _ _ V (lx_sub hl [1, 0] rfl) hp
        · refine x_aload_n X dX0_makeRoom_27 hl 0 rfl rfl ?_
          refine x_iload_n X dX0_makeRoom_28 hl 1 rfl rfl ?_
          obtain ⟨hk, hp⟩ := q_is_of hp
          obtain ⟨⟨G, u⟩, hq, hp⟩ := q_cl_of hp
          dsimp only at hp
          refine q_gov (cells' := 0) (slots' := 0) (va_runV (As := [.int x1]) (rest := []) X.1 (cX0_removeAt l E hq) (tw_cwV 1 X.1.2.2.2.2 (tw_2 51 rfl rfl) kX0_removeAt.2.1 kX0_removeAt.2.2.1 kX0_removeAt.2.2.2 kX0_removeAt.1 rfl rfl hX0_removeAt ⟨Nat.le_of_ble_eq_true rfl, Nat.le_of_ble_eq_true rfl⟩) (mm_preV X V rfl (by decide) rfl hk) rfl rfl hl.1 rfl (lv_room (Nat.le_of_ble_eq_true rfl)) dX0_makeRoom_29 ⟨by decide, by decide⟩) V ⟨rfl, rfl⟩ (fun H locs V => ?_)
          refine x_iinc (v := (1 : Int32)) (lst' := [(1, .inl (x1 + (1 : Int32))), (0, .inr (some a0))]) X dX0_makeRoom_32 hl 1 rfl (by decide) (by decide) rfl (fun ls hl => ?_)
          refine lv_goto (tgt := 2) hx hb dX0_makeRoom_35 (by decide) ?_
          exact ih _ _ _ _ _ V (lx_sub hl [1, 0] rfl) hp
def pX0_makeRoom_0 (N a0 : Nat) (G : mm_M) : Option (mm_M × Int32) :=
  pX0_makeRoom_2 N a0 (fun (G : mm_M) =>
    q_is G a0 1 <|
    q_cl (pX0_isFull_0 N a0 G) fun G v39_9 =>
    if v39_9 = 0 then
      some (G, (1 : Int32))
    else
      some (G, (0 : Int32))) N G (0 : Int32)
set_option maxRecDepth 100000 in
set_option maxHeartbeats 4000000 in
theorem bX0_makeRoom_0 {p : Program} {l : Launch} {e : Env} {s : State} {m : MethodId} {args : Array Value} {below : List Frame} {meth : Method} {c : Code} {E : mm_E} {N a0 : Nat} {res : mm_M × Int32} (X : mm_X p s m args meth c prog_2_method_8_code 2 "XorOverlay$Bucket" tw_T E) (hr : meth.sig.returnType = (Option.some .boolean)) {G : mm_M} {H : Heap} {locs : List Loc} {ls : Array Slot} (V : mm_V E s G H locs) (hl : lx_has ls 2 [(0, .inr (some a0))]) (hp : pX0_makeRoom_0 N a0 G = some res) : W p l e rX0_makeRoom s m args below meth c H locs 0 0 (MQ below (mm_Qi E res.1 res.2) args s 0 0 (mm_A E)) (F0 m 0 ls []) := by
  have hx := X.1.1
  have hb := X.1.2.1
  unfold pX0_makeRoom_0 at hp
  refine lv_iconst (v := (0 : Int32)) hx hb dX0_makeRoom_0 (by decide) ?_
  refine x_istore_n (lst' := [(1, .inl (0 : Int32)), (0, .inr (some a0))]) X dX0_makeRoom_1 hl rfl (by decide) rfl (fun ls hl => ?_)
  refine bX0_makeRoom_2 X hr (fun G H locs ls V hl hp => ?_) _ _ _ _ _ _ V (lx_sub hl [1, 0] rfl) hp
  refine x_aload_n X dX0_makeRoom_38 hl 0 rfl rfl ?_
  obtain ⟨hk, hp⟩ := q_is_of hp
  obtain ⟨⟨G, v39_9⟩, hq, hp⟩ := q_cl_of hp
  dsimp only at hp
  refine q_goi (cells' := 0) (slots' := 0) (va_runV (As := []) (rest := []) X.1 (cX0_isFull l E hq) (tw_cwV 0 X.1.2.2.2.2 (tw_2 33 rfl rfl) kX0_isFull.2.1 kX0_isFull.2.2.1 kX0_isFull.2.2.2 kX0_isFull.1 rfl rfl hX0_isFull ⟨Nat.le_of_ble_eq_true rfl, Nat.le_of_ble_eq_true rfl⟩) (mm_preV X V rfl (by decide) rfl hk) rfl rfl hl.1 rfl (lv_room (Nat.le_of_ble_eq_true rfl)) dX0_makeRoom_39 ⟨by decide, by decide⟩) V ⟨rfl, rfl⟩ (fun H locs V => ?_)
  refine q_ifn hp (lv_if_ne (tgt := 49) hx hb dX0_makeRoom_42 (by decide)) (fun hp => ?_) (fun hp => ?_)
  · refine lv_iconst (v := (0 : Int32)) hx hb dX0_makeRoom_49 (by decide) ?_
    exact q_zret X V hr rfl ⟨by decide, by decide⟩ dX0_makeRoom_50 hp
  · refine lv_iconst (v := (1 : Int32)) hx hb dX0_makeRoom_45 (by decide) ?_
    refine lv_goto (tgt := 50) hx hb dX0_makeRoom_46 (by decide) ?_
    exact q_zret X V hr rfl ⟨by decide, by decide⟩ dX0_makeRoom_50 hp
theorem cX0_makeRoom (l : Launch) (E : mm_E) {N a0 : Nat} {G : mm_M} {res : mm_M × Int32} (hp : pX0_makeRoom_0 N a0 G = some res) : Met l yX0_makeRoom (Cond.code yX0_makeRoom prog_2_method_8_code 2 (Option.some .boolean) :: tw_T) rX0_makeRoom (mm_Pc E G [.ref a0]) (mm_Qi E res.1 res.2) 0 0 (mm_A E) :=
  mm_met (own := "XorOverlay$Bucket") E G [.inr (some a0)] (by decide) rfl rfl (Nat.le_of_ble_eq_true rfl) (fun p e s m args below meth c ls X hr hi V hl => bX0_makeRoom_0 X hr V hl hp)
abbrev yX5_see : MethodName := ⟨"XorOverlay$Table", "see", "(II)V"⟩
abbrev rX5_see : Room := { frames := 3, cells := 0, slots := 0, locals := 70 }
theorem kX5_see : Cond.code yX5_see prog_7_method_3_code 6 none ∈ tw_T ∧ Cond.instanceMethod yX5_see ∈ tw_T ∧ Cond.selects "XorOverlay$Table" yX5_see yX5_see ∈ tw_T ∧ Cond.initialized "XorOverlay$Table" ∈ tw_T := ⟨(tw_2 12 rfl rfl), (tw_2 10 rfl rfl), (tw_2 11 rfl rfl), (tw_1 5 rfl rfl)⟩
theorem hX5_see : yX5_see.cls = "XorOverlay$Table" ∧ yX5_see.cls ≠ "java/lang/invoke/MethodHandle" ∧ yX5_see.cls ≠ "java/lang/invoke/VarHandle" ∧ (parseMethodDescriptor yX5_see.desc).map (fun d => d.parameters.length) = some 2 := by decide +kernel
theorem dX5_see_0 : decode prog_7_method_3_code 0 = .ok (.iload_n 1, 1) := by decide +kernel
theorem dX5_see_1 : decode prog_7_method_3_code 1 = .ok (.aload_n 0, 1) := by decide +kernel
theorem dX5_see_2 : decode prog_7_method_3_code 2 = .ok (.getfield 9, 3) := by decide +kernel
theorem dX5_see_5 : decode prog_7_method_3_code 5 = .ok (.if_icmp .ne 4, 3) := by decide +kernel
theorem dX5_see_8 : decode prog_7_method_3_code 8 = .ok (.return_, 1) := by decide +kernel
theorem dX5_see_9 : decode prog_7_method_3_code 9 = .ok (.aload_n 0, 1) := by decide +kernel
theorem dX5_see_10 : decode prog_7_method_3_code 10 = .ok (.iload_n 1, 1) := by decide +kernel
theorem dX5_see_11 : decode prog_7_method_3_code 11 = .ok (.invokevirtual 29, 3) := by decide +kernel
theorem dX5_see_14 : decode prog_7_method_3_code 14 = .ok (.istore_n 3, 1) := by decide +kernel
theorem dX5_see_15 : decode prog_7_method_3_code 15 = .ok (.aload_n 0, 1) := by decide +kernel
theorem dX5_see_16 : decode prog_7_method_3_code 16 = .ok (.getfield 17, 3) := by decide +kernel
theorem dX5_see_19 : decode prog_7_method_3_code 19 = .ok (.iload_n 3, 1) := by decide +kernel
theorem dX5_see_20 : decode prog_7_method_3_code 20 = .ok (.aaload, 1) := by decide +kernel
theorem dX5_see_21 : decode prog_7_method_3_code 21 = .ok (.iload_n 1, 1) := by decide +kernel
theorem dX5_see_22 : decode prog_7_method_3_code 22 = .ok (.invokevirtual 33, 3) := by decide +kernel
theorem dX5_see_25 : decode prog_7_method_3_code 25 = .ok (.istore 4, 2) := by decide +kernel
theorem dX5_see_27 : decode prog_7_method_3_code 27 = .ok (.iload 4, 2) := by decide +kernel
theorem dX5_see_29 : decode prog_7_method_3_code 29 = .ok (.iconst (-1), 1) := by decide +kernel
theorem dX5_see_30 : decode prog_7_method_3_code 30 = .ok (.if_icmp .eq 36, 3) := by decide +kernel
theorem dX5_see_33 : decode prog_7_method_3_code 33 = .ok (.aload_n 0, 1) := by decide +kernel
theorem dX5_see_34 : decode prog_7_method_3_code 34 = .ok (.getfield 17, 3) := by decide +kernel
theorem dX5_see_37 : decode prog_7_method_3_code 37 = .ok (.iload_n 3, 1) := by decide +kernel
theorem dX5_see_38 : decode prog_7_method_3_code 38 = .ok (.aaload, 1) := by decide +kernel
theorem dX5_see_39 : decode prog_7_method_3_code 39 = .ok (.iload 4, 2) := by decide +kernel
theorem dX5_see_41 : decode prog_7_method_3_code 41 = .ok (.invokevirtual 36, 3) := by decide +kernel
theorem dX5_see_44 : decode prog_7_method_3_code 44 = .ok (.aload_n 0, 1) := by decide +kernel
theorem dX5_see_45 : decode prog_7_method_3_code 45 = .ok (.getfield 17, 3) := by decide +kernel
theorem dX5_see_48 : decode prog_7_method_3_code 48 = .ok (.iload_n 3, 1) := by decide +kernel
theorem dX5_see_49 : decode prog_7_method_3_code 49 = .ok (.aaload, 1) := by decide +kernel
theorem dX5_see_50 : decode prog_7_method_3_code 50 = .ok (.iload_n 1, 1) := by decide +kernel
theorem dX5_see_51 : decode prog_7_method_3_code 51 = .ok (.iconst 0, 1) := by decide +kernel
theorem dX5_see_52 : decode prog_7_method_3_code 52 = .ok (.invokevirtual 40, 3) := by decide +kernel
theorem dX5_see_55 : decode prog_7_method_3_code 55 = .ok (.aload_n 0, 1) := by decide +kernel
theorem dX5_see_56 : decode prog_7_method_3_code 56 = .ok (.getfield 17, 3) := by decide +kernel
theorem dX5_see_59 : decode prog_7_method_3_code 59 = .ok (.iload_n 3, 1) := by decide +kernel
theorem dX5_see_60 : decode prog_7_method_3_code 60 = .ok (.aaload, 1) := by decide +kernel
theorem dX5_see_61 : decode prog_7_method_3_code 61 = .ok (.iload_n 2, 1) := by decide +kernel
theorem dX5_see_62 : decode prog_7_method_3_code 62 = .ok (.putfield 44, 3) := by decide +kernel
theorem dX5_see_65 : decode prog_7_method_3_code 65 = .ok (.return_, 1) := by decide +kernel
theorem dX5_see_66 : decode prog_7_method_3_code 66 = .ok (.aload_n 0, 1) := by decide +kernel
theorem dX5_see_67 : decode prog_7_method_3_code 67 = .ok (.getfield 22, 3) := by decide +kernel
theorem dX5_see_70 : decode prog_7_method_3_code 70 = .ok (.istore 5, 2) := by decide +kernel
theorem dX5_see_72 : decode prog_7_method_3_code 72 = .ok (.iload 5, 2) := by decide +kernel
theorem dX5_see_74 : decode prog_7_method_3_code 74 = .ok (.bipush 9, 2) := by decide +kernel
theorem dX5_see_76 : decode prog_7_method_3_code 76 = .ok (.if_icmp .ge 36, 3) := by decide +kernel
theorem dX5_see_79 : decode prog_7_method_3_code 79 = .ok (.aload_n 0, 1) := by decide +kernel
theorem dX5_see_80 : decode prog_7_method_3_code 80 = .ok (.getfield 17, 3) := by decide +kernel
theorem dX5_see_83 : decode prog_7_method_3_code 83 = .ok (.iload_n 3, 1) := by decide +kernel
theorem dX5_see_84 : decode prog_7_method_3_code 84 = .ok (.aaload, 1) := by decide +kernel
theorem dX5_see_85 : decode prog_7_method_3_code 85 = .ok (.aload_n 0, 1) := by decide +kernel
theorem dX5_see_86 : decode prog_7_method_3_code 86 = .ok (.getfield 9, 3) := by decide +kernel
theorem dX5_see_89 : decode prog_7_method_3_code 89 = .ok (.invokevirtual 47, 3) := by decide +kernel
theorem dX5_see_92 : decode prog_7_method_3_code 92 = .ok (.ifCond .eq 20, 3) := by decide +kernel
theorem dX5_see_95 : decode prog_7_method_3_code 95 = .ok (.aload_n 0, 1) := by decide +kernel
theorem dX5_see_96 : decode prog_7_method_3_code 96 = .ok (.iload_n 3, 1) := by decide +kernel
theorem dX5_see_97 : decode prog_7_method_3_code 97 = .ok (.invokevirtual 51, 3) := by decide +kernel
theorem dX5_see_100 : decode prog_7_method_3_code 100 = .ok (.aload_n 0, 1) := by decide +kernel
theorem dX5_see_101 : decode prog_7_method_3_code 101 = .ok (.iload_n 1, 1) := by decide +kernel
theorem dX5_see_102 : decode prog_7_method_3_code 102 = .ok (.invokevirtual 29, 3) := by decide +kernel
theorem dX5_see_105 : decode prog_7_method_3_code 105 = .ok (.istore_n 3, 1) := by decide +kernel
theorem dX5_see_106 : decode prog_7_method_3_code 106 = .ok (.iinc 5 1, 3) := by decide +kernel
theorem dX5_see_109 : decode prog_7_method_3_code 109 = .ok (.goto (-37), 3) := by decide +kernel
theorem dX5_see_112 : decode prog_7_method_3_code 112 = .ok (.aload_n 0, 1) := by decide +kernel
theorem dX5_see_113 : decode prog_7_method_3_code 113 = .ok (.getfield 17, 3) := by decide +kernel
theorem dX5_see_116 : decode prog_7_method_3_code 116 = .ok (.iload_n 3, 1) := by decide +kernel
theorem dX5_see_117 : decode prog_7_method_3_code 117 = .ok (.aaload, 1) := by decide +kernel
theorem dX5_see_118 : decode prog_7_method_3_code 118 = .ok (.invokevirtual 54, 3) := by decide +kernel
theorem dX5_see_121 : decode prog_7_method_3_code 121 = .ok (.ifCond .eq 24, 3) := by decide +kernel
theorem dX5_see_124 : decode prog_7_method_3_code 124 = .ok (.aload_n 0, 1) := by decide +kernel
theorem dX5_see_125 : decode prog_7_method_3_code 125 = .ok (.getfield 17, 3) := by decide +kernel
theorem dX5_see_128 : decode prog_7_method_3_code 128 = .ok (.iload_n 3, 1) := by decide +kernel
theorem dX5_see_129 : decode prog_7_method_3_code 129 = .ok (.aaload, 1) := by decide +kernel
theorem dX5_see_130 : decode prog_7_method_3_code 130 = .ok (.iload_n 1, 1) := by decide +kernel
theorem dX5_see_131 : decode prog_7_method_3_code 131 = .ok (.iconst 0, 1) := by decide +kernel
theorem dX5_see_132 : decode prog_7_method_3_code 132 = .ok (.invokevirtual 40, 3) := by decide +kernel
theorem dX5_see_135 : decode prog_7_method_3_code 135 = .ok (.aload_n 0, 1) := by decide +kernel
theorem dX5_see_136 : decode prog_7_method_3_code 136 = .ok (.getfield 17, 3) := by decide +kernel
theorem dX5_see_139 : decode prog_7_method_3_code 139 = .ok (.iload_n 3, 1) := by decide +kernel
theorem dX5_see_140 : decode prog_7_method_3_code 140 = .ok (.aaload, 1) := by decide +kernel
theorem dX5_see_141 : decode prog_7_method_3_code 141 = .ok (.iload_n 2, 1) := by decide +kernel
theorem dX5_see_142 : decode prog_7_method_3_code 142 = .ok (.putfield 44, 3) := by decide +kernel
theorem dX5_see_145 : decode prog_7_method_3_code 145 = .ok (.return_, 1) := by decide +kernel
def pX5_see_72_b (N a0 : Nat) (kb : mm_M → Int32 → Int32 → Int32 → Int32 → Option (mm_M × Unit)) (kx : mm_M → Int32 → Int32 → Int32 → Option (mm_M × Unit)) (G : mm_M) (x1 : Int32) (x2 : Int32) (x3 : Int32) (x5 : Int32) : Option (mm_M × Unit) :=
  if (9 : Int32) ≤ x5 then
    kx G x1 x2 x3
  else
    q_gR G a0 6 1 fun r80_11 =>
    q_nn r80_11 fun b84_12 =>
    q_aR G b84_12 104 x3 fun r84_13 =>
    q_gI G a0 6 0 fun v86_14 =>
    q_nn r84_13 fun b89_15 =>
    q_is G b89_15 1 <|
    q_cl (pX0_mustSplitFor_0 N b89_15 G v86_14) fun G v89_17 =>
    if v89_17 = 0 then
      kx G x1 x2 x3
    else
      q_is G a0 6 <|
      q_cl (pX5_split_0 N a0 G x3) fun G _ =>
      q_is G a0 6 <|
      q_cl (pX5_rangeOf_0 N a0 G x1) fun G v102_20 =>
      kb G x1 x2 v102_20 (x5 + (1 : Int32))
def pX5_see_72 (N a0 : Nat) (kx : mm_M → Int32 → Int32 → Int32 → Option (mm_M × Unit)) : Nat → mm_M → Int32 → Int32 → Int32 → Int32 → Option (mm_M × Unit)
  | 0 => fun _ _ _ _ _ => none
  | n + 1 => pX5_see_72_b N a0 (pX5_see_72 N a0 kx n) kx
set_option maxRecDepth 100000 in
set_option maxHeartbeats 4000000 in
theorem bX5_see_72 {p : Program} {l : Launch} {e : Env} {s : State} {m : MethodId} {args : Array Value} {below : List Frame} {meth : Method} {c : Code} {E : mm_E} {N a0 : Nat} {res : mm_M × Unit} (X : mm_X p s m args meth c prog_7_method_3_code 6 "XorOverlay$Table" tw_T E) (hr : meth.sig.returnType = none) {kx : mm_M → Int32 → Int32 → Int32 → Option (mm_M × Unit)} (hkx : ∀ (G : mm_M) (H : Heap) (locs : List Loc) (ls : Array Slot) (x1 : Int32) (x2 : Int32) (x3 : Int32), mm_V E s G H locs → lx_has ls 6 [(0, .inr (some a0)), (1, .inl x1), (2, .inl x2), (3, .inl x3)] → kx G x1 x2 x3 = some res → W p l e rX5_see s m args below meth c H locs 0 0 (MQ below (mm_Qv E res.1) args s 0 0 (mm_A E)) (F0 m 112 ls [])) :
    ∀ (n : Nat) (G : mm_M) (H : Heap) (locs : List Loc) (ls : Array Slot) (x1 : Int32) (x2 : Int32) (x3 : Int32) (x5 : Int32), mm_V E s G H locs → lx_has ls 6 [(0, .inr (some a0)), (1, .inl x1), (2, .inl x2), (3, .inl x3), (5, .inl x5)] → pX5_see_72 N a0 kx n G x1 x2 x3 x5 = some res → W p l e rX5_see s m args below meth c H locs 0 0 (MQ below (mm_Qv E res.1) args s 0 0 (mm_A E)) (F0 m 72 ls []) := by
  have hx := X.1.1
  have hb := X.1.2.1
  intro n
  induction n with
  | zero =>
    intro G H locs ls x1 x2 x3 x5 V hl hp
    cases hp
  | succ n ih =>
    intro G H locs ls x1 x2 x3 x5 V hl hp
    have hp : pX5_see_72_b N a0 (pX5_see_72 N a0 kx n) kx G x1 x2 x3 x5 = some res := hp
    unfold pX5_see_72_b at hp
    refine x_iload X dX5_see_72 hl 4 rfl ?_
    refine lv_bipush (v := (9 : Int32)) hx hb dX5_see_74 (by decide) ?_
    refine q_if hp (lv_icmp_ge (tgt := 112) hx hb dX5_see_76 (by decide)) (fun hp => ?_) (fun hp => ?_)
    · exact hkx _ _ _ _ _ _ _ V (lx_sub hl [0, 1, 2, 3] rfl) hp
    · refine x_aload_n X dX5_see_79 hl 0 rfl rfl ?_
      refine q_getR (ci := 5) X V inX5 rfl (by decide) rfl 1 (by decide) rfl (tw_1 126 rfl rfl) rfl dX5_see_80 hp (fun r80_11 hp => ?_)
      refine x_iload_n X dX5_see_83 hl 3 rfl rfl ?_
      obtain ⟨b84_12, e0, hp2⟩ := q_nn_of hp
      clear hp; subst e0; have hp := hp2; clear hp2
      refine q_aldB X V dX5_see_84 hp (fun r84_13 hp => ?_)
      refine x_aload_n X dX5_see_85 hl 0 rfl rfl ?_
      refine q_getI (ci := 5) X V inX5 rfl (by decide) rfl 0 (by decide) rfl (tw_1 125 rfl rfl) rfl dX5_see_86 hp (fun v86_14 hp => ?_)
      obtain ⟨b89_15, e0, hp2⟩ := q_nn_of hp
      clear hp; subst e0; have hp := hp2; clear hp2
      obtain ⟨hk, hp⟩ := q_is_of hp
      obtain ⟨⟨G, v89_17⟩, hq, hp⟩ := q_cl_of hp
      dsimp only at hp
      refine q_goi (cells' := 0) (slots' := 0) (va_runV (As := [.int v86_14]) (rest := []) X.1 (cX0_mustSplitFor l E hq) (tw_cwV 1 X.1.2.2.2.2 (tw_2 29 rfl rfl) kX0_mustSplitFor.2.1 kX0_mustSplitFor.2.2.1 kX0_mustSplitFor.2.2.2 kX0_mustSplitFor.1 rfl rfl hX0_mustSplitFor ⟨Nat.le_of_ble_eq_true rfl, Nat.le_of_ble_eq_true rfl⟩) (mm_preV X V rfl (by decide) rfl hk) rfl rfl hl.1 rfl (lv_room (Nat.le_of_ble_eq_true rfl)) dX5_see_89 ⟨by decide, by decide⟩) V ⟨rfl, rfl⟩ (fun H locs V => ?_)
      refine q_if hp (lv_if_eq (tgt := 112) hx hb dX5_see_92 (by decide)) (fun hp => ?_) (fun hp => ?_)
      · exact hkx _ _ _ _ _ _ _ V (lx_sub hl [0, 1, 2, 3] rfl) hp
      · refine x_aload_n X dX5_see_95 hl 0 rfl rfl ?_
        refine x_iload_n X dX5_see_96 hl 3 rfl rfl ?_
        obtain ⟨hk, hp⟩ := q_is_of hp
        obtain ⟨⟨G, u⟩, hq, hp⟩ := q_cl_of hp
        dsimp only at hp
        refine q_gov (cells' := 0) (slots' := 0) (va_runV (As := [.int x3]) (rest := []) X.1 (cX5_split l E hq) (tw_cwV 1 X.1.2.2.2.2 (tw_2 37 rfl rfl) kX5_split.2.1 kX5_split.2.2.1 kX5_split.2.2.2 kX5_split.1 rfl rfl hX5_split ⟨Nat.le_of_ble_eq_true rfl, Nat.le_of_ble_eq_true rfl⟩) (mm_preV X V rfl (by decide) rfl hk) rfl rfl hl.1 rfl (lv_room (Nat.le_of_ble_eq_true rfl)) dX5_see_97 ⟨by decide, by decide⟩) V ⟨rfl, rfl⟩ (fun H locs V => ?_)
        refine x_aload_n X dX5_see_100 hl 0 rfl rfl ?_
        refine x_iload_n X dX5_see_101 hl 1 rfl rfl ?_
        obtain ⟨hk, hp⟩ := q_is_of hp
        obtain ⟨⟨G, v102_20⟩, hq, hp⟩ := q_cl_of hp
        dsimp only at hp
        refine q_goi (cells' := 0) (slots' := 0) (va_runV (As := [.int x1]) (rest := []) X.1 (cX5_rangeOf l E hq) (tw_cwV 1 X.1.2.2.2.2 (tw_2 13 rfl rfl) kX5_rangeOf.2.1 kX5_rangeOf.2.2.1 kX5_rangeOf.2.2.2 kX5_rangeOf.1 rfl rfl hX5_rangeOf ⟨Nat.le_of_ble_eq_true rfl, Nat.le_of_ble_eq_true rfl⟩) (mm_preV X V rfl (by decide) rfl hk) rfl rfl hl.1 rfl (lv_room (Nat.le_of_ble_eq_true rfl)) dX5_see_102 ⟨by decide, by decide⟩) V ⟨rfl, rfl⟩ (fun H locs V => ?_)
        refine x_istore_n (lst' := [(3, .inl v102_20), (0, .inr (some a0)), (1, .inl x1), (2, .inl x2), (5, .inl x5)]) X dX5_see_105 hl rfl (by decide) rfl (fun ls hl => ?_)
        refine x_iinc (v := (1 : Int32)) (lst' := [(5, .inl (x5 + (1 : Int32))), (3, .inl v102_20), (0, .inr (some a0)), (1, .inl x1), (2, .inl x2)]) X dX5_see_106 hl 4 rfl (by decide) (by decide) rfl (fun ls hl => ?_)
        refine lv_goto (tgt := 72) hx hb dX5_see_109 (by decide) ?_
        exact ih _ _ _ _ _ _ _ _ V (lx_sub hl [2, 3, 4, 1, 0] rfl) hp
def pX5_see_112 (N a0 : Nat) (G : mm_M) (x1 : Int32) (x2 : Int32) (x3 : Int32) : Option (mm_M × Unit) :=
  q_gR G a0 6 1 fun r113_21 =>
  q_nn r113_21 fun b117_22 =>
  q_aR G b117_22 104 x3 fun r117_23 =>
  q_nn r117_23 fun b118_24 =>
  q_is G b118_24 1 <|
  q_cl (pX0_makeRoom_0 N b118_24 G) fun G v118_26 =>
  if v118_26 = 0 then
    some (G, ())
  else
    q_gR G a0 6 1 fun r125_27 =>
    q_nn r125_27 fun b129_28 =>
    q_aR G b129_28 104 x3 fun r129_29 =>
    q_nn r129_29 fun b132_30 =>
    q_is G b132_30 1 <|
    q_cl (pX0_append_0 N b132_30 G x1 (0 : Int32)) fun G _ =>
    q_gR G a0 6 1 fun r136_32 =>
    q_nn r136_32 fun b140_33 =>
    q_aR G b140_33 104 x3 fun r140_34 =>
    q_nn r140_34 fun b142_35 =>
    q_pI G b142_35 1 4 x2 fun G =>
    some (G, ())
set_option maxRecDepth 100000 in
set_option maxHeartbeats 4000000 in
theorem bX5_see_112 {p : Program} {l : Launch} {e : Env} {s : State} {m : MethodId} {args : Array Value} {below : List Frame} {meth : Method} {c : Code} {E : mm_E} {N a0 : Nat} {res : mm_M × Unit} (X : mm_X p s m args meth c prog_7_method_3_code 6 "XorOverlay$Table" tw_T E) (hr : meth.sig.returnType = none) {G : mm_M} {H : Heap} {locs : List Loc} {ls : Array Slot} {x1 : Int32} {x2 : Int32} {x3 : Int32} (V : mm_V E s G H locs) (hl : lx_has ls 6 [(0, .inr (some a0)), (1, .inl x1), (2, .inl x2), (3, .inl x3)]) (hp : pX5_see_112 N a0 G x1 x2 x3 = some res) : W p l e rX5_see s m args below meth c H locs 0 0 (MQ below (mm_Qv E res.1) args s 0 0 (mm_A E)) (F0 m 112 ls []) := by
  have hx := X.1.1
  have hb := X.1.2.1
  unfold pX5_see_112 at hp
  refine x_aload_n X dX5_see_112 hl 0 rfl rfl ?_
  refine q_getR (ci := 5) X V inX5 rfl (by decide) rfl 1 (by decide) rfl (tw_1 126 rfl rfl) rfl dX5_see_113 hp (fun r113_21 hp => ?_)
  refine x_iload_n X dX5_see_116 hl 3 rfl rfl ?_
  obtain ⟨b117_22, e0, hp2⟩ := q_nn_of hp
  clear hp; subst e0; have hp := hp2; clear hp2
  refine q_aldB X V dX5_see_117 hp (fun r117_23 hp => ?_)
  obtain ⟨b118_24, e0, hp2⟩ := q_nn_of hp
  clear hp; subst e0; have hp := hp2; clear hp2
  obtain ⟨hk, hp⟩ := q_is_of hp
  obtain ⟨⟨G, v118_26⟩, hq, hp⟩ := q_cl_of hp
  dsimp only at hp
  refine q_goi (cells' := 0) (slots' := 0) (va_runV (As := []) (rest := []) X.1 (cX0_makeRoom l E hq) (tw_cwV 0 X.1.2.2.2.2 (tw_2 47 rfl rfl) kX0_makeRoom.2.1 kX0_makeRoom.2.2.1 kX0_makeRoom.2.2.2 kX0_makeRoom.1 rfl rfl hX0_makeRoom ⟨Nat.le_of_ble_eq_true rfl, Nat.le_of_ble_eq_true rfl⟩) (mm_preV X V rfl (by decide) rfl hk) rfl rfl hl.1 rfl (lv_room (Nat.le_of_ble_eq_true rfl)) dX5_see_118 ⟨by decide, by decide⟩) V ⟨rfl, rfl⟩ (fun H locs V => ?_)
  refine q_if hp (lv_if_eq (tgt := 145) hx hb dX5_see_121 (by decide)) (fun hp => ?_) (fun hp => ?_)
  · exact q_vret X V hr ⟨by decide, by decide⟩ dX5_see_145 hp
  · refine x_aload_n X dX5_see_124 hl 0 rfl rfl ?_
    refine q_getR (ci := 5) X V inX5 rfl (by decide) rfl 1 (by decide) rfl (tw_1 126 rfl rfl) rfl dX5_see_125 hp (fun r125_27 hp => ?_)
    refine x_iload_n X dX5_see_128 hl 3 rfl rfl ?_
    obtain ⟨b129_28, e0, hp2⟩ := q_nn_of hp
    clear hp; subst e0; have hp := hp2; clear hp2
    refine q_aldB X V dX5_see_129 hp (fun r129_29 hp => ?_)
    refine x_iload_n X dX5_see_130 hl 1 rfl rfl ?_
    refine lv_iconst (v := (0 : Int32)) hx hb dX5_see_131 (by decide) ?_
    obtain ⟨b132_30, e0, hp2⟩ := q_nn_of hp
    clear hp; subst e0; have hp := hp2; clear hp2
    obtain ⟨hk, hp⟩ := q_is_of hp
    obtain ⟨⟨G, u⟩, hq, hp⟩ := q_cl_of hp
    dsimp only at hp
    refine q_gov (cells' := 0) (slots' := 0) (va_runV (As := [.int x1, .int (0 : Int32)]) (rest := []) X.1 (cX0_append l E hq) (tw_cwV 2 X.1.2.2.2.2 (tw_2 25 rfl rfl) kX0_append.2.1 kX0_append.2.2.1 kX0_append.2.2.2 kX0_append.1 rfl rfl hX0_append ⟨Nat.le_of_ble_eq_true rfl, Nat.le_of_ble_eq_true rfl⟩) (mm_preV X V rfl (by decide) rfl hk) rfl rfl hl.1 rfl (lv_room (Nat.le_of_ble_eq_true rfl)) dX5_see_132 ⟨by decide, by decide⟩) V ⟨rfl, rfl⟩ (fun H locs V => ?_)
    refine x_aload_n X dX5_see_135 hl 0 rfl rfl ?_
    refine q_getR (ci := 5) X V inX5 rfl (by decide) rfl 1 (by decide) rfl (tw_1 126 rfl rfl) rfl dX5_see_136 hp (fun r136_32 hp => ?_)
    refine x_iload_n X dX5_see_139 hl 3 rfl rfl ?_
    obtain ⟨b140_33, e0, hp2⟩ := q_nn_of hp
    clear hp; subst e0; have hp := hp2; clear hp2
    refine q_aldB X V dX5_see_140 hp (fun r140_34 hp => ?_)
    refine x_iload_n X dX5_see_141 hl 2 rfl rfl ?_
    obtain ⟨b142_35, e0, hp2⟩ := q_nn_of hp
    clear hp; subst e0; have hp := hp2; clear hp2
    refine q_putI (ci := 0) X V inX0 rfl tyX0 tyX0_ok nmX0 (by decide) rfl 4 (by decide) rfl (tw_1 107 rfl rfl) rfl (Or.inl rfl) .int rfl rfl rfl dX5_see_142 hp (fun G H locs V hp => ?_)
    exact q_vret X V hr ⟨by decide, by decide⟩ dX5_see_145 hp
def pX5_see_0 (N a0 : Nat) (G : mm_M) (x1 : Int32) (x2 : Int32) : Option (mm_M × Unit) :=
  q_gI G a0 6 0 fun v2_1 =>
  if x1 = v2_1 then
    some (G, ())
  else
    q_is G a0 6 <|
    q_cl (pX5_rangeOf_0 N a0 G x1) fun G v11_3 =>
    q_gR G a0 6 1 fun r16_4 =>
    q_nn r16_4 fun b20_5 =>
    q_aR G b20_5 104 v11_3 fun r20_6 =>
    q_nn r20_6 fun b22_7 =>
    q_is G b22_7 1 <|
    q_cl (pX0_placeOf_0 N b22_7 G x1) fun G v22_9 =>
    if v22_9 = (-1 : Int32) then
      q_gI G a0 6 2 fun v67_10 =>
      pX5_see_72 N a0 (fun (G : mm_M) (x1 : Int32) (x2 : Int32) (x3 : Int32) =>
        pX5_see_112 N a0 G x1 x2 x3) N G x1 x2 v11_3 v67_10
    else
      q_gR G a0 6 1 fun r34_36 =>
      q_nn r34_36 fun b38_37 =>
      q_aR G b38_37 104 v11_3 fun r38_38 =>
      q_nn r38_38 fun b41_39 =>
      q_is G b41_39 1 <|
      q_cl (pX0_removeAt_0 N b41_39 G v22_9) fun G _ =>
      q_gR G a0 6 1 fun r45_41 =>
      q_nn r45_41 fun b49_42 =>
      q_aR G b49_42 104 v11_3 fun r49_43 =>
      q_nn r49_43 fun b52_44 =>
      q_is G b52_44 1 <|
      q_cl (pX0_append_0 N b52_44 G x1 (0 : Int32)) fun G _ =>
      q_gR G a0 6 1 fun r56_46 =>
      q_nn r56_46 fun b60_47 =>
      q_aR G b60_47 104 v11_3 fun r60_48 =>
      q_nn r60_48 fun b62_49 =>
      q_pI G b62_49 1 4 x2 fun G =>
      some (G, ())
set_option maxRecDepth 100000 in
set_option maxHeartbeats 4000000 in
theorem bX5_see_0 {p : Program} {l : Launch} {e : Env} {s : State} {m : MethodId} {args : Array Value} {below : List Frame} {meth : Method} {c : Code} {E : mm_E} {N a0 : Nat} {res : mm_M × Unit} (X : mm_X p s m args meth c prog_7_method_3_code 6 "XorOverlay$Table" tw_T E) (hr : meth.sig.returnType = none) {G : mm_M} {H : Heap} {locs : List Loc} {ls : Array Slot} {x1 : Int32} {x2 : Int32} (V : mm_V E s G H locs) (hl : lx_has ls 6 [(0, .inr (some a0)), (1, .inl x1), (2, .inl x2)]) (hp : pX5_see_0 N a0 G x1 x2 = some res) : W p l e rX5_see s m args below meth c H locs 0 0 (MQ below (mm_Qv E res.1) args s 0 0 (mm_A E)) (F0 m 0 ls []) := by
  have hx := X.1.1
  have hb := X.1.2.1
  unfold pX5_see_0 at hp
  refine x_iload_n X dX5_see_0 hl 1 rfl rfl ?_
  refine x_aload_n X dX5_see_1 hl 0 rfl rfl ?_
  refine q_getI (ci := 5) X V inX5 rfl (by decide) rfl 0 (by decide) rfl (tw_1 125 rfl rfl) rfl dX5_see_2 hp (fun v2_1 hp => ?_)
  refine q_ifn hp (lv_icmp_ne (tgt := 9) hx hb dX5_see_5 (by decide)) (fun hp => ?_) (fun hp => ?_)
  · refine x_aload_n X dX5_see_9 hl 0 rfl rfl ?_
    refine x_iload_n X dX5_see_10 hl 1 rfl rfl ?_
    obtain ⟨hk, hp⟩ := q_is_of hp
    obtain ⟨⟨G, v11_3⟩, hq, hp⟩ := q_cl_of hp
    dsimp only at hp
    refine q_goi (cells' := 0) (slots' := 0) (va_runV (As := [.int x1]) (rest := []) X.1 (cX5_rangeOf l E hq) (tw_cwV 1 X.1.2.2.2.2 (tw_2 13 rfl rfl) kX5_rangeOf.2.1 kX5_rangeOf.2.2.1 kX5_rangeOf.2.2.2 kX5_rangeOf.1 rfl rfl hX5_rangeOf ⟨Nat.le_of_ble_eq_true rfl, Nat.le_of_ble_eq_true rfl⟩) (mm_preV X V rfl (by decide) rfl hk) rfl rfl hl.1 rfl (lv_room (Nat.le_of_ble_eq_true rfl)) dX5_see_11 ⟨by decide, by decide⟩) V ⟨rfl, rfl⟩ (fun H locs V => ?_)
    refine x_istore_n (lst' := [(3, .inl v11_3), (0, .inr (some a0)), (1, .inl x1), (2, .inl x2)]) X dX5_see_14 hl rfl (by decide) rfl (fun ls hl => ?_)
    refine x_aload_n X dX5_see_15 hl 1 rfl rfl ?_
    refine q_getR (ci := 5) X V inX5 rfl (by decide) rfl 1 (by decide) rfl (tw_1 126 rfl rfl) rfl dX5_see_16 hp (fun r16_4 hp => ?_)
    refine x_iload_n X dX5_see_19 hl 0 rfl rfl ?_
    obtain ⟨b20_5, e0, hp2⟩ := q_nn_of hp
    clear hp; subst e0; have hp := hp2; clear hp2
    refine q_aldB X V dX5_see_20 hp (fun r20_6 hp => ?_)
    refine x_iload_n X dX5_see_21 hl 2 rfl rfl ?_
    obtain ⟨b22_7, e0, hp2⟩ := q_nn_of hp
    clear hp; subst e0; have hp := hp2; clear hp2
    obtain ⟨hk, hp⟩ := q_is_of hp
    obtain ⟨⟨G, v22_9⟩, hq, hp⟩ := q_cl_of hp
    dsimp only at hp
    refine q_goi (cells' := 0) (slots' := 0) (va_runV (As := [.int x1]) (rest := []) X.1 (cX0_placeOf l E hq) (tw_cwV 1 X.1.2.2.2.2 (tw_2 17 rfl rfl) kX0_placeOf.2.1 kX0_placeOf.2.2.1 kX0_placeOf.2.2.2 kX0_placeOf.1 rfl rfl hX0_placeOf ⟨Nat.le_of_ble_eq_true rfl, Nat.le_of_ble_eq_true rfl⟩) (mm_preV X V rfl (by decide) rfl hk) rfl rfl hl.1 rfl (lv_room (Nat.le_of_ble_eq_true rfl)) dX5_see_22 ⟨by decide, by decide⟩) V ⟨rfl, rfl⟩ (fun H locs V => ?_)
    refine x_istore (lst' := [(4, .inl v22_9), (3, .inl v11_3), (0, .inr (some a0)), (1, .inl x1), (2, .inl x2)]) X dX5_see_25 hl (by decide) rfl (fun ls hl => ?_)
    refine x_iload X dX5_see_27 hl 0 rfl ?_
    refine lv_iconst (v := (-1 : Int32)) hx hb dX5_see_29 (by decide) ?_
    refine q_if hp (lv_icmp_eq (tgt := 66) hx hb dX5_see_30 (by decide)) (fun hp => ?_) (fun hp => ?_)
    · refine x_aload_n X dX5_see_66 hl 2 rfl rfl ?_
      refine q_getI (ci := 5) X V inX5 rfl (by decide) rfl 2 (by decide) rfl (tw_1 128 rfl rfl) rfl dX5_see_67 hp (fun v67_10 hp => ?_)
      refine x_istore (lst' := [(5, .inl v67_10), (4, .inl v22_9), (3, .inl v11_3), (0, .inr (some a0)), (1, .inl x1), (2, .inl x2)]) X dX5_see_70 hl (by decide) rfl (fun ls hl => ?_)
      refine bX5_see_72 X hr (fun G H locs ls x1 x2 x3 V hl hp => ?_) _ _ _ _ _ _ _ _ _ V (lx_sub hl [3, 4, 5, 2, 0] rfl) hp
      exact bX5_see_112 X hr V (lx_sub hl [0, 1, 2, 3] rfl) hp
    · refine x_aload_n X dX5_see_33 hl 2 rfl rfl ?_
      refine q_getR (ci := 5) X V inX5 rfl (by decide) rfl 1 (by decide) rfl (tw_1 126 rfl rfl) rfl dX5_see_34 hp (fun r34_36 hp => ?_)
      refine x_iload_n X dX5_see_37 hl 1 rfl rfl ?_
      obtain ⟨b38_37, e0, hp2⟩ := q_nn_of hp
      clear hp; subst e0; have hp := hp2; clear hp2
      refine q_aldB X V dX5_see_38 hp (fun r38_38 hp => ?_)
      refine x_iload X dX5_see_39 hl 0 rfl ?_
      obtain ⟨b41_39, e0, hp2⟩ := q_nn_of hp
      clear hp; subst e0; have hp := hp2; clear hp2
      obtain ⟨hk, hp⟩ := q_is_of hp
      obtain ⟨⟨G, u⟩, hq, hp⟩ := q_cl_of hp
      dsimp only at hp
      refine q_gov (cells' := 0) (slots' := 0) (va_runV (As := [.int v22_9]) (rest := []) X.1 (cX0_removeAt l E hq) (tw_cwV 1 X.1.2.2.2.2 (tw_2 21 rfl rfl) kX0_removeAt.2.1 kX0_removeAt.2.2.1 kX0_removeAt.2.2.2 kX0_removeAt.1 rfl rfl hX0_removeAt ⟨Nat.le_of_ble_eq_true rfl, Nat.le_of_ble_eq_true rfl⟩) (mm_preV X V rfl (by decide) rfl hk) rfl rfl hl.1 rfl (lv_room (Nat.le_of_ble_eq_true rfl)) dX5_see_41 ⟨by decide, by decide⟩) V ⟨rfl, rfl⟩ (fun H locs V => ?_)
      refine x_aload_n X dX5_see_44 hl 2 rfl rfl ?_
      refine q_getR (ci := 5) X V inX5 rfl (by decide) rfl 1 (by decide) rfl (tw_1 126 rfl rfl) rfl dX5_see_45 hp (fun r45_41 hp => ?_)
      refine x_iload_n X dX5_see_48 hl 1 rfl rfl ?_
      obtain ⟨b49_42, e0, hp2⟩ := q_nn_of hp
      clear hp; subst e0; have hp := hp2; clear hp2
      refine q_aldB X V dX5_see_49 hp (fun r49_43 hp => ?_)
      refine x_iload_n X dX5_see_50 hl 3 rfl rfl ?_
      refine lv_iconst (v := (0 : Int32)) hx hb dX5_see_51 (by decide) ?_
      obtain ⟨b52_44, e0, hp2⟩ := q_nn_of hp
      clear hp; subst e0; have hp := hp2; clear hp2
      obtain ⟨hk, hp⟩ := q_is_of hp
      obtain ⟨⟨G, u⟩, hq, hp⟩ := q_cl_of hp
      dsimp only at hp
      refine q_gov (cells' := 0) (slots' := 0) (va_runV (As := [.int x1, .int (0 : Int32)]) (rest := []) X.1 (cX0_append l E hq) (tw_cwV 2 X.1.2.2.2.2 (tw_2 25 rfl rfl) kX0_append.2.1 kX0_append.2.2.1 kX0_append.2.2.2 kX0_append.1 rfl rfl hX0_append ⟨Nat.le_of_ble_eq_true rfl, Nat.le_of_ble_eq_true rfl⟩) (mm_preV X V rfl (by decide) rfl hk) rfl rfl hl.1 rfl (lv_room (Nat.le_of_ble_eq_true rfl)) dX5_see_52 ⟨by decide, by decide⟩) V ⟨rfl, rfl⟩ (fun H locs V => ?_)
      refine x_aload_n X dX5_see_55 hl 2 rfl rfl ?_
      refine q_getR (ci := 5) X V inX5 rfl (by decide) rfl 1 (by decide) rfl (tw_1 126 rfl rfl) rfl dX5_see_56 hp (fun r56_46 hp => ?_)
      refine x_iload_n X dX5_see_59 hl 1 rfl rfl ?_
      obtain ⟨b60_47, e0, hp2⟩ := q_nn_of hp
      clear hp; subst e0; have hp := hp2; clear hp2
      refine q_aldB X V dX5_see_60 hp (fun r60_48 hp => ?_)
      refine x_iload_n X dX5_see_61 hl 4 rfl rfl ?_
      obtain ⟨b62_49, e0, hp2⟩ := q_nn_of hp
      clear hp; subst e0; have hp := hp2; clear hp2
      refine q_putI (ci := 0) X V inX0 rfl tyX0 tyX0_ok nmX0 (by decide) rfl 4 (by decide) rfl (tw_1 107 rfl rfl) rfl (Or.inl rfl) .int rfl rfl rfl dX5_see_62 hp (fun G H locs V hp => ?_)
      exact q_vret X V hr ⟨by decide, by decide⟩ dX5_see_65 hp
  · exact q_vret X V hr ⟨by decide, by decide⟩ dX5_see_8 hp
theorem cX5_see (l : Launch) (E : mm_E) {N a0 : Nat} {G : mm_M} {x1 : Int32} {x2 : Int32} {res : mm_M × Unit} (hp : pX5_see_0 N a0 G x1 x2 = some res) : Met l yX5_see (Cond.code yX5_see prog_7_method_3_code 6 none :: tw_T) rX5_see (mm_Pc E G [.ref a0, .int x1, .int x2]) (mm_Qv E res.1) 0 0 (mm_A E) :=
  mm_met (own := "XorOverlay$Table") E G [.inr (some a0), .inl x1, .inl x2] (by decide) rfl rfl (Nat.le_of_ble_eq_true rfl) (fun p e s m args below meth c ls X hr hi V hl => bX5_see_0 X hr V hl hp)
abbrev yX5_touch : MethodName := ⟨"XorOverlay$Table", "touch", "(II)V"⟩
abbrev rX5_touch : Room := { frames := 1, cells := 0, slots := 0, locals := 22 }
theorem kX5_touch : Cond.code yX5_touch prog_7_method_4_code 3 none ∈ tw_T ∧ Cond.instanceMethod yX5_touch ∈ tw_T ∧ Cond.selects "XorOverlay$Table" yX5_touch yX5_touch ∈ tw_T ∧ Cond.initialized "XorOverlay$Table" ∈ tw_T := ⟨(tw_2 59 rfl rfl), (tw_2 57 rfl rfl), (tw_2 58 rfl rfl), (tw_1 5 rfl rfl)⟩
theorem hX5_touch : yX5_touch.cls = "XorOverlay$Table" ∧ yX5_touch.cls ≠ "java/lang/invoke/MethodHandle" ∧ yX5_touch.cls ≠ "java/lang/invoke/VarHandle" ∧ (parseMethodDescriptor yX5_touch.desc).map (fun d => d.parameters.length) = some 2 := by decide +kernel
theorem dX5_touch_0 : decode prog_7_method_4_code 0 = .ok (.aload_n 0, 1) := by decide +kernel
theorem dX5_touch_1 : decode prog_7_method_4_code 1 = .ok (.getfield 17, 3) := by decide +kernel
theorem dX5_touch_4 : decode prog_7_method_4_code 4 = .ok (.aload_n 0, 1) := by decide +kernel
theorem dX5_touch_5 : decode prog_7_method_4_code 5 = .ok (.iload_n 1, 1) := by decide +kernel
theorem dX5_touch_6 : decode prog_7_method_4_code 6 = .ok (.invokevirtual 29, 3) := by decide +kernel
theorem dX5_touch_9 : decode prog_7_method_4_code 9 = .ok (.aaload, 1) := by decide +kernel
theorem dX5_touch_10 : decode prog_7_method_4_code 10 = .ok (.iload_n 2, 1) := by decide +kernel
theorem dX5_touch_11 : decode prog_7_method_4_code 11 = .ok (.putfield 44, 3) := by decide +kernel
theorem dX5_touch_14 : decode prog_7_method_4_code 14 = .ok (.return_, 1) := by decide +kernel
def pX5_touch_0 (N a0 : Nat) (G : mm_M) (x1 : Int32) (x2 : Int32) : Option (mm_M × Unit) :=
  q_gR G a0 6 1 fun r1_1 =>
  q_is G a0 6 <|
  q_cl (pX5_rangeOf_0 N a0 G x1) fun G v6_3 =>
  q_nn r1_1 fun b9_4 =>
  q_aR G b9_4 104 v6_3 fun r9_5 =>
  q_nn r9_5 fun b11_6 =>
  q_pI G b11_6 1 4 x2 fun G =>
  some (G, ())
set_option maxRecDepth 100000 in
set_option maxHeartbeats 4000000 in
theorem bX5_touch_0 {p : Program} {l : Launch} {e : Env} {s : State} {m : MethodId} {args : Array Value} {below : List Frame} {meth : Method} {c : Code} {E : mm_E} {N a0 : Nat} {res : mm_M × Unit} (X : mm_X p s m args meth c prog_7_method_4_code 3 "XorOverlay$Table" tw_T E) (hr : meth.sig.returnType = none) {G : mm_M} {H : Heap} {locs : List Loc} {ls : Array Slot} {x1 : Int32} {x2 : Int32} (V : mm_V E s G H locs) (hl : lx_has ls 3 [(0, .inr (some a0)), (1, .inl x1), (2, .inl x2)]) (hp : pX5_touch_0 N a0 G x1 x2 = some res) : W p l e rX5_touch s m args below meth c H locs 0 0 (MQ below (mm_Qv E res.1) args s 0 0 (mm_A E)) (F0 m 0 ls []) := by
  have hx := X.1.1
  have hb := X.1.2.1
  unfold pX5_touch_0 at hp
  refine x_aload_n X dX5_touch_0 hl 0 rfl rfl ?_
  refine q_getR (ci := 5) X V inX5 rfl (by decide) rfl 1 (by decide) rfl (tw_1 126 rfl rfl) rfl dX5_touch_1 hp (fun r1_1 hp => ?_)
  refine x_aload_n X dX5_touch_4 hl 0 rfl rfl ?_
  refine x_iload_n X dX5_touch_5 hl 1 rfl rfl ?_
  obtain ⟨hk, hp⟩ := q_is_of hp
  obtain ⟨⟨G, v6_3⟩, hq, hp⟩ := q_cl_of hp
  dsimp only at hp
  refine q_goi (cells' := 0) (slots' := 0) (va_runV (As := [.int x1]) (rest := [va_rf r1_1]) X.1 (cX5_rangeOf l E hq) (tw_cwV 1 X.1.2.2.2.2 (tw_2 13 rfl rfl) kX5_rangeOf.2.1 kX5_rangeOf.2.2.1 kX5_rangeOf.2.2.2 kX5_rangeOf.1 rfl rfl hX5_rangeOf ⟨Nat.le_of_ble_eq_true rfl, Nat.le_of_ble_eq_true rfl⟩) (mm_preV X V rfl (by decide) rfl hk) rfl rfl hl.1 rfl (lv_room (by simp [va_rf_cat, va_int_cat])) dX5_touch_6 ⟨by decide, by decide⟩) V ⟨rfl, rfl⟩ (fun H locs V => ?_)
  obtain ⟨b9_4, e0, hp2⟩ := q_nn_of hp
  clear hp; subst e0; have hp := hp2; clear hp2
  refine q_aldB X V dX5_touch_9 hp (fun r9_5 hp => ?_)
  refine x_iload_n X dX5_touch_10 hl 2 rfl rfl ?_
  obtain ⟨b11_6, e0, hp2⟩ := q_nn_of hp
  clear hp; subst e0; have hp := hp2; clear hp2
  refine q_putI (ci := 0) X V inX0 rfl tyX0 tyX0_ok nmX0 (by decide) rfl 4 (by decide) rfl (tw_1 107 rfl rfl) rfl (Or.inl rfl) .int rfl rfl rfl dX5_touch_11 hp (fun G H locs V hp => ?_)
  exact q_vret X V hr ⟨by decide, by decide⟩ dX5_touch_14 hp
theorem cX5_touch (l : Launch) (E : mm_E) {N a0 : Nat} {G : mm_M} {x1 : Int32} {x2 : Int32} {res : mm_M × Unit} (hp : pX5_touch_0 N a0 G x1 x2 = some res) : Met l yX5_touch (Cond.code yX5_touch prog_7_method_4_code 3 none :: tw_T) rX5_touch (mm_Pc E G [.ref a0, .int x1, .int x2]) (mm_Qv E res.1) 0 0 (mm_A E) :=
  mm_met (own := "XorOverlay$Table") E G [.inr (some a0), .inl x1, .inl x2] (by decide) rfl rfl (Nat.le_of_ble_eq_true rfl) (fun p e s m args below meth c ls X hr hi V hl => bX5_touch_0 X hr V hl hp)
abbrev yX3_start : MethodName := ⟨"XorOverlay$Lookup", "start", "(III)V"⟩
abbrev rX3_start : Room := { frames := 1, cells := 0, slots := 0, locals := 20 }
theorem kX3_start : Cond.code yX3_start prog_5_method_3_code 4 none ∈ tw_T ∧ Cond.instanceMethod yX3_start ∈ tw_T ∧ Cond.selects "XorOverlay$Lookup" yX3_start yX3_start ∈ tw_T ∧ Cond.initialized "XorOverlay$Lookup" ∈ tw_T := ⟨(tw_2 63 rfl rfl), (tw_2 61 rfl rfl), (tw_2 62 rfl rfl), (tw_1 7 rfl rfl)⟩
theorem hX3_start : yX3_start.cls = "XorOverlay$Lookup" ∧ yX3_start.cls ≠ "java/lang/invoke/MethodHandle" ∧ yX3_start.cls ≠ "java/lang/invoke/VarHandle" ∧ (parseMethodDescriptor yX3_start.desc).map (fun d => d.parameters.length) = some 3 := by decide +kernel
theorem dX3_start_0 : decode prog_5_method_3_code 0 = .ok (.aload_n 0, 1) := by decide +kernel
theorem dX3_start_1 : decode prog_5_method_3_code 1 = .ok (.invokevirtual 37, 3) := by decide +kernel
theorem dX3_start_4 : decode prog_5_method_3_code 4 = .ok (.aload_n 0, 1) := by decide +kernel
theorem dX3_start_5 : decode prog_5_method_3_code 5 = .ok (.iload_n 1, 1) := by decide +kernel
theorem dX3_start_6 : decode prog_5_method_3_code 6 = .ok (.putfield 40, 3) := by decide +kernel
theorem dX3_start_9 : decode prog_5_method_3_code 9 = .ok (.aload_n 0, 1) := by decide +kernel
theorem dX3_start_10 : decode prog_5_method_3_code 10 = .ok (.iload_n 2, 1) := by decide +kernel
theorem dX3_start_11 : decode prog_5_method_3_code 11 = .ok (.putfield 43, 3) := by decide +kernel
theorem dX3_start_14 : decode prog_5_method_3_code 14 = .ok (.aload_n 0, 1) := by decide +kernel
theorem dX3_start_15 : decode prog_5_method_3_code 15 = .ok (.iload_n 3, 1) := by decide +kernel
theorem dX3_start_16 : decode prog_5_method_3_code 16 = .ok (.putfield 46, 3) := by decide +kernel
theorem dX3_start_19 : decode prog_5_method_3_code 19 = .ok (.aload_n 0, 1) := by decide +kernel
theorem dX3_start_20 : decode prog_5_method_3_code 20 = .ok (.iconst 1, 1) := by decide +kernel
theorem dX3_start_21 : decode prog_5_method_3_code 21 = .ok (.putfield 27, 3) := by decide +kernel
theorem dX3_start_24 : decode prog_5_method_3_code 24 = .ok (.return_, 1) := by decide +kernel
def pX3_start_0 (N a0 : Nat) (G : mm_M) (x1 : Int32) (x2 : Int32) (x3 : Int32) : Option (mm_M × Unit) :=
  q_is G a0 4 <|
  q_cl (pX3_forget_0 N a0 G) fun G _ =>
  q_pI G a0 4 6 x1 fun G =>
  q_pI G a0 4 7 x2 fun G =>
  q_pI G a0 4 8 x3 fun G =>
  q_pI G a0 4 5 (1 : Int32) fun G =>
  some (G, ())
set_option maxRecDepth 100000 in
set_option maxHeartbeats 4000000 in
theorem bX3_start_0 {p : Program} {l : Launch} {e : Env} {s : State} {m : MethodId} {args : Array Value} {below : List Frame} {meth : Method} {c : Code} {E : mm_E} {N a0 : Nat} {res : mm_M × Unit} (X : mm_X p s m args meth c prog_5_method_3_code 4 "XorOverlay$Lookup" tw_T E) (hr : meth.sig.returnType = none) {G : mm_M} {H : Heap} {locs : List Loc} {ls : Array Slot} {x1 : Int32} {x2 : Int32} {x3 : Int32} (V : mm_V E s G H locs) (hl : lx_has ls 4 [(0, .inr (some a0)), (1, .inl x1), (2, .inl x2), (3, .inl x3)]) (hp : pX3_start_0 N a0 G x1 x2 x3 = some res) : W p l e rX3_start s m args below meth c H locs 0 0 (MQ below (mm_Qv E res.1) args s 0 0 (mm_A E)) (F0 m 0 ls []) := by
  have hx := X.1.1
  have hb := X.1.2.1
  unfold pX3_start_0 at hp
  refine x_aload_n X dX3_start_0 hl 0 rfl rfl ?_
  obtain ⟨hk, hp⟩ := q_is_of hp
  obtain ⟨⟨G, u⟩, hq, hp⟩ := q_cl_of hp
  dsimp only at hp
  refine q_gov (cells' := 0) (slots' := 0) (va_runV (As := []) (rest := []) X.1 (cX3_forget l E hq) (tw_cwV 0 X.1.2.2.2.2 (tw_2 64 rfl rfl) kX3_forget.2.1 kX3_forget.2.2.1 kX3_forget.2.2.2 kX3_forget.1 rfl rfl hX3_forget ⟨Nat.le_of_ble_eq_true rfl, Nat.le_of_ble_eq_true rfl⟩) (mm_preV X V rfl (by decide) rfl hk) rfl rfl hl.1 rfl (lv_room (Nat.le_of_ble_eq_true rfl)) dX3_start_1 ⟨by decide, by decide⟩) V ⟨rfl, rfl⟩ (fun H locs V => ?_)
  refine x_aload_n X dX3_start_4 hl 0 rfl rfl ?_
  refine x_iload_n X dX3_start_5 hl 1 rfl rfl ?_
  refine q_putI (ci := 3) X V inX3 rfl tyX3 tyX3_ok nmX3 (by decide) rfl 6 (by decide) rfl (tw_1 155 rfl rfl) rfl (Or.inl rfl) .int rfl rfl rfl dX3_start_6 hp (fun G H locs V hp => ?_)
  refine x_aload_n X dX3_start_9 hl 0 rfl rfl ?_
  refine x_iload_n X dX3_start_10 hl 2 rfl rfl ?_
  refine q_putI (ci := 3) X V inX3 rfl tyX3 tyX3_ok nmX3 (by decide) rfl 7 (by decide) rfl (tw_1 157 rfl rfl) rfl (Or.inl rfl) .int rfl rfl rfl dX3_start_11 hp (fun G H locs V hp => ?_)
  refine x_aload_n X dX3_start_14 hl 0 rfl rfl ?_
  refine x_iload_n X dX3_start_15 hl 3 rfl rfl ?_
  refine q_putI (ci := 3) X V inX3 rfl tyX3 tyX3_ok nmX3 (by decide) rfl 8 (by decide) rfl (tw_1 159 rfl rfl) rfl (Or.inl rfl) .int rfl rfl rfl dX3_start_16 hp (fun G H locs V hp => ?_)
  refine x_aload_n X dX3_start_19 hl 0 rfl rfl ?_
  refine lv_iconst (v := (1 : Int32)) hx hb dX3_start_20 (by decide) ?_
  refine q_putI (ci := 3) X V inX3 rfl tyX3 tyX3_ok nmX3 (by decide) rfl 5 (by decide) rfl (tw_1 153 rfl rfl) rfl (Or.inl rfl) .int rfl rfl rfl dX3_start_21 hp (fun G H locs V hp => ?_)
  exact q_vret X V hr ⟨by decide, by decide⟩ dX3_start_24 hp
theorem cX3_start (l : Launch) (E : mm_E) {N a0 : Nat} {G : mm_M} {x1 : Int32} {x2 : Int32} {x3 : Int32} {res : mm_M × Unit} (hp : pX3_start_0 N a0 G x1 x2 x3 = some res) : Met l yX3_start (Cond.code yX3_start prog_5_method_3_code 4 none :: tw_T) rX3_start (mm_Pc E G [.ref a0, .int x1, .int x2, .int x3]) (mm_Qv E res.1) 0 0 (mm_A E) :=
  mm_met (own := "XorOverlay$Lookup") E G [.inr (some a0), .inl x1, .inl x2, .inl x3] (by decide) rfl rfl (Nat.le_of_ble_eq_true rfl) (fun p e s m args below meth c ls X hr hi V hl => bX3_start_0 X hr V hl hp)
abbrev yX5_closestBeyond : MethodName := ⟨"XorOverlay$Table", "closestBeyond", "(III)I"⟩
abbrev rX5_closestBeyond : Room := { frames := 0, cells := 0, slots := 0, locals := 0 }
theorem kX5_closestBeyond : Cond.code yX5_closestBeyond prog_7_method_6_code 9 (Option.some .int) ∈ tw_T ∧ Cond.instanceMethod yX5_closestBeyond ∈ tw_T ∧ Cond.selects "XorOverlay$Table" yX5_closestBeyond yX5_closestBeyond ∈ tw_T ∧ Cond.initialized "XorOverlay$Table" ∈ tw_T := ⟨(tw_2 68 rfl rfl), (tw_2 66 rfl rfl), (tw_2 67 rfl rfl), (tw_1 5 rfl rfl)⟩
theorem hX5_closestBeyond : yX5_closestBeyond.cls = "XorOverlay$Table" ∧ yX5_closestBeyond.cls ≠ "java/lang/invoke/MethodHandle" ∧ yX5_closestBeyond.cls ≠ "java/lang/invoke/VarHandle" ∧ (parseMethodDescriptor yX5_closestBeyond.desc).map (fun d => d.parameters.length) = some 3 := by decide +kernel
theorem dX5_closestBeyond_0 : decode prog_7_method_6_code 0 = .ok (.iconst (-1), 1) := by decide +kernel
theorem dX5_closestBeyond_1 : decode prog_7_method_6_code 1 = .ok (.istore 4, 2) := by decide +kernel
theorem dX5_closestBeyond_3 : decode prog_7_method_6_code 3 = .ok (.iconst 0, 1) := by decide +kernel
theorem dX5_closestBeyond_4 : decode prog_7_method_6_code 4 = .ok (.istore 5, 2) := by decide +kernel
theorem dX5_closestBeyond_6 : decode prog_7_method_6_code 6 = .ok (.iload 5, 2) := by decide +kernel
theorem dX5_closestBeyond_8 : decode prog_7_method_6_code 8 = .ok (.aload_n 0, 1) := by decide +kernel
theorem dX5_closestBeyond_9 : decode prog_7_method_6_code 9 = .ok (.getfield 22, 3) := by decide +kernel
theorem dX5_closestBeyond_12 : decode prog_7_method_6_code 12 = .ok (.if_icmp .ge 82, 3) := by decide +kernel
theorem dX5_closestBeyond_15 : decode prog_7_method_6_code 15 = .ok (.aload_n 0, 1) := by decide +kernel
theorem dX5_closestBeyond_16 : decode prog_7_method_6_code 16 = .ok (.getfield 17, 3) := by decide +kernel
theorem dX5_closestBeyond_19 : decode prog_7_method_6_code 19 = .ok (.iload 5, 2) := by decide +kernel
theorem dX5_closestBeyond_21 : decode prog_7_method_6_code 21 = .ok (.aaload, 1) := by decide +kernel
theorem dX5_closestBeyond_22 : decode prog_7_method_6_code 22 = .ok (.astore 6, 2) := by decide +kernel
theorem dX5_closestBeyond_24 : decode prog_7_method_6_code 24 = .ok (.iconst 0, 1) := by decide +kernel
theorem dX5_closestBeyond_25 : decode prog_7_method_6_code 25 = .ok (.istore 7, 2) := by decide +kernel
theorem dX5_closestBeyond_27 : decode prog_7_method_6_code 27 = .ok (.iload 7, 2) := by decide +kernel
theorem dX5_closestBeyond_29 : decode prog_7_method_6_code 29 = .ok (.aload 6, 2) := by decide +kernel
theorem dX5_closestBeyond_31 : decode prog_7_method_6_code 31 = .ok (.getfield 62, 3) := by decide +kernel
theorem dX5_closestBeyond_34 : decode prog_7_method_6_code 34 = .ok (.if_icmp .ge 54, 3) := by decide +kernel
theorem dX5_closestBeyond_37 : decode prog_7_method_6_code 37 = .ok (.aload 6, 2) := by decide +kernel
theorem dX5_closestBeyond_39 : decode prog_7_method_6_code 39 = .ok (.getfield 63, 3) := by decide +kernel
theorem dX5_closestBeyond_42 : decode prog_7_method_6_code 42 = .ok (.iload 7, 2) := by decide +kernel
theorem dX5_closestBeyond_44 : decode prog_7_method_6_code 44 = .ok (.iaload, 1) := by decide +kernel
theorem dX5_closestBeyond_45 : decode prog_7_method_6_code 45 = .ok (.istore 8, 2) := by decide +kernel
theorem dX5_closestBeyond_47 : decode prog_7_method_6_code 47 = .ok (.iload 8, 2) := by decide +kernel
theorem dX5_closestBeyond_49 : decode prog_7_method_6_code 49 = .ok (.iload_n 3, 1) := by decide +kernel
theorem dX5_closestBeyond_50 : decode prog_7_method_6_code 50 = .ok (.if_icmp .eq 32, 3) := by decide +kernel
theorem dX5_closestBeyond_53 : decode prog_7_method_6_code 53 = .ok (.iload 8, 2) := by decide +kernel
theorem dX5_closestBeyond_55 : decode prog_7_method_6_code 55 = .ok (.iload_n 1, 1) := by decide +kernel
theorem dX5_closestBeyond_56 : decode prog_7_method_6_code 56 = .ok (.ixor, 1) := by decide +kernel
theorem dX5_closestBeyond_57 : decode prog_7_method_6_code 57 = .ok (.iload_n 2, 1) := by decide +kernel
theorem dX5_closestBeyond_58 : decode prog_7_method_6_code 58 = .ok (.if_icmp .le 24, 3) := by decide +kernel
theorem dX5_closestBeyond_61 : decode prog_7_method_6_code 61 = .ok (.iload 4, 2) := by decide +kernel
theorem dX5_closestBeyond_63 : decode prog_7_method_6_code 63 = .ok (.iconst (-1), 1) := by decide +kernel
theorem dX5_closestBeyond_64 : decode prog_7_method_6_code 64 = .ok (.if_icmp .eq 14, 3) := by decide +kernel
theorem dX5_closestBeyond_67 : decode prog_7_method_6_code 67 = .ok (.iload 8, 2) := by decide +kernel
theorem dX5_closestBeyond_69 : decode prog_7_method_6_code 69 = .ok (.iload_n 1, 1) := by decide +kernel
theorem dX5_closestBeyond_70 : decode prog_7_method_6_code 70 = .ok (.ixor, 1) := by decide +kernel
theorem dX5_closestBeyond_71 : decode prog_7_method_6_code 71 = .ok (.iload 4, 2) := by decide +kernel
theorem dX5_closestBeyond_73 : decode prog_7_method_6_code 73 = .ok (.iload_n 1, 1) := by decide +kernel
theorem dX5_closestBeyond_74 : decode prog_7_method_6_code 74 = .ok (.ixor, 1) := by decide +kernel
theorem dX5_closestBeyond_75 : decode prog_7_method_6_code 75 = .ok (.if_icmp .ge 7, 3) := by decide +kernel
theorem dX5_closestBeyond_78 : decode prog_7_method_6_code 78 = .ok (.iload 8, 2) := by decide +kernel
theorem dX5_closestBeyond_80 : decode prog_7_method_6_code 80 = .ok (.istore 4, 2) := by decide +kernel
theorem dX5_closestBeyond_82 : decode prog_7_method_6_code 82 = .ok (.iinc 7 1, 3) := by decide +kernel
theorem dX5_closestBeyond_85 : decode prog_7_method_6_code 85 = .ok (.goto (-58), 3) := by decide +kernel
theorem dX5_closestBeyond_88 : decode prog_7_method_6_code 88 = .ok (.iinc 5 1, 3) := by decide +kernel
theorem dX5_closestBeyond_91 : decode prog_7_method_6_code 91 = .ok (.goto (-85), 3) := by decide +kernel
theorem dX5_closestBeyond_94 : decode prog_7_method_6_code 94 = .ok (.iload 4, 2) := by decide +kernel
theorem dX5_closestBeyond_96 : decode prog_7_method_6_code 96 = .ok (.ireturn, 1) := by decide +kernel
def pX5_closestBeyond_27_b (N a0 : Nat) (kb : mm_M → Int32 → Int32 → Int32 → Int32 → Int32 → Option Nat → Int32 → Option (mm_M × Int32)) (kx : mm_M → Int32 → Int32 → Int32 → Int32 → Int32 → Option (mm_M × Int32)) (G : mm_M) (x1 : Int32) (x2 : Int32) (x3 : Int32) (x4 : Int32) (x5 : Int32) (x6 : Option Nat) (x7 : Int32) : Option (mm_M × Int32) :=
  q_nn x6 fun b31_5 =>
  q_gI G b31_5 1 5 fun v31_6 =>
  if v31_6 ≤ x7 then
    kx G x1 x2 x3 x4 x5
  else
    q_gR G b31_5 1 0 fun r39_7 =>
    q_nn r39_7 fun b44_8 =>
    q_aI G b44_8 101 x7 fun v44_9 =>
    if v44_9 = x3 then
      kb G x1 x2 x3 x4 x5 (some b31_5) (x7 + (1 : Int32))
    else
      if (v44_9 ^^^ x1) ≤ x2 then
        kb G x1 x2 x3 x4 x5 (some b31_5) (x7 + (1 : Int32))
      else
        if x4 = (-1 : Int32) then
          kb G x1 x2 x3 v44_9 x5 (some b31_5) (x7 + (1 : Int32))
        else
          if (x4 ^^^ x1) ≤ (v44_9 ^^^ x1) then
            kb G x1 x2 x3 x4 x5 (some b31_5) (x7 + (1 : Int32))
          else
            kb G x1 x2 x3 v44_9 x5 (some b31_5) (x7 + (1 : Int32))
def pX5_closestBeyond_27 (N a0 : Nat) (kx : mm_M → Int32 → Int32 → Int32 → Int32 → Int32 → Option (mm_M × Int32)) : Nat → mm_M → Int32 → Int32 → Int32 → Int32 → Int32 → Option Nat → Int32 → Option (mm_M × Int32)
  | 0 => fun _ _ _ _ _ _ _ _ => none
  | n + 1 => pX5_closestBeyond_27_b N a0 (pX5_closestBeyond_27 N a0 kx n) kx
set_option maxRecDepth 100000 in
set_option maxHeartbeats 4000000 in
theorem bX5_closestBeyond_27 {p : Program} {l : Launch} {e : Env} {s : State} {m : MethodId} {args : Array Value} {below : List Frame} {meth : Method} {c : Code} {E : mm_E} {N a0 : Nat} {res : mm_M × Int32} (X : mm_X p s m args meth c prog_7_method_6_code 9 "XorOverlay$Table" tw_T E) (hr : meth.sig.returnType = (Option.some .int)) {kx : mm_M → Int32 → Int32 → Int32 → Int32 → Int32 → Option (mm_M × Int32)} (hkx : ∀ (G : mm_M) (H : Heap) (locs : List Loc) (ls : Array Slot) (x1 : Int32) (x2 : Int32) (x3 : Int32) (x4 : Int32) (x5 : Int32), mm_V E s G H locs → lx_has ls 9 [(0, .inr (some a0)), (1, .inl x1), (2, .inl x2), (3, .inl x3), (4, .inl x4), (5, .inl x5)] → kx G x1 x2 x3 x4 x5 = some res → W p l e rX5_closestBeyond s m args below meth c H locs 0 0 (MQ below (mm_Qi E res.1 res.2) args s 0 0 (mm_A E)) (F0 m 88 ls [])) :
    ∀ (n : Nat) (G : mm_M) (H : Heap) (locs : List Loc) (ls : Array Slot) (x1 : Int32) (x2 : Int32) (x3 : Int32) (x4 : Int32) (x5 : Int32) (x6 : Option Nat) (x7 : Int32), mm_V E s G H locs → lx_has ls 9 [(0, .inr (some a0)), (1, .inl x1), (2, .inl x2), (3, .inl x3), (4, .inl x4), (5, .inl x5), (6, .inr x6), (7, .inl x7)] → pX5_closestBeyond_27 N a0 kx n G x1 x2 x3 x4 x5 x6 x7 = some res → W p l e rX5_closestBeyond s m args below meth c H locs 0 0 (MQ below (mm_Qi E res.1 res.2) args s 0 0 (mm_A E)) (F0 m 27 ls []) := by
  have hx := X.1.1
  have hb := X.1.2.1
  intro n
  induction n with
  | zero =>
    intro G H locs ls x1 x2 x3 x4 x5 x6 x7 V hl hp
    cases hp
  | succ n ih =>
    intro G H locs ls x1 x2 x3 x4 x5 x6 x7 V hl hp
    have hp : pX5_closestBeyond_27_b N a0 (pX5_closestBeyond_27 N a0 kx n) kx G x1 x2 x3 x4 x5 x6 x7 = some res := hp
    unfold pX5_closestBeyond_27_b at hp
    refine x_iload X dX5_closestBeyond_27 hl 7 rfl ?_
    refine x_aload X dX5_closestBeyond_29 hl 6 rfl ?_
    obtain ⟨b31_5, e0, hp2⟩ := q_nn_of hp
    clear hp; subst e0; have hp := hp2; clear hp2
    refine q_getI (ci := 0) X V inX0 rfl (by decide) rfl 5 (by decide) rfl (tw_1 110 rfl rfl) rfl dX5_closestBeyond_31 hp (fun v31_6 hp => ?_)
    refine q_if hp (lv_icmp_ge (tgt := 88) hx hb dX5_closestBeyond_34 (by decide)) (fun hp => ?_) (fun hp => ?_)
    · exact hkx _ _ _ _ _ _ _ _ _ V (lx_sub hl [0, 1, 2, 3, 4, 5] rfl) hp
    · refine x_aload X dX5_closestBeyond_37 hl 6 rfl ?_
      refine q_getR (ci := 0) X V inX0 rfl (by decide) rfl 0 (by decide) rfl (tw_1 96 rfl rfl) rfl dX5_closestBeyond_39 hp (fun r39_7 hp => ?_)
      refine x_iload X dX5_closestBeyond_42 hl 7 rfl ?_
      obtain ⟨b44_8, e0, hp2⟩ := q_nn_of hp
      clear hp; subst e0; have hp := hp2; clear hp2
      refine q_iald X V dX5_closestBeyond_44 hp (fun v44_9 hp => ?_)
      refine x_istore (lst' := [(8, .inl v44_9), (0, .inr (some a0)), (1, .inl x1), (2, .inl x2), (3, .inl x3), (4, .inl x4), (5, .inl x5), (6, .inr (some b31_5)), (7, .inl x7)]) X dX5_closestBeyond_45 hl (by decide) rfl (fun ls hl => ?_)
      refine x_iload X dX5_closestBeyond_47 hl 0 rfl ?_
      refine x_iload_n X dX5_closestBeyond_49 hl 4 rfl rfl ?_
      refine q_if hp (lv_icmp_eq (tgt := 82) hx hb dX5_closestBeyond_50 (by decide)) (fun hp => ?_) (fun hp => ?_)
      · refine x_iinc (v := (1 : Int32)) (lst' := [(7, .inl (x7 + (1 : Int32))), (8, .inl v44_9), (0, .inr (some a0)), (1, .inl x1), (2, .inl x2), (3, .inl x3), (4, .inl x4), (5, .inl x5), (6, .inr (some b31_5))]) X dX5_closestBeyond_82 hl 8 rfl (by decide) (by decide) rfl (fun ls hl => ?_)
        refine lv_goto (tgt := 27) hx hb dX5_closestBeyond_85 (by decide) ?_
        exact ih _ _ _ _ _ _ _ _ _ _ _ V (lx_sub hl [2, 3, 4, 5, 6, 7, 8, 0] rfl) hp
      · refine x_iload X dX5_closestBeyond_53 hl 0 rfl ?_
        refine x_iload_n X dX5_closestBeyond_55 hl 2 rfl rfl ?_
        refine lv_ixor hx hb dX5_closestBeyond_56 ?_
        refine x_iload_n X dX5_closestBeyond_57 hl 3 rfl rfl ?_
        refine q_if hp (lv_icmp_le (tgt := 82) hx hb dX5_closestBeyond_58 (by decide)) (fun hp => ?_) (fun hp => ?_)
        · refine x_iinc (v := (1 : Int32)) (lst' := [(7, .inl (x7 + (1 : Int32))), (8, .inl v44_9), (0, .inr (some a0)), (1, .inl x1), (2, .inl x2), (3, .inl x3), (4, .inl x4), (5, .inl x5), (6, .inr (some b31_5))]) X dX5_closestBeyond_82 hl 8 rfl (by decide) (by decide) rfl (fun ls hl => ?_)
          refine lv_goto (tgt := 27) hx hb dX5_closestBeyond_85 (by decide) ?_
          exact ih _ _ _ _ _ _ _ _ _ _ _ V (lx_sub hl [2, 3, 4, 5, 6, 7, 8, 0] rfl) hp
        · refine x_iload X dX5_closestBeyond_61 hl 5 rfl ?_
          refine lv_iconst (v := (-1 : Int32)) hx hb dX5_closestBeyond_63 (by decide) ?_
          refine q_if hp (lv_icmp_eq (tgt := 78) hx hb dX5_closestBeyond_64 (by decide)) (fun hp => ?_) (fun hp => ?_)
          · refine x_iload X dX5_closestBeyond_78 hl 0 rfl ?_
            refine x_istore (lst' := [(4, .inl v44_9), (8, .inl v44_9), (0, .inr (some a0)), (1, .inl x1), (2, .inl x2), (3, .inl x3), (5, .inl x5), (6, .inr (some b31_5)), (7, .inl x7)]) X dX5_closestBeyond_80 hl (by decide) rfl (fun ls hl => ?_)
            refine x_iinc (v := (1 : Int32)) (lst' := [(7, .inl (x7 + (1 : Int32))), (4, .inl v44_9), (8, .inl v44_9), (0, .inr (some a0)), (1, .inl x1), (2, .inl x2), (3, .inl x3), (5, .inl x5), (6, .inr (some b31_5))]) X dX5_closestBeyond_82 hl 8 rfl (by decide) (by decide) rfl (fun ls hl => ?_)
            refine lv_goto (tgt := 27) hx hb dX5_closestBeyond_85 (by decide) ?_
            exact ih _ _ _ _ _ _ _ _ _ _ _ V (lx_sub hl [3, 4, 5, 6, 1, 7, 8, 0] rfl) hp
          · refine x_iload X dX5_closestBeyond_67 hl 0 rfl ?_
            refine x_iload_n X dX5_closestBeyond_69 hl 2 rfl rfl ?_
            refine lv_ixor hx hb dX5_closestBeyond_70 ?_
            refine x_iload X dX5_closestBeyond_71 hl 5 rfl ?_
            refine x_iload_n X dX5_closestBeyond_73 hl 2 rfl rfl ?_
            refine lv_ixor hx hb dX5_closestBeyond_74 ?_
            refine q_if hp (lv_icmp_ge (tgt := 82) hx hb dX5_closestBeyond_75 (by decide)) (fun hp => ?_) (fun hp => ?_)
            · refine x_iinc (v := (1 : Int32)) (lst' := [(7, .inl (x7 + (1 : Int32))), (8, .inl v44_9), (0, .inr (some a0)), (1, .inl x1), (2, .inl x2), (3, .inl x3), (4, .inl x4), (5, .inl x5), (6, .inr (some b31_5))]) X dX5_closestBeyond_82 hl 8 rfl (by decide) (by decide) rfl (fun ls hl => ?_)
              refine lv_goto (tgt := 27) hx hb dX5_closestBeyond_85 (by decide) ?_
              exact ih _ _ _ _ _ _ _ _ _ _ _ V (lx_sub hl [2, 3, 4, 5, 6, 7, 8, 0] rfl) hp
            · refine x_iload X dX5_closestBeyond_78 hl 0 rfl ?_
              refine x_istore (lst' := [(4, .inl v44_9), (8, .inl v44_9), (0, .inr (some a0)), (1, .inl x1), (2, .inl x2), (3, .inl x3), (5, .inl x5), (6, .inr (some b31_5)), (7, .inl x7)]) X dX5_closestBeyond_80 hl (by decide) rfl (fun ls hl => ?_)
              refine x_iinc (v := (1 : Int32)) (lst' := [(7, .inl (x7 + (1 : Int32))), (4, .inl v44_9), (8, .inl v44_9), (0, .inr (some a0)), (1, .inl x1), (2, .inl x2), (3, .inl x3), (5, .inl x5), (6, .inr (some b31_5))]) X dX5_closestBeyond_82 hl 8 rfl (by decide) (by decide) rfl (fun ls hl => ?_)
              refine lv_goto (tgt := 27) hx hb dX5_closestBeyond_85 (by decide) ?_
              exact ih _ _ _ _ _ _ _ _ _ _ _ V (lx_sub hl [3, 4, 5, 6, 1, 7, 8, 0] rfl) hp
def pX5_closestBeyond_6_b (N a0 : Nat) (kb : mm_M → Int32 → Int32 → Int32 → Int32 → Int32 → Option (mm_M × Int32)) (kx : mm_M → Int32 → Option (mm_M × Int32)) (G : mm_M) (x1 : Int32) (x2 : Int32) (x3 : Int32) (x4 : Int32) (x5 : Int32) : Option (mm_M × Int32) :=
  q_gI G a0 6 2 fun v9_1 =>
  if v9_1 ≤ x5 then
    kx G x4
  else
    q_gR G a0 6 1 fun r16_2 =>
    q_nn r16_2 fun b21_3 =>
    q_aR G b21_3 104 x5 fun r21_4 =>
    pX5_closestBeyond_27 N a0 (fun (G : mm_M) (x1 : Int32) (x2 : Int32) (x3 : Int32) (x4 : Int32) (x5 : Int32) =>
      kb G x1 x2 x3 x4 (x5 + (1 : Int32))) N G x1 x2 x3 x4 x5 r21_4 (0 : Int32)
def pX5_closestBeyond_6 (N a0 : Nat) (kx : mm_M → Int32 → Option (mm_M × Int32)) : Nat → mm_M → Int32 → Int32 → Int32 → Int32 → Int32 → Option (mm_M × Int32)
  | 0 => fun _ _ _ _ _ _ => none
  | n + 1 => pX5_closestBeyond_6_b N a0 (pX5_closestBeyond_6 N a0 kx n) kx
set_option maxRecDepth 100000 in
set_option maxHeartbeats 4000000 in
theorem bX5_closestBeyond_6 {p : Program} {l : Launch} {e : Env} {s : State} {m : MethodId} {args : Array Value} {below : List Frame} {meth : Method} {c : Code} {E : mm_E} {N a0 : Nat} {res : mm_M × Int32} (X : mm_X p s m args meth c prog_7_method_6_code 9 "XorOverlay$Table" tw_T E) (hr : meth.sig.returnType = (Option.some .int)) {kx : mm_M → Int32 → Option (mm_M × Int32)} (hkx : ∀ (G : mm_M) (H : Heap) (locs : List Loc) (ls : Array Slot) (x4 : Int32), mm_V E s G H locs → lx_has ls 9 [(0, .inr (some a0)), (4, .inl x4)] → kx G x4 = some res → W p l e rX5_closestBeyond s m args below meth c H locs 0 0 (MQ below (mm_Qi E res.1 res.2) args s 0 0 (mm_A E)) (F0 m 94 ls [])) :
    ∀ (n : Nat) (G : mm_M) (H : Heap) (locs : List Loc) (ls : Array Slot) (x1 : Int32) (x2 : Int32) (x3 : Int32) (x4 : Int32) (x5 : Int32), mm_V E s G H locs → lx_has ls 9 [(0, .inr (some a0)), (1, .inl x1), (2, .inl x2), (3, .inl x3), (4, .inl x4), (5, .inl x5)] → pX5_closestBeyond_6 N a0 kx n G x1 x2 x3 x4 x5 = some res → W p l e rX5_closestBeyond s m args below meth c H locs 0 0 (MQ below (mm_Qi E res.1 res.2) args s 0 0 (mm_A E)) (F0 m 6 ls []) := by
  have hx := X.1.1
  have hb := X.1.2.1
  intro n
  induction n with
  | zero =>
    intro G H locs ls x1 x2 x3 x4 x5 V hl hp
    cases hp
  | succ n ih =>
    intro G H locs ls x1 x2 x3 x4 x5 V hl hp
    have hp : pX5_closestBeyond_6_b N a0 (pX5_closestBeyond_6 N a0 kx n) kx G x1 x2 x3 x4 x5 = some res := hp
    unfold pX5_closestBeyond_6_b at hp
    refine x_iload X dX5_closestBeyond_6 hl 5 rfl ?_
    refine x_aload_n X dX5_closestBeyond_8 hl 0 rfl rfl ?_
    refine q_getI (ci := 5) X V inX5 rfl (by decide) rfl 2 (by decide) rfl (tw_1 128 rfl rfl) rfl dX5_closestBeyond_9 hp (fun v9_1 hp => ?_)
    refine q_if hp (lv_icmp_ge (tgt := 94) hx hb dX5_closestBeyond_12 (by decide)) (fun hp => ?_) (fun hp => ?_)
    · exact hkx _ _ _ _ _ V (lx_sub hl [0, 4] rfl) hp
    · refine x_aload_n X dX5_closestBeyond_15 hl 0 rfl rfl ?_
      refine q_getR (ci := 5) X V inX5 rfl (by decide) rfl 1 (by decide) rfl (tw_1 126 rfl rfl) rfl dX5_closestBeyond_16 hp (fun r16_2 hp => ?_)
      refine x_iload X dX5_closestBeyond_19 hl 5 rfl ?_
      obtain ⟨b21_3, e0, hp2⟩ := q_nn_of hp
      clear hp; subst e0; have hp := hp2; clear hp2
      refine q_aldB X V dX5_closestBeyond_21 hp (fun r21_4 hp => ?_)
      refine x_astore (lst' := [(6, .inr r21_4), (0, .inr (some a0)), (1, .inl x1), (2, .inl x2), (3, .inl x3), (4, .inl x4), (5, .inl x5)]) X dX5_closestBeyond_22 hl (by decide) rfl (fun ls hl => ?_)
      refine lv_iconst (v := (0 : Int32)) hx hb dX5_closestBeyond_24 (by decide) ?_
      refine x_istore (lst' := [(7, .inl (0 : Int32)), (6, .inr r21_4), (0, .inr (some a0)), (1, .inl x1), (2, .inl x2), (3, .inl x3), (4, .inl x4), (5, .inl x5)]) X dX5_closestBeyond_25 hl (by decide) rfl (fun ls hl => ?_)
      refine bX5_closestBeyond_27 X hr (fun G H locs ls x1 x2 x3 x4 x5 V hl hp => ?_) _ _ _ _ _ _ _ _ _ _ _ _ V (lx_sub hl [2, 3, 4, 5, 6, 7, 1, 0] rfl) hp
      refine x_iinc (v := (1 : Int32)) (lst' := [(5, .inl (x5 + (1 : Int32))), (0, .inr (some a0)), (1, .inl x1), (2, .inl x2), (3, .inl x3), (4, .inl x4)]) X dX5_closestBeyond_88 hl 5 rfl (by decide) (by decide) rfl (fun ls hl => ?_)
      refine lv_goto (tgt := 6) hx hb dX5_closestBeyond_91 (by decide) ?_
      exact ih _ _ _ _ _ _ _ _ _ V (lx_sub hl [1, 2, 3, 4, 5, 0] rfl) hp
def pX5_closestBeyond_0 (N a0 : Nat) (G : mm_M) (x1 : Int32) (x2 : Int32) (x3 : Int32) : Option (mm_M × Int32) :=
  pX5_closestBeyond_6 N a0 (fun (G : mm_M) (x4 : Int32) =>
    some (G, x4)) N G x1 x2 x3 (-1 : Int32) (0 : Int32)
set_option maxRecDepth 100000 in
set_option maxHeartbeats 4000000 in
theorem bX5_closestBeyond_0 {p : Program} {l : Launch} {e : Env} {s : State} {m : MethodId} {args : Array Value} {below : List Frame} {meth : Method} {c : Code} {E : mm_E} {N a0 : Nat} {res : mm_M × Int32} (X : mm_X p s m args meth c prog_7_method_6_code 9 "XorOverlay$Table" tw_T E) (hr : meth.sig.returnType = (Option.some .int)) {G : mm_M} {H : Heap} {locs : List Loc} {ls : Array Slot} {x1 : Int32} {x2 : Int32} {x3 : Int32} (V : mm_V E s G H locs) (hl : lx_has ls 9 [(0, .inr (some a0)), (1, .inl x1), (2, .inl x2), (3, .inl x3)]) (hp : pX5_closestBeyond_0 N a0 G x1 x2 x3 = some res) : W p l e rX5_closestBeyond s m args below meth c H locs 0 0 (MQ below (mm_Qi E res.1 res.2) args s 0 0 (mm_A E)) (F0 m 0 ls []) := by
  have hx := X.1.1
  have hb := X.1.2.1
  unfold pX5_closestBeyond_0 at hp
  refine lv_iconst (v := (-1 : Int32)) hx hb dX5_closestBeyond_0 (by decide) ?_
  refine x_istore (lst' := [(4, .inl (-1 : Int32)), (0, .inr (some a0)), (1, .inl x1), (2, .inl x2), (3, .inl x3)]) X dX5_closestBeyond_1 hl (by decide) rfl (fun ls hl => ?_)
  refine lv_iconst (v := (0 : Int32)) hx hb dX5_closestBeyond_3 (by decide) ?_
  refine x_istore (lst' := [(5, .inl (0 : Int32)), (4, .inl (-1 : Int32)), (0, .inr (some a0)), (1, .inl x1), (2, .inl x2), (3, .inl x3)]) X dX5_closestBeyond_4 hl (by decide) rfl (fun ls hl => ?_)
  refine bX5_closestBeyond_6 X hr (fun G H locs ls x4 V hl hp => ?_) _ _ _ _ _ _ _ _ _ _ V (lx_sub hl [2, 3, 4, 5, 1, 0] rfl) hp
  refine x_iload X dX5_closestBeyond_94 hl 1 rfl ?_
  exact q_iret X V hr ⟨by decide, by decide⟩ dX5_closestBeyond_96 hp
theorem cX5_closestBeyond (l : Launch) (E : mm_E) {N a0 : Nat} {G : mm_M} {x1 : Int32} {x2 : Int32} {x3 : Int32} {res : mm_M × Int32} (hp : pX5_closestBeyond_0 N a0 G x1 x2 x3 = some res) : Met l yX5_closestBeyond (Cond.code yX5_closestBeyond prog_7_method_6_code 9 (Option.some .int) :: tw_T) rX5_closestBeyond (mm_Pc E G [.ref a0, .int x1, .int x2, .int x3]) (mm_Qi E res.1 res.2) 0 0 (mm_A E) :=
  mm_met (own := "XorOverlay$Table") E G [.inr (some a0), .inl x1, .inl x2, .inl x3] (by decide) rfl rfl (Nat.le_of_ble_eq_true rfl) (fun p e s m args below meth c ls X hr hi V hl => bX5_closestBeyond_0 X hr V hl hp)
abbrev yX3_placeOf : MethodName := ⟨"XorOverlay$Lookup", "placeOf", "(I)I"⟩
abbrev rX3_placeOf : Room := { frames := 0, cells := 0, slots := 0, locals := 0 }
theorem kX3_placeOf : Cond.code yX3_placeOf prog_5_method_6_code 3 (Option.some .int) ∈ tw_T ∧ Cond.instanceMethod yX3_placeOf ∈ tw_T ∧ Cond.selects "XorOverlay$Lookup" yX3_placeOf yX3_placeOf ∈ tw_T ∧ Cond.initialized "XorOverlay$Lookup" ∈ tw_T := ⟨(tw_2 76 rfl rfl), (tw_2 74 rfl rfl), (tw_2 75 rfl rfl), (tw_1 7 rfl rfl)⟩
theorem hX3_placeOf : yX3_placeOf.cls = "XorOverlay$Lookup" ∧ yX3_placeOf.cls ≠ "java/lang/invoke/MethodHandle" ∧ yX3_placeOf.cls ≠ "java/lang/invoke/VarHandle" ∧ (parseMethodDescriptor yX3_placeOf.desc).map (fun d => d.parameters.length) = some 1 := by decide +kernel
theorem dX3_placeOf_0 : decode prog_5_method_6_code 0 = .ok (.iconst 0, 1) := by decide +kernel
theorem dX3_placeOf_1 : decode prog_5_method_6_code 1 = .ok (.istore_n 2, 1) := by decide +kernel
theorem dX3_placeOf_2 : decode prog_5_method_6_code 2 = .ok (.iload_n 2, 1) := by decide +kernel
theorem dX3_placeOf_3 : decode prog_5_method_6_code 3 = .ok (.aload_n 0, 1) := by decide +kernel
theorem dX3_placeOf_4 : decode prog_5_method_6_code 4 = .ok (.getfield 31, 3) := by decide +kernel
theorem dX3_placeOf_7 : decode prog_5_method_6_code 7 = .ok (.if_icmp .ge 21, 3) := by decide +kernel
theorem dX3_placeOf_10 : decode prog_5_method_6_code 10 = .ok (.aload_n 0, 1) := by decide +kernel
theorem dX3_placeOf_11 : decode prog_5_method_6_code 11 = .ok (.getfield 9, 3) := by decide +kernel
theorem dX3_placeOf_14 : decode prog_5_method_6_code 14 = .ok (.iload_n 2, 1) := by decide +kernel
theorem dX3_placeOf_15 : decode prog_5_method_6_code 15 = .ok (.iaload, 1) := by decide +kernel
theorem dX3_placeOf_16 : decode prog_5_method_6_code 16 = .ok (.iload_n 1, 1) := by decide +kernel
theorem dX3_placeOf_17 : decode prog_5_method_6_code 17 = .ok (.if_icmp .ne 5, 3) := by decide +kernel
theorem dX3_placeOf_20 : decode prog_5_method_6_code 20 = .ok (.iload_n 2, 1) := by decide +kernel
theorem dX3_placeOf_21 : decode prog_5_method_6_code 21 = .ok (.ireturn, 1) := by decide +kernel
theorem dX3_placeOf_22 : decode prog_5_method_6_code 22 = .ok (.iinc 2 1, 3) := by decide +kernel
theorem dX3_placeOf_25 : decode prog_5_method_6_code 25 = .ok (.goto (-23), 3) := by decide +kernel
theorem dX3_placeOf_28 : decode prog_5_method_6_code 28 = .ok (.iconst (-1), 1) := by decide +kernel
theorem dX3_placeOf_29 : decode prog_5_method_6_code 29 = .ok (.ireturn, 1) := by decide +kernel
def pX3_placeOf_2_b (N a0 : Nat) (kb : mm_M → Int32 → Int32 → Option (mm_M × Int32)) (kx : mm_M → Option (mm_M × Int32)) (G : mm_M) (x1 : Int32) (x2 : Int32) : Option (mm_M × Int32) :=
  q_gI G a0 4 9 fun v4_1 =>
  if v4_1 ≤ x2 then
    kx G
  else
    q_gR G a0 4 0 fun r11_2 =>
    q_nn r11_2 fun b15_3 =>
    q_aI G b15_3 101 x2 fun v15_4 =>
    if v15_4 = x1 then
      some (G, x2)
    else
      kb G x1 (x2 + (1 : Int32))
def pX3_placeOf_2 (N a0 : Nat) (kx : mm_M → Option (mm_M × Int32)) : Nat → mm_M → Int32 → Int32 → Option (mm_M × Int32)
  | 0 => fun _ _ _ => none
  | n + 1 => pX3_placeOf_2_b N a0 (pX3_placeOf_2 N a0 kx n) kx
set_option maxRecDepth 100000 in
set_option maxHeartbeats 4000000 in
theorem bX3_placeOf_2 {p : Program} {l : Launch} {e : Env} {s : State} {m : MethodId} {args : Array Value} {below : List Frame} {meth : Method} {c : Code} {E : mm_E} {N a0 : Nat} {res : mm_M × Int32} (X : mm_X p s m args meth c prog_5_method_6_code 3 "XorOverlay$Lookup" tw_T E) (hr : meth.sig.returnType = (Option.some .int)) {kx : mm_M → Option (mm_M × Int32)} (hkx : ∀ (G : mm_M) (H : Heap) (locs : List Loc) (ls : Array Slot), mm_V E s G H locs → lx_has ls 3 [(0, .inr (some a0))] → kx G = some res → W p l e rX3_placeOf s m args below meth c H locs 0 0 (MQ below (mm_Qi E res.1 res.2) args s 0 0 (mm_A E)) (F0 m 28 ls [])) :
    ∀ (n : Nat) (G : mm_M) (H : Heap) (locs : List Loc) (ls : Array Slot) (x1 : Int32) (x2 : Int32), mm_V E s G H locs → lx_has ls 3 [(0, .inr (some a0)), (1, .inl x1), (2, .inl x2)] → pX3_placeOf_2 N a0 kx n G x1 x2 = some res → W p l e rX3_placeOf s m args below meth c H locs 0 0 (MQ below (mm_Qi E res.1 res.2) args s 0 0 (mm_A E)) (F0 m 2 ls []) := by
  have hx := X.1.1
  have hb := X.1.2.1
  intro n
  induction n with
  | zero =>
    intro G H locs ls x1 x2 V hl hp
    cases hp
  | succ n ih =>
    intro G H locs ls x1 x2 V hl hp
    have hp : pX3_placeOf_2_b N a0 (pX3_placeOf_2 N a0 kx n) kx G x1 x2 = some res := hp
    unfold pX3_placeOf_2_b at hp
    refine x_iload_n X dX3_placeOf_2 hl 2 rfl rfl ?_
    refine x_aload_n X dX3_placeOf_3 hl 0 rfl rfl ?_
    refine q_getI (ci := 3) X V inX3 rfl (by decide) rfl 9 (by decide) rfl (tw_1 161 rfl rfl) rfl dX3_placeOf_4 hp (fun v4_1 hp => ?_)
    refine q_if hp (lv_icmp_ge (tgt := 28) hx hb dX3_placeOf_7 (by decide)) (fun hp => ?_) (fun hp => ?_)
    · exact hkx _ _ _ _ V (lx_sub hl [0] rfl) hp
    · refine x_aload_n X dX3_placeOf_10 hl 0 rfl rfl ?_
      refine q_getR (ci := 3) X V inX3 rfl (by decide) rfl 0 (by decide) rfl (tw_1 143 rfl rfl) rfl dX3_placeOf_11 hp (fun r11_2 hp => ?_)
      refine x_iload_n X dX3_placeOf_14 hl 2 rfl rfl ?_
      obtain ⟨b15_3, e0, hp2⟩ := q_nn_of hp
      clear hp; subst e0; have hp := hp2; clear hp2
      refine q_iald X V dX3_placeOf_15 hp (fun v15_4 hp => ?_)
      refine x_iload_n X dX3_placeOf_16 hl 1 rfl rfl ?_
      refine q_ifn hp (lv_icmp_ne (tgt := 22) hx hb dX3_placeOf_17 (by decide)) (fun hp => ?_) (fun hp => ?_)
      · refine x_iinc (v := (1 : Int32)) (lst' := [(2, .inl (x2 + (1 : Int32))), (0, .inr (some a0)), (1, .inl x1)]) X dX3_placeOf_22 hl 2 rfl (by decide) (by decide) rfl (fun ls hl => ?_)
        refine lv_goto (tgt := 2) hx hb dX3_placeOf_25 (by decide) ?_
        exact ih _ _ _ _ _ _ V (lx_sub hl [1, 2, 0] rfl) hp
      · refine x_iload_n X dX3_placeOf_20 hl 2 rfl rfl ?_
        exact q_iret X V hr ⟨by decide, by decide⟩ dX3_placeOf_21 hp
def pX3_placeOf_0 (N a0 : Nat) (G : mm_M) (x1 : Int32) : Option (mm_M × Int32) :=
  pX3_placeOf_2 N a0 (fun (G : mm_M) =>
    some (G, (-1 : Int32))) N G x1 (0 : Int32)
set_option maxRecDepth 100000 in
set_option maxHeartbeats 4000000 in
theorem bX3_placeOf_0 {p : Program} {l : Launch} {e : Env} {s : State} {m : MethodId} {args : Array Value} {below : List Frame} {meth : Method} {c : Code} {E : mm_E} {N a0 : Nat} {res : mm_M × Int32} (X : mm_X p s m args meth c prog_5_method_6_code 3 "XorOverlay$Lookup" tw_T E) (hr : meth.sig.returnType = (Option.some .int)) {G : mm_M} {H : Heap} {locs : List Loc} {ls : Array Slot} {x1 : Int32} (V : mm_V E s G H locs) (hl : lx_has ls 3 [(0, .inr (some a0)), (1, .inl x1)]) (hp : pX3_placeOf_0 N a0 G x1 = some res) : W p l e rX3_placeOf s m args below meth c H locs 0 0 (MQ below (mm_Qi E res.1 res.2) args s 0 0 (mm_A E)) (F0 m 0 ls []) := by
  have hx := X.1.1
  have hb := X.1.2.1
  unfold pX3_placeOf_0 at hp
  refine lv_iconst (v := (0 : Int32)) hx hb dX3_placeOf_0 (by decide) ?_
  refine x_istore_n (lst' := [(2, .inl (0 : Int32)), (0, .inr (some a0)), (1, .inl x1)]) X dX3_placeOf_1 hl rfl (by decide) rfl (fun ls hl => ?_)
  refine bX3_placeOf_2 X hr (fun G H locs ls V hl hp => ?_) _ _ _ _ _ _ _ V (lx_sub hl [1, 2, 0] rfl) hp
  refine lv_iconst (v := (-1 : Int32)) hx hb dX3_placeOf_28 (by decide) ?_
  exact q_iret X V hr ⟨by decide, by decide⟩ dX3_placeOf_29 hp
theorem cX3_placeOf (l : Launch) (E : mm_E) {N a0 : Nat} {G : mm_M} {x1 : Int32} {res : mm_M × Int32} (hp : pX3_placeOf_0 N a0 G x1 = some res) : Met l yX3_placeOf (Cond.code yX3_placeOf prog_5_method_6_code 3 (Option.some .int) :: tw_T) rX3_placeOf (mm_Pc E G [.ref a0, .int x1]) (mm_Qi E res.1 res.2) 0 0 (mm_A E) :=
  mm_met (own := "XorOverlay$Lookup") E G [.inr (some a0), .inl x1] (by decide) rfl rfl (Nat.le_of_ble_eq_true rfl) (fun p e s m args below meth c ls X hr hi V hl => bX3_placeOf_0 X hr V hl hp)
