abbrev yX6_candidate : MethodName := ⟨"XorOverlay", "candidate", "(II)I"⟩
abbrev rX6_candidate : Room := { frames := 2, cells := 0, slots := 0, locals := 45 }
theorem kX6_candidate : Cond.code yX6_candidate prog_1_method_13_code 4 (Option.some .int) ∈ tw_T ∧ Cond.instanceMethod yX6_candidate ∈ tw_T ∧ Cond.selects "XorOverlay" yX6_candidate yX6_candidate ∈ tw_T ∧ Cond.initialized "XorOverlay" ∈ tw_T := ⟨(tw_2 229 rfl rfl), (tw_2 227 rfl rfl), (tw_2 228 rfl rfl), (tw_1 1 rfl rfl)⟩
theorem hX6_candidate : yX6_candidate.cls = "XorOverlay" ∧ yX6_candidate.cls ≠ "java/lang/invoke/MethodHandle" ∧ yX6_candidate.cls ≠ "java/lang/invoke/VarHandle" ∧ (parseMethodDescriptor yX6_candidate.desc).map (fun d => d.parameters.length) = some 2 := by decide +kernel
theorem dX6_candidate_0 : decode prog_1_method_13_code 0 = .ok (.aload_n 0, 1) := by decide +kernel
theorem dX6_candidate_1 : decode prog_1_method_13_code 1 = .ok (.iload_n 1, 1) := by decide +kernel
theorem dX6_candidate_2 : decode prog_1_method_13_code 2 = .ok (.invokevirtual 43, 3) := by decide +kernel
theorem dX6_candidate_5 : decode prog_1_method_13_code 5 = .ok (.astore_n 3, 1) := by decide +kernel
theorem dX6_candidate_6 : decode prog_1_method_13_code 6 = .ok (.aload_n 3, 1) := by decide +kernel
theorem dX6_candidate_7 : decode prog_1_method_13_code 7 = .ok (.ifnull 14, 3) := by decide +kernel
theorem dX6_candidate_10 : decode prog_1_method_13_code 10 = .ok (.aload_n 3, 1) := by decide +kernel
theorem dX6_candidate_11 : decode prog_1_method_13_code 11 = .ok (.getfield 72, 3) := by decide +kernel
theorem dX6_candidate_14 : decode prog_1_method_13_code 14 = .ok (.iload_n 2, 1) := by decide +kernel
theorem dX6_candidate_15 : decode prog_1_method_13_code 15 = .ok (.invokevirtual 129, 3) := by decide +kernel
theorem dX6_candidate_18 : decode prog_1_method_13_code 18 = .ok (.ifCond .ne 5, 3) := by decide +kernel
theorem dX6_candidate_21 : decode prog_1_method_13_code 21 = .ok (.iconst (-1), 1) := by decide +kernel
theorem dX6_candidate_22 : decode prog_1_method_13_code 22 = .ok (.ireturn, 1) := by decide +kernel
theorem dX6_candidate_23 : decode prog_1_method_13_code 23 = .ok (.aload_n 3, 1) := by decide +kernel
theorem dX6_candidate_24 : decode prog_1_method_13_code 24 = .ok (.getfield 72, 3) := by decide +kernel
theorem dX6_candidate_27 : decode prog_1_method_13_code 27 = .ok (.getfield 132, 3) := by decide +kernel
theorem dX6_candidate_30 : decode prog_1_method_13_code 30 = .ok (.iload_n 2, 1) := by decide +kernel
theorem dX6_candidate_31 : decode prog_1_method_13_code 31 = .ok (.iaload, 1) := by decide +kernel
theorem dX6_candidate_32 : decode prog_1_method_13_code 32 = .ok (.sipush 256, 3) := by decide +kernel
theorem dX6_candidate_35 : decode prog_1_method_13_code 35 = .ok (.aload_n 3, 1) := by decide +kernel
theorem dX6_candidate_36 : decode prog_1_method_13_code 36 = .ok (.getfield 72, 3) := by decide +kernel
theorem dX6_candidate_39 : decode prog_1_method_13_code 39 = .ok (.getfield 135, 3) := by decide +kernel
theorem dX6_candidate_42 : decode prog_1_method_13_code 42 = .ok (.iload_n 2, 1) := by decide +kernel
theorem dX6_candidate_43 : decode prog_1_method_13_code 43 = .ok (.iaload, 1) := by decide +kernel
theorem dX6_candidate_44 : decode prog_1_method_13_code 44 = .ok (.imul, 1) := by decide +kernel
theorem dX6_candidate_45 : decode prog_1_method_13_code 45 = .ok (.iadd, 1) := by decide +kernel
theorem dX6_candidate_46 : decode prog_1_method_13_code 46 = .ok (.ireturn, 1) := by decide +kernel
def pX6_candidate_0 (N a0 : Nat) (G : mm_M) (x1 : Int32) (x2 : Int32) : Option (mm_M × Int32) :=
  q_is G a0 7 <|
  q_cl (pX6_upPeer_0 N a0 G x1) fun G r2_2 =>
  q_op r2_2 (
    some (G, (-1 : Int32))) fun b7_3 =>
  q_gR G b7_3 5 2 fun r11_4 =>
  q_nn r11_4 fun b15_5 =>
  q_is G b15_5 4 <|
  q_cl (pX3_hasCandidate_0 N b15_5 G x2) fun G v15_7 =>
  if v15_7 = 0 then
    some (G, (-1 : Int32))
  else
    q_gR G b7_3 5 2 fun r24_8 =>
    q_nn r24_8 fun b27_9 =>
    q_gR G b27_9 4 0 fun r27_10 =>
    q_nn r27_10 fun b31_11 =>
    q_aI G b31_11 101 x2 fun v31_12 =>
    q_gR G b7_3 5 2 fun r36_13 =>
    q_nn r36_13 fun b39_14 =>
    q_gR G b39_14 4 1 fun r39_15 =>
    q_nn r39_15 fun b43_16 =>
    q_aI G b43_16 101 x2 fun v43_17 =>
    some (G, (v31_12 + ((256 : Int32) * v43_17)))
set_option maxRecDepth 100000 in
set_option maxHeartbeats 4000000 in
theorem bX6_candidate_0 {p : Program} {l : Launch} {e : Env} {s : State} {m : MethodId} {args : Array Value} {below : List Frame} {meth : Method} {c : Code} {E : mm_E} {N a0 : Nat} {res : mm_M × Int32} (X : mm_X p s m args meth c prog_1_method_13_code 4 "XorOverlay" tw_T E) (hr : meth.sig.returnType = (Option.some .int)) {G : mm_M} {H : Heap} {locs : List Loc} {ls : Array Slot} {x1 : Int32} {x2 : Int32} (V : mm_V E s G H locs) (hl : lx_has ls 4 [(0, .inr (some a0)), (1, .inl x1), (2, .inl x2)]) (hp : pX6_candidate_0 N a0 G x1 x2 = some res) : W p l e rX6_candidate s m args below meth c H locs 0 0 (MQ below (mm_Qi E res.1 res.2) args s 0 0 (mm_A E)) (F0 m 0 ls []) := by
  have hx := X.1.1
  have hb := X.1.2.1
  unfold pX6_candidate_0 at hp
  refine x_aload_n X dX6_candidate_0 hl 0 rfl rfl ?_
  refine x_iload_n X dX6_candidate_1 hl 1 rfl rfl ?_
  obtain ⟨hk, hp⟩ := q_is_of hp
  obtain ⟨⟨G, r2_2⟩, hq, hp⟩ := q_cl_of hp
  dsimp only at hp
  refine q_goq (cells' := 0) (slots' := 0) (va_runV (As := [.int x1]) (rest := []) X.1 (cX6_upPeer l E hq) (tw_cwV 1 X.1.2.2.2.2 (tw_1 65 rfl rfl) kX6_upPeer.2.1 kX6_upPeer.2.2.1 kX6_upPeer.2.2.2 kX6_upPeer.1 rfl rfl hX6_upPeer ⟨Nat.le_of_ble_eq_true rfl, Nat.le_of_ble_eq_true rfl⟩) (mm_preV X V rfl (by decide) rfl hk) rfl rfl hl.1 rfl (lv_room (Nat.le_of_ble_eq_true rfl)) dX6_candidate_2 ⟨by decide, by decide⟩) V ⟨rfl, rfl⟩ (fun H locs V => ?_)
  refine x_astore_n (lst' := [(3, .inr r2_2), (0, .inr (some a0)), (1, .inl x1), (2, .inl x2)]) X dX6_candidate_5 hl rfl (by decide) rfl (fun ls hl => ?_)
  refine x_aload_n X dX6_candidate_6 hl 0 rfl rfl ?_
  refine q_ifnull (tgt := 21) X dX6_candidate_7 (by decide) hp (fun e0 hp2 => ?_) (fun b7_3 e0 hp2 => ?_)
  · clear hp; subst e0; have hp := hp2; clear hp2
    refine lv_iconst (v := (-1 : Int32)) hx hb dX6_candidate_21 (by decide) ?_
    exact q_iret X V hr ⟨by decide, by decide⟩ dX6_candidate_22 hp
  · clear hp; subst e0; have hp := hp2; clear hp2
    refine x_aload_n X dX6_candidate_10 hl 0 rfl rfl ?_
    refine q_getR (ci := 4) X V inX4 rfl (by decide) rfl 2 (by decide) rfl (tw_1 217 rfl rfl) rfl dX6_candidate_11 hp (fun r11_4 hp => ?_)
    refine x_iload_n X dX6_candidate_14 hl 3 rfl rfl ?_
    obtain ⟨b15_5, e0, hp2⟩ := q_nn_of hp
    clear hp; subst e0; have hp := hp2; clear hp2
    obtain ⟨hk, hp⟩ := q_is_of hp
    obtain ⟨⟨G, v15_7⟩, hq, hp⟩ := q_cl_of hp
    dsimp only at hp
    refine q_goi (cells' := 0) (slots' := 0) (va_runV (As := [.int x2]) (rest := []) X.1 (cX3_hasCandidate l E hq) (tw_cwV 1 X.1.2.2.2.2 (tw_2 230 rfl rfl) kX3_hasCandidate.2.1 kX3_hasCandidate.2.2.1 kX3_hasCandidate.2.2.2 kX3_hasCandidate.1 rfl rfl hX3_hasCandidate ⟨Nat.le_of_ble_eq_true rfl, Nat.le_of_ble_eq_true rfl⟩) (mm_preV X V rfl (by decide) rfl hk) rfl rfl hl.1 rfl (lv_room (Nat.le_of_ble_eq_true rfl)) dX6_candidate_15 ⟨by decide, by decide⟩) V ⟨rfl, rfl⟩ (fun H locs V => ?_)
    refine q_ifn hp (lv_if_ne (tgt := 23) hx hb dX6_candidate_18 (by decide)) (fun hp => ?_) (fun hp => ?_)
    · refine x_aload_n X dX6_candidate_23 hl 0 rfl rfl ?_
      refine q_getR (ci := 4) X V inX4 rfl (by decide) rfl 2 (by decide) rfl (tw_1 217 rfl rfl) rfl dX6_candidate_24 hp (fun r24_8 hp => ?_)
      obtain ⟨b27_9, e0, hp2⟩ := q_nn_of hp
      clear hp; subst e0; have hp := hp2; clear hp2
      refine q_getR (ci := 3) X V inX3 rfl (by decide) rfl 0 (by decide) rfl (tw_1 144 rfl rfl) rfl dX6_candidate_27 hp (fun r27_10 hp => ?_)
      refine x_iload_n X dX6_candidate_30 hl 3 rfl rfl ?_
      obtain ⟨b31_11, e0, hp2⟩ := q_nn_of hp
      clear hp; subst e0; have hp := hp2; clear hp2
      refine q_iald X V dX6_candidate_31 hp (fun v31_12 hp => ?_)
      refine lv_sipush (v := (256 : Int32)) hx hb dX6_candidate_32 (by decide) ?_
      refine x_aload_n X dX6_candidate_35 hl 0 rfl rfl ?_
      refine q_getR (ci := 4) X V inX4 rfl (by decide) rfl 2 (by decide) rfl (tw_1 217 rfl rfl) rfl dX6_candidate_36 hp (fun r36_13 hp => ?_)
      obtain ⟨b39_14, e0, hp2⟩ := q_nn_of hp
      clear hp; subst e0; have hp := hp2; clear hp2
      refine q_getR (ci := 3) X V inX3 rfl (by decide) rfl 1 (by decide) rfl (tw_1 146 rfl rfl) rfl dX6_candidate_39 hp (fun r39_15 hp => ?_)
      refine x_iload_n X dX6_candidate_42 hl 3 rfl rfl ?_
      obtain ⟨b43_16, e0, hp2⟩ := q_nn_of hp
      clear hp; subst e0; have hp := hp2; clear hp2
      refine q_iald X V dX6_candidate_43 hp (fun v43_17 hp => ?_)
      refine lv_imul hx hb dX6_candidate_44 ?_
      refine lv_iadd hx hb dX6_candidate_45 ?_
      exact q_iret X V hr ⟨by decide, by decide⟩ dX6_candidate_46 hp
    · refine lv_iconst (v := (-1 : Int32)) hx hb dX6_candidate_21 (by decide) ?_
      exact q_iret X V hr ⟨by decide, by decide⟩ dX6_candidate_22 hp
theorem cX6_candidate (l : Launch) (E : mm_E) {N a0 : Nat} {G : mm_M} {x1 : Int32} {x2 : Int32} {res : mm_M × Int32} (hp : pX6_candidate_0 N a0 G x1 x2 = some res) : Met l yX6_candidate (Cond.code yX6_candidate prog_1_method_13_code 4 (Option.some .int) :: tw_T) rX6_candidate (mm_Pc E G [.ref a0, .int x1, .int x2]) (mm_Qi E res.1 res.2) 0 0 (mm_A E) :=
  mm_met (own := "XorOverlay") E G [.inr (some a0), .inl x1, .inl x2] (by decide) rfl rfl (Nat.le_of_ble_eq_true rfl) (fun p e s m args below meth c ls X hr hi V hl => bX6_candidate_0 X hr V hl hp)
abbrev yX6_found : MethodName := ⟨"XorOverlay", "found", "(II)I"⟩
abbrev rX6_found : Room := { frames := 2, cells := 0, slots := 0, locals := 45 }
theorem kX6_found : Cond.code yX6_found prog_1_method_14_code 4 (Option.some .int) ∈ tw_T ∧ Cond.instanceMethod yX6_found ∈ tw_T ∧ Cond.selects "XorOverlay" yX6_found yX6_found ∈ tw_T ∧ Cond.initialized "XorOverlay" ∈ tw_T := ⟨(tw_2 237 rfl rfl), (tw_2 235 rfl rfl), (tw_2 236 rfl rfl), (tw_1 1 rfl rfl)⟩
theorem hX6_found : yX6_found.cls = "XorOverlay" ∧ yX6_found.cls ≠ "java/lang/invoke/MethodHandle" ∧ yX6_found.cls ≠ "java/lang/invoke/VarHandle" ∧ (parseMethodDescriptor yX6_found.desc).map (fun d => d.parameters.length) = some 2 := by decide +kernel
theorem dX6_found_0 : decode prog_1_method_14_code 0 = .ok (.aload_n 0, 1) := by decide +kernel
theorem dX6_found_1 : decode prog_1_method_14_code 1 = .ok (.iload_n 1, 1) := by decide +kernel
theorem dX6_found_2 : decode prog_1_method_14_code 2 = .ok (.invokevirtual 43, 3) := by decide +kernel
theorem dX6_found_5 : decode prog_1_method_14_code 5 = .ok (.astore_n 3, 1) := by decide +kernel
theorem dX6_found_6 : decode prog_1_method_14_code 6 = .ok (.aload_n 3, 1) := by decide +kernel
theorem dX6_found_7 : decode prog_1_method_14_code 7 = .ok (.ifnull 18, 3) := by decide +kernel
theorem dX6_found_10 : decode prog_1_method_14_code 10 = .ok (.iload_n 2, 1) := by decide +kernel
theorem dX6_found_11 : decode prog_1_method_14_code 11 = .ok (.ifCond .lt 14, 3) := by decide +kernel
theorem dX6_found_14 : decode prog_1_method_14_code 14 = .ok (.iload_n 2, 1) := by decide +kernel
theorem dX6_found_15 : decode prog_1_method_14_code 15 = .ok (.aload_n 3, 1) := by decide +kernel
theorem dX6_found_16 : decode prog_1_method_14_code 16 = .ok (.getfield 72, 3) := by decide +kernel
theorem dX6_found_19 : decode prog_1_method_14_code 19 = .ok (.getfield 138, 3) := by decide +kernel
theorem dX6_found_22 : decode prog_1_method_14_code 22 = .ok (.if_icmp .lt 5, 3) := by decide +kernel
theorem dX6_found_25 : decode prog_1_method_14_code 25 = .ok (.iconst (-1), 1) := by decide +kernel
theorem dX6_found_26 : decode prog_1_method_14_code 26 = .ok (.ireturn, 1) := by decide +kernel
theorem dX6_found_27 : decode prog_1_method_14_code 27 = .ok (.aload_n 3, 1) := by decide +kernel
theorem dX6_found_28 : decode prog_1_method_14_code 28 = .ok (.getfield 72, 3) := by decide +kernel
theorem dX6_found_31 : decode prog_1_method_14_code 31 = .ok (.getfield 141, 3) := by decide +kernel
theorem dX6_found_34 : decode prog_1_method_14_code 34 = .ok (.iload_n 2, 1) := by decide +kernel
theorem dX6_found_35 : decode prog_1_method_14_code 35 = .ok (.iaload, 1) := by decide +kernel
theorem dX6_found_36 : decode prog_1_method_14_code 36 = .ok (.ireturn, 1) := by decide +kernel
def pX6_found_0 (N a0 : Nat) (G : mm_M) (x1 : Int32) (x2 : Int32) : Option (mm_M × Int32) :=
  q_is G a0 7 <|
  q_cl (pX6_upPeer_0 N a0 G x1) fun G r2_2 =>
  q_op r2_2 (
    some (G, (-1 : Int32))) fun b7_3 =>
  if x2 < 0 then
    some (G, (-1 : Int32))
  else
    q_gR G b7_3 5 2 fun r16_4 =>
    q_nn r16_4 fun b19_5 =>
    q_gI G b19_5 4 10 fun v19_6 =>
    if x2 < v19_6 then
      q_gR G b7_3 5 2 fun r28_7 =>
      q_nn r28_7 fun b31_8 =>
      q_gR G b31_8 4 4 fun r31_9 =>
      q_nn r31_9 fun b35_10 =>
      q_aI G b35_10 101 x2 fun v35_11 =>
      some (G, v35_11)
    else
      some (G, (-1 : Int32))
set_option maxRecDepth 100000 in
set_option maxHeartbeats 4000000 in
theorem bX6_found_0 {p : Program} {l : Launch} {e : Env} {s : State} {m : MethodId} {args : Array Value} {below : List Frame} {meth : Method} {c : Code} {E : mm_E} {N a0 : Nat} {res : mm_M × Int32} (X : mm_X p s m args meth c prog_1_method_14_code 4 "XorOverlay" tw_T E) (hr : meth.sig.returnType = (Option.some .int)) {G : mm_M} {H : Heap} {locs : List Loc} {ls : Array Slot} {x1 : Int32} {x2 : Int32} (V : mm_V E s G H locs) (hl : lx_has ls 4 [(0, .inr (some a0)), (1, .inl x1), (2, .inl x2)]) (hp : pX6_found_0 N a0 G x1 x2 = some res) : W p l e rX6_found s m args below meth c H locs 0 0 (MQ below (mm_Qi E res.1 res.2) args s 0 0 (mm_A E)) (F0 m 0 ls []) := by
  have hx := X.1.1
  have hb := X.1.2.1
  unfold pX6_found_0 at hp
  refine x_aload_n X dX6_found_0 hl 0 rfl rfl ?_
  refine x_iload_n X dX6_found_1 hl 1 rfl rfl ?_
  obtain ⟨hk, hp⟩ := q_is_of hp
  obtain ⟨⟨G, r2_2⟩, hq, hp⟩ := q_cl_of hp
  dsimp only at hp
  refine q_goq (cells' := 0) (slots' := 0) (va_runV (As := [.int x1]) (rest := []) X.1 (cX6_upPeer l E hq) (tw_cwV 1 X.1.2.2.2.2 (tw_1 65 rfl rfl) kX6_upPeer.2.1 kX6_upPeer.2.2.1 kX6_upPeer.2.2.2 kX6_upPeer.1 rfl rfl hX6_upPeer ⟨Nat.le_of_ble_eq_true rfl, Nat.le_of_ble_eq_true rfl⟩) (mm_preV X V rfl (by decide) rfl hk) rfl rfl hl.1 rfl (lv_room (Nat.le_of_ble_eq_true rfl)) dX6_found_2 ⟨by decide, by decide⟩) V ⟨rfl, rfl⟩ (fun H locs V => ?_)
  refine x_astore_n (lst' := [(3, .inr r2_2), (0, .inr (some a0)), (1, .inl x1), (2, .inl x2)]) X dX6_found_5 hl rfl (by decide) rfl (fun ls hl => ?_)
  refine x_aload_n X dX6_found_6 hl 0 rfl rfl ?_
  refine q_ifnull (tgt := 25) X dX6_found_7 (by decide) hp (fun e0 hp2 => ?_) (fun b7_3 e0 hp2 => ?_)
  · clear hp; subst e0; have hp := hp2; clear hp2
    refine lv_iconst (v := (-1 : Int32)) hx hb dX6_found_25 (by decide) ?_
    exact q_iret X V hr ⟨by decide, by decide⟩ dX6_found_26 hp
  · clear hp; subst e0; have hp := hp2; clear hp2
    refine x_iload_n X dX6_found_10 hl 3 rfl rfl ?_
    refine q_if hp (lv_if_lt (tgt := 25) hx hb dX6_found_11 (by decide)) (fun hp => ?_) (fun hp => ?_)
    · refine lv_iconst (v := (-1 : Int32)) hx hb dX6_found_25 (by decide) ?_
      exact q_iret X V hr ⟨by decide, by decide⟩ dX6_found_26 hp
    · refine x_iload_n X dX6_found_14 hl 3 rfl rfl ?_
      refine x_aload_n X dX6_found_15 hl 0 rfl rfl ?_
      refine q_getR (ci := 4) X V inX4 rfl (by decide) rfl 2 (by decide) rfl (tw_1 217 rfl rfl) rfl dX6_found_16 hp (fun r16_4 hp => ?_)
      obtain ⟨b19_5, e0, hp2⟩ := q_nn_of hp
      clear hp; subst e0; have hp := hp2; clear hp2
      refine q_getI (ci := 3) X V inX3 rfl (by decide) rfl 10 (by decide) rfl (tw_1 164 rfl rfl) rfl dX6_found_19 hp (fun v19_6 hp => ?_)
      refine q_if hp (lv_icmp_lt (tgt := 27) hx hb dX6_found_22 (by decide)) (fun hp => ?_) (fun hp => ?_)
      · refine x_aload_n X dX6_found_27 hl 0 rfl rfl ?_
        refine q_getR (ci := 4) X V inX4 rfl (by decide) rfl 2 (by decide) rfl (tw_1 217 rfl rfl) rfl dX6_found_28 hp (fun r28_7 hp => ?_)
        obtain ⟨b31_8, e0, hp2⟩ := q_nn_of hp
        clear hp; subst e0; have hp := hp2; clear hp2
        refine q_getR (ci := 3) X V inX3 rfl (by decide) rfl 4 (by decide) rfl (tw_1 152 rfl rfl) rfl dX6_found_31 hp (fun r31_9 hp => ?_)
        refine x_iload_n X dX6_found_34 hl 3 rfl rfl ?_
        obtain ⟨b35_10, e0, hp2⟩ := q_nn_of hp
        clear hp; subst e0; have hp := hp2; clear hp2
        refine q_iald X V dX6_found_35 hp (fun v35_11 hp => ?_)
        exact q_iret X V hr ⟨by decide, by decide⟩ dX6_found_36 hp
      · refine lv_iconst (v := (-1 : Int32)) hx hb dX6_found_25 (by decide) ?_
        exact q_iret X V hr ⟨by decide, by decide⟩ dX6_found_26 hp
theorem cX6_found (l : Launch) (E : mm_E) {N a0 : Nat} {G : mm_M} {x1 : Int32} {x2 : Int32} {res : mm_M × Int32} (hp : pX6_found_0 N a0 G x1 x2 = some res) : Met l yX6_found (Cond.code yX6_found prog_1_method_14_code 4 (Option.some .int) :: tw_T) rX6_found (mm_Pc E G [.ref a0, .int x1, .int x2]) (mm_Qi E res.1 res.2) 0 0 (mm_A E) :=
  mm_met (own := "XorOverlay") E G [.inr (some a0), .inl x1, .inl x2] (by decide) rfl rfl (Nat.le_of_ble_eq_true rfl) (fun p e s m args below meth c ls X hr hi V hl => bX6_found_0 X hr V hl hp)
abbrev yX6_buckets : MethodName := ⟨"XorOverlay", "buckets", "(I)I"⟩
abbrev rX6_buckets : Room := { frames := 2, cells := 0, slots := 0, locals := 45 }
theorem kX6_buckets : Cond.code yX6_buckets prog_1_method_15_code 3 (Option.some .int) ∈ tw_T ∧ Cond.instanceMethod yX6_buckets ∈ tw_T ∧ Cond.selects "XorOverlay" yX6_buckets yX6_buckets ∈ tw_T ∧ Cond.initialized "XorOverlay" ∈ tw_T := ⟨(tw_3 1 rfl rfl), (tw_2 239 rfl rfl), (tw_3 0 rfl rfl), (tw_1 1 rfl rfl)⟩
theorem hX6_buckets : yX6_buckets.cls = "XorOverlay" ∧ yX6_buckets.cls ≠ "java/lang/invoke/MethodHandle" ∧ yX6_buckets.cls ≠ "java/lang/invoke/VarHandle" ∧ (parseMethodDescriptor yX6_buckets.desc).map (fun d => d.parameters.length) = some 1 := by decide +kernel
theorem dX6_buckets_0 : decode prog_1_method_15_code 0 = .ok (.aload_n 0, 1) := by decide +kernel
theorem dX6_buckets_1 : decode prog_1_method_15_code 1 = .ok (.iload_n 1, 1) := by decide +kernel
theorem dX6_buckets_2 : decode prog_1_method_15_code 2 = .ok (.invokevirtual 43, 3) := by decide +kernel
theorem dX6_buckets_5 : decode prog_1_method_15_code 5 = .ok (.astore_n 2, 1) := by decide +kernel
theorem dX6_buckets_6 : decode prog_1_method_15_code 6 = .ok (.aload_n 2, 1) := by decide +kernel
theorem dX6_buckets_7 : decode prog_1_method_15_code 7 = .ok (.ifnonnull 7, 3) := by decide +kernel
theorem dX6_buckets_10 : decode prog_1_method_15_code 10 = .ok (.iconst (-1), 1) := by decide +kernel
theorem dX6_buckets_11 : decode prog_1_method_15_code 11 = .ok (.goto 10, 3) := by decide +kernel
theorem dX6_buckets_14 : decode prog_1_method_15_code 14 = .ok (.aload_n 2, 1) := by decide +kernel
theorem dX6_buckets_15 : decode prog_1_method_15_code 15 = .ok (.getfield 54, 3) := by decide +kernel
theorem dX6_buckets_18 : decode prog_1_method_15_code 18 = .ok (.getfield 144, 3) := by decide +kernel
theorem dX6_buckets_21 : decode prog_1_method_15_code 21 = .ok (.ireturn, 1) := by decide +kernel
def pX6_buckets_0 (N a0 : Nat) (G : mm_M) (x1 : Int32) : Option (mm_M × Int32) :=
  q_is G a0 7 <|
  q_cl (pX6_upPeer_0 N a0 G x1) fun G r2_2 =>
  q_op r2_2 (
    some (G, (-1 : Int32))) fun b7_3 =>
  q_gR G b7_3 5 1 fun r15_4 =>
  q_nn r15_4 fun b18_5 =>
  q_gI G b18_5 6 2 fun v18_6 =>
  some (G, v18_6)
set_option maxRecDepth 100000 in
set_option maxHeartbeats 4000000 in
theorem bX6_buckets_0 {p : Program} {l : Launch} {e : Env} {s : State} {m : MethodId} {args : Array Value} {below : List Frame} {meth : Method} {c : Code} {E : mm_E} {N a0 : Nat} {res : mm_M × Int32} (X : mm_X p s m args meth c prog_1_method_15_code 3 "XorOverlay" tw_T E) (hr : meth.sig.returnType = (Option.some .int)) {G : mm_M} {H : Heap} {locs : List Loc} {ls : Array Slot} {x1 : Int32} (V : mm_V E s G H locs) (hl : lx_has ls 3 [(0, .inr (some a0)), (1, .inl x1)]) (hp : pX6_buckets_0 N a0 G x1 = some res) : W p l e rX6_buckets s m args below meth c H locs 0 0 (MQ below (mm_Qi E res.1 res.2) args s 0 0 (mm_A E)) (F0 m 0 ls []) := by
  have hx := X.1.1
  have hb := X.1.2.1
  unfold pX6_buckets_0 at hp
  refine x_aload_n X dX6_buckets_0 hl 0 rfl rfl ?_
  refine x_iload_n X dX6_buckets_1 hl 1 rfl rfl ?_
  obtain ⟨hk, hp⟩ := q_is_of hp
  obtain ⟨⟨G, r2_2⟩, hq, hp⟩ := q_cl_of hp
  dsimp only at hp
  refine q_goq (cells' := 0) (slots' := 0) (va_runV (As := [.int x1]) (rest := []) X.1 (cX6_upPeer l E hq) (tw_cwV 1 X.1.2.2.2.2 (tw_1 65 rfl rfl) kX6_upPeer.2.1 kX6_upPeer.2.2.1 kX6_upPeer.2.2.2 kX6_upPeer.1 rfl rfl hX6_upPeer ⟨Nat.le_of_ble_eq_true rfl, Nat.le_of_ble_eq_true rfl⟩) (mm_preV X V rfl (by decide) rfl hk) rfl rfl hl.1 rfl (lv_room (Nat.le_of_ble_eq_true rfl)) dX6_buckets_2 ⟨by decide, by decide⟩) V ⟨rfl, rfl⟩ (fun H locs V => ?_)
  refine x_astore_n (lst' := [(2, .inr r2_2), (0, .inr (some a0)), (1, .inl x1)]) X dX6_buckets_5 hl rfl (by decide) rfl (fun ls hl => ?_)
  refine x_aload_n X dX6_buckets_6 hl 0 rfl rfl ?_
  refine q_ifnonnull (tgt := 14) X dX6_buckets_7 (by decide) hp (fun e0 hp2 => ?_) (fun b7_3 e0 hp2 => ?_)
  · clear hp; subst e0; have hp := hp2; clear hp2
    refine lv_iconst (v := (-1 : Int32)) hx hb dX6_buckets_10 (by decide) ?_
    refine lv_goto (tgt := 21) hx hb dX6_buckets_11 (by decide) ?_
    exact q_iret X V hr ⟨by decide, by decide⟩ dX6_buckets_21 hp
  · clear hp; subst e0; have hp := hp2; clear hp2
    refine x_aload_n X dX6_buckets_14 hl 0 rfl rfl ?_
    refine q_getR (ci := 4) X V inX4 rfl (by decide) rfl 1 (by decide) rfl (tw_1 215 rfl rfl) rfl dX6_buckets_15 hp (fun r15_4 hp => ?_)
    obtain ⟨b18_5, e0, hp2⟩ := q_nn_of hp
    clear hp; subst e0; have hp := hp2; clear hp2
    refine q_getI (ci := 5) X V inX5 rfl (by decide) rfl 2 (by decide) rfl (tw_1 129 rfl rfl) rfl dX6_buckets_18 hp (fun v18_6 hp => ?_)
    exact q_iret X V hr ⟨by decide, by decide⟩ dX6_buckets_21 hp
theorem cX6_buckets (l : Launch) (E : mm_E) {N a0 : Nat} {G : mm_M} {x1 : Int32} {res : mm_M × Int32} (hp : pX6_buckets_0 N a0 G x1 = some res) : Met l yX6_buckets (Cond.code yX6_buckets prog_1_method_15_code 3 (Option.some .int) :: tw_T) rX6_buckets (mm_Pc E G [.ref a0, .int x1]) (mm_Qi E res.1 res.2) 0 0 (mm_A E) :=
  mm_met (own := "XorOverlay") E G [.inr (some a0), .inl x1] (by decide) rfl rfl (Nat.le_of_ble_eq_true rfl) (fun p e s m args below meth c ls X hr hi V hl => bX6_buckets_0 X hr V hl hp)
abbrev yX6_bucketOf : MethodName := ⟨"XorOverlay", "bucketOf", "(II)LXorOverlay$Bucket;"⟩
abbrev rX6_bucketOf : Room := { frames := 2, cells := 0, slots := 0, locals := 45 }
theorem kX6_bucketOf : Cond.code yX6_bucketOf prog_1_method_26_code 4 (Option.some (.object "XorOverlay$Bucket")) ∈ tw_T ∧ Cond.instanceMethod yX6_bucketOf ∈ tw_T ∧ Cond.selects "XorOverlay" yX6_bucketOf yX6_bucketOf ∈ tw_T ∧ Cond.initialized "XorOverlay" ∈ tw_T := ⟨(tw_3 9 rfl rfl), (tw_3 8 rfl rfl), (tw_s 17 rfl rfl), (tw_1 1 rfl rfl)⟩
theorem hX6_bucketOf : yX6_bucketOf.cls = "XorOverlay" ∧ yX6_bucketOf.cls ≠ "java/lang/invoke/MethodHandle" ∧ yX6_bucketOf.cls ≠ "java/lang/invoke/VarHandle" ∧ (parseMethodDescriptor yX6_bucketOf.desc).map (fun d => d.parameters.length) = some 2 := by decide +kernel
theorem dX6_bucketOf_0 : decode prog_1_method_26_code 0 = .ok (.aload_n 0, 1) := by decide +kernel
theorem dX6_bucketOf_1 : decode prog_1_method_26_code 1 = .ok (.iload_n 1, 1) := by decide +kernel
theorem dX6_bucketOf_2 : decode prog_1_method_26_code 2 = .ok (.invokevirtual 43, 3) := by decide +kernel
theorem dX6_bucketOf_5 : decode prog_1_method_26_code 5 = .ok (.astore_n 3, 1) := by decide +kernel
theorem dX6_bucketOf_6 : decode prog_1_method_26_code 6 = .ok (.aload_n 3, 1) := by decide +kernel
theorem dX6_bucketOf_7 : decode prog_1_method_26_code 7 = .ok (.ifnull 18, 3) := by decide +kernel
theorem dX6_bucketOf_10 : decode prog_1_method_26_code 10 = .ok (.iload_n 2, 1) := by decide +kernel
theorem dX6_bucketOf_11 : decode prog_1_method_26_code 11 = .ok (.ifCond .lt 14, 3) := by decide +kernel
theorem dX6_bucketOf_14 : decode prog_1_method_26_code 14 = .ok (.iload_n 2, 1) := by decide +kernel
theorem dX6_bucketOf_15 : decode prog_1_method_26_code 15 = .ok (.aload_n 3, 1) := by decide +kernel
theorem dX6_bucketOf_16 : decode prog_1_method_26_code 16 = .ok (.getfield 54, 3) := by decide +kernel
theorem dX6_bucketOf_19 : decode prog_1_method_26_code 19 = .ok (.getfield 144, 3) := by decide +kernel
theorem dX6_bucketOf_22 : decode prog_1_method_26_code 22 = .ok (.if_icmp .lt 5, 3) := by decide +kernel
theorem dX6_bucketOf_25 : decode prog_1_method_26_code 25 = .ok (.aconst_null, 1) := by decide +kernel
theorem dX6_bucketOf_26 : decode prog_1_method_26_code 26 = .ok (.areturn, 1) := by decide +kernel
theorem dX6_bucketOf_27 : decode prog_1_method_26_code 27 = .ok (.aload_n 3, 1) := by decide +kernel
theorem dX6_bucketOf_28 : decode prog_1_method_26_code 28 = .ok (.getfield 54, 3) := by decide +kernel
theorem dX6_bucketOf_31 : decode prog_1_method_26_code 31 = .ok (.getfield 185, 3) := by decide +kernel
theorem dX6_bucketOf_34 : decode prog_1_method_26_code 34 = .ok (.iload_n 2, 1) := by decide +kernel
theorem dX6_bucketOf_35 : decode prog_1_method_26_code 35 = .ok (.aaload, 1) := by decide +kernel
theorem dX6_bucketOf_36 : decode prog_1_method_26_code 36 = .ok (.areturn, 1) := by decide +kernel
def pX6_bucketOf_0 (N a0 : Nat) (G : mm_M) (x1 : Int32) (x2 : Int32) : Option (mm_M × Option Nat) :=
  q_is G a0 7 <|
  q_cl (pX6_upPeer_0 N a0 G x1) fun G r2_2 =>
  q_op r2_2 (
    some (G, none)) fun b7_3 =>
  if x2 < 0 then
    some (G, none)
  else
    q_gR G b7_3 5 1 fun r16_4 =>
    q_nn r16_4 fun b19_5 =>
    q_gI G b19_5 6 2 fun v19_6 =>
    if x2 < v19_6 then
      q_gR G b7_3 5 1 fun r28_7 =>
      q_nn r28_7 fun b31_8 =>
      q_gR G b31_8 6 1 fun r31_9 =>
      q_nn r31_9 fun b35_10 =>
      q_aR G b35_10 104 x2 fun r35_11 =>
      some (G, r35_11)
    else
      some (G, none)
set_option maxRecDepth 100000 in
set_option maxHeartbeats 4000000 in
theorem bX6_bucketOf_0 {p : Program} {l : Launch} {e : Env} {s : State} {m : MethodId} {args : Array Value} {below : List Frame} {meth : Method} {c : Code} {E : mm_E} {N a0 : Nat} {res : mm_M × Option Nat} (X : mm_X p s m args meth c prog_1_method_26_code 4 "XorOverlay" tw_T E) (hr : meth.sig.returnType = (Option.some (.object "XorOverlay$Bucket"))) {G : mm_M} {H : Heap} {locs : List Loc} {ls : Array Slot} {x1 : Int32} {x2 : Int32} (V : mm_V E s G H locs) (hl : lx_has ls 4 [(0, .inr (some a0)), (1, .inl x1), (2, .inl x2)]) (hp : pX6_bucketOf_0 N a0 G x1 x2 = some res) : W p l e rX6_bucketOf s m args below meth c H locs 0 0 (MQ below (mm_Qq E res.1 res.2) args s 0 0 (mm_A E)) (F0 m 0 ls []) := by
  have hx := X.1.1
  have hb := X.1.2.1
  unfold pX6_bucketOf_0 at hp
  refine x_aload_n X dX6_bucketOf_0 hl 0 rfl rfl ?_
  refine x_iload_n X dX6_bucketOf_1 hl 1 rfl rfl ?_
  obtain ⟨hk, hp⟩ := q_is_of hp
  obtain ⟨⟨G, r2_2⟩, hq, hp⟩ := q_cl_of hp
  dsimp only at hp
  refine q_goq (cells' := 0) (slots' := 0) (va_runV (As := [.int x1]) (rest := []) X.1 (cX6_upPeer l E hq) (tw_cwV 1 X.1.2.2.2.2 (tw_1 65 rfl rfl) kX6_upPeer.2.1 kX6_upPeer.2.2.1 kX6_upPeer.2.2.2 kX6_upPeer.1 rfl rfl hX6_upPeer ⟨Nat.le_of_ble_eq_true rfl, Nat.le_of_ble_eq_true rfl⟩) (mm_preV X V rfl (by decide) rfl hk) rfl rfl hl.1 rfl (lv_room (Nat.le_of_ble_eq_true rfl)) dX6_bucketOf_2 ⟨by decide, by decide⟩) V ⟨rfl, rfl⟩ (fun H locs V => ?_)
  refine x_astore_n (lst' := [(3, .inr r2_2), (0, .inr (some a0)), (1, .inl x1), (2, .inl x2)]) X dX6_bucketOf_5 hl rfl (by decide) rfl (fun ls hl => ?_)
  refine x_aload_n X dX6_bucketOf_6 hl 0 rfl rfl ?_
  refine q_ifnull (tgt := 25) X dX6_bucketOf_7 (by decide) hp (fun e0 hp2 => ?_) (fun b7_3 e0 hp2 => ?_)
  · clear hp; subst e0; have hp := hp2; clear hp2
    refine lv_null hx hb dX6_bucketOf_25 ?_
    refine W.eq (g2 := F0 m 26 _ (va_rf none :: [])) rfl ?_
    exact q_aret X V hr ⟨by decide, by decide⟩ dX6_bucketOf_26 hp
  · clear hp; subst e0; have hp := hp2; clear hp2
    refine x_iload_n X dX6_bucketOf_10 hl 3 rfl rfl ?_
    refine q_if hp (lv_if_lt (tgt := 25) hx hb dX6_bucketOf_11 (by decide)) (fun hp => ?_) (fun hp => ?_)
    · refine lv_null hx hb dX6_bucketOf_25 ?_
      refine W.eq (g2 := F0 m 26 _ (va_rf none :: [])) rfl ?_
      exact q_aret X V hr ⟨by decide, by decide⟩ dX6_bucketOf_26 hp
    · refine x_iload_n X dX6_bucketOf_14 hl 3 rfl rfl ?_
      refine x_aload_n X dX6_bucketOf_15 hl 0 rfl rfl ?_
      refine q_getR (ci := 4) X V inX4 rfl (by decide) rfl 1 (by decide) rfl (tw_1 215 rfl rfl) rfl dX6_bucketOf_16 hp (fun r16_4 hp => ?_)
      obtain ⟨b19_5, e0, hp2⟩ := q_nn_of hp
      clear hp; subst e0; have hp := hp2; clear hp2
      refine q_getI (ci := 5) X V inX5 rfl (by decide) rfl 2 (by decide) rfl (tw_1 129 rfl rfl) rfl dX6_bucketOf_19 hp (fun v19_6 hp => ?_)
      refine q_if hp (lv_icmp_lt (tgt := 27) hx hb dX6_bucketOf_22 (by decide)) (fun hp => ?_) (fun hp => ?_)
      · refine x_aload_n X dX6_bucketOf_27 hl 0 rfl rfl ?_
        refine q_getR (ci := 4) X V inX4 rfl (by decide) rfl 1 (by decide) rfl (tw_1 215 rfl rfl) rfl dX6_bucketOf_28 hp (fun r28_7 hp => ?_)
        obtain ⟨b31_8, e0, hp2⟩ := q_nn_of hp
        clear hp; subst e0; have hp := hp2; clear hp2
        refine q_getR (ci := 5) X V inX5 rfl (by decide) rfl 1 (by decide) rfl (tw_1 127 rfl rfl) rfl dX6_bucketOf_31 hp (fun r31_9 hp => ?_)
        refine x_iload_n X dX6_bucketOf_34 hl 3 rfl rfl ?_
        obtain ⟨b35_10, e0, hp2⟩ := q_nn_of hp
        clear hp; subst e0; have hp := hp2; clear hp2
        refine q_aldB X V dX6_bucketOf_35 hp (fun r35_11 hp => ?_)
        exact q_aret X V hr ⟨by decide, by decide⟩ dX6_bucketOf_36 hp
      · refine lv_null hx hb dX6_bucketOf_25 ?_
        refine W.eq (g2 := F0 m 26 _ (va_rf none :: [])) rfl ?_
        exact q_aret X V hr ⟨by decide, by decide⟩ dX6_bucketOf_26 hp
theorem cX6_bucketOf (l : Launch) (E : mm_E) {N a0 : Nat} {G : mm_M} {x1 : Int32} {x2 : Int32} {res : mm_M × Option Nat} (hp : pX6_bucketOf_0 N a0 G x1 x2 = some res) : Met l yX6_bucketOf (Cond.code yX6_bucketOf prog_1_method_26_code 4 (Option.some (.object "XorOverlay$Bucket")) :: tw_T) rX6_bucketOf (mm_Pc E G [.ref a0, .int x1, .int x2]) (mm_Qq E res.1 res.2) 0 0 (mm_A E) :=
  mm_met (own := "XorOverlay") E G [.inr (some a0), .inl x1, .inl x2] (by decide) rfl rfl (Nat.le_of_ble_eq_true rfl) (fun p e s m args below meth c ls X hr hi V hl => bX6_bucketOf_0 X hr V hl hp)
abbrev yX6_bucket : MethodName := ⟨"XorOverlay", "bucket", "(II)I"⟩
abbrev rX6_bucket : Room := { frames := 3, cells := 0, slots := 0, locals := 68 }
theorem kX6_bucket : Cond.code yX6_bucket prog_1_method_16_code 4 (Option.some .int) ∈ tw_T ∧ Cond.instanceMethod yX6_bucket ∈ tw_T ∧ Cond.selects "XorOverlay" yX6_bucket yX6_bucket ∈ tw_T ∧ Cond.initialized "XorOverlay" ∈ tw_T := ⟨(tw_3 5 rfl rfl), (tw_3 3 rfl rfl), (tw_3 4 rfl rfl), (tw_1 1 rfl rfl)⟩
theorem hX6_bucket : yX6_bucket.cls = "XorOverlay" ∧ yX6_bucket.cls ≠ "java/lang/invoke/MethodHandle" ∧ yX6_bucket.cls ≠ "java/lang/invoke/VarHandle" ∧ (parseMethodDescriptor yX6_bucket.desc).map (fun d => d.parameters.length) = some 2 := by decide +kernel
theorem dX6_bucket_0 : decode prog_1_method_16_code 0 = .ok (.aload_n 0, 1) := by decide +kernel
theorem dX6_bucket_1 : decode prog_1_method_16_code 1 = .ok (.iload_n 1, 1) := by decide +kernel
theorem dX6_bucket_2 : decode prog_1_method_16_code 2 = .ok (.iload_n 2, 1) := by decide +kernel
theorem dX6_bucket_3 : decode prog_1_method_16_code 3 = .ok (.invokevirtual 145, 3) := by decide +kernel
theorem dX6_bucket_6 : decode prog_1_method_16_code 6 = .ok (.astore_n 3, 1) := by decide +kernel
theorem dX6_bucket_7 : decode prog_1_method_16_code 7 = .ok (.aload_n 3, 1) := by decide +kernel
theorem dX6_bucket_8 : decode prog_1_method_16_code 8 = .ok (.ifnonnull 5, 3) := by decide +kernel
theorem dX6_bucket_11 : decode prog_1_method_16_code 11 = .ok (.iconst (-1), 1) := by decide +kernel
theorem dX6_bucket_12 : decode prog_1_method_16_code 12 = .ok (.ireturn, 1) := by decide +kernel
theorem dX6_bucket_13 : decode prog_1_method_16_code 13 = .ok (.aload_n 3, 1) := by decide +kernel
theorem dX6_bucket_14 : decode prog_1_method_16_code 14 = .ok (.getfield 149, 3) := by decide +kernel
theorem dX6_bucket_17 : decode prog_1_method_16_code 17 = .ok (.sipush 256, 3) := by decide +kernel
theorem dX6_bucket_20 : decode prog_1_method_16_code 20 = .ok (.aload_n 3, 1) := by decide +kernel
theorem dX6_bucket_21 : decode prog_1_method_16_code 21 = .ok (.getfield 154, 3) := by decide +kernel
theorem dX6_bucket_24 : decode prog_1_method_16_code 24 = .ok (.imul, 1) := by decide +kernel
theorem dX6_bucket_25 : decode prog_1_method_16_code 25 = .ok (.iadd, 1) := by decide +kernel
theorem dX6_bucket_26 : decode prog_1_method_16_code 26 = .ok (.sipush 1024, 3) := by decide +kernel
theorem dX6_bucket_29 : decode prog_1_method_16_code 29 = .ok (.aload_n 0, 1) := by decide +kernel
theorem dX6_bucket_30 : decode prog_1_method_16_code 30 = .ok (.getfield 33, 3) := by decide +kernel
theorem dX6_bucket_33 : decode prog_1_method_16_code 33 = .ok (.aload_n 3, 1) := by decide +kernel
theorem dX6_bucket_34 : decode prog_1_method_16_code 34 = .ok (.getfield 155, 3) := by decide +kernel
theorem dX6_bucket_37 : decode prog_1_method_16_code 37 = .ok (.isub, 1) := by decide +kernel
theorem dX6_bucket_38 : decode prog_1_method_16_code 38 = .ok (.imul, 1) := by decide +kernel
theorem dX6_bucket_39 : decode prog_1_method_16_code 39 = .ok (.iadd, 1) := by decide +kernel
theorem dX6_bucket_40 : decode prog_1_method_16_code 40 = .ok (.ireturn, 1) := by decide +kernel
def pX6_bucket_0 (N a0 : Nat) (G : mm_M) (x1 : Int32) (x2 : Int32) : Option (mm_M × Int32) :=
  q_is G a0 7 <|
  q_cl (pX6_bucketOf_0 N a0 G x1 x2) fun G r3_2 =>
  q_op r3_2 (
    some (G, (-1 : Int32))) fun b8_3 =>
  q_gI G b8_3 1 2 fun v14_4 =>
  q_gI G b8_3 1 5 fun v21_5 =>
  q_gI G a0 7 5 fun v30_6 =>
  q_gI G b8_3 1 4 fun v34_7 =>
  some (G, ((v14_4 + ((256 : Int32) * v21_5)) + ((1024 : Int32) * (v30_6 - v34_7))))
set_option maxRecDepth 100000 in
set_option maxHeartbeats 4000000 in
theorem bX6_bucket_0 {p : Program} {l : Launch} {e : Env} {s : State} {m : MethodId} {args : Array Value} {below : List Frame} {meth : Method} {c : Code} {E : mm_E} {N a0 : Nat} {res : mm_M × Int32} (X : mm_X p s m args meth c prog_1_method_16_code 4 "XorOverlay" tw_T E) (hr : meth.sig.returnType = (Option.some .int)) {G : mm_M} {H : Heap} {locs : List Loc} {ls : Array Slot} {x1 : Int32} {x2 : Int32} (V : mm_V E s G H locs) (hl : lx_has ls 4 [(0, .inr (some a0)), (1, .inl x1), (2, .inl x2)]) (hp : pX6_bucket_0 N a0 G x1 x2 = some res) : W p l e rX6_bucket s m args below meth c H locs 0 0 (MQ below (mm_Qi E res.1 res.2) args s 0 0 (mm_A E)) (F0 m 0 ls []) := by
  have hx := X.1.1
  have hb := X.1.2.1
  unfold pX6_bucket_0 at hp
  refine x_aload_n X dX6_bucket_0 hl 0 rfl rfl ?_
  refine x_iload_n X dX6_bucket_1 hl 1 rfl rfl ?_
  refine x_iload_n X dX6_bucket_2 hl 2 rfl rfl ?_
  obtain ⟨hk, hp⟩ := q_is_of hp
  obtain ⟨⟨G, r3_2⟩, hq, hp⟩ := q_cl_of hp
  dsimp only at hp
  refine q_goq (cells' := 0) (slots' := 0) (va_runV (As := [.int x1, .int x2]) (rest := []) X.1 (cX6_bucketOf l E hq) (tw_cwV 2 X.1.2.2.2.2 (tw_3 6 rfl rfl) kX6_bucketOf.2.1 kX6_bucketOf.2.2.1 kX6_bucketOf.2.2.2 kX6_bucketOf.1 rfl rfl hX6_bucketOf ⟨Nat.le_of_ble_eq_true rfl, Nat.le_of_ble_eq_true rfl⟩) (mm_preV X V rfl (by decide) rfl hk) rfl rfl hl.1 rfl (lv_room (Nat.le_of_ble_eq_true rfl)) dX6_bucket_3 ⟨by decide, by decide⟩) V ⟨rfl, rfl⟩ (fun H locs V => ?_)
  refine x_astore_n (lst' := [(3, .inr r3_2), (0, .inr (some a0)), (1, .inl x1), (2, .inl x2)]) X dX6_bucket_6 hl rfl (by decide) rfl (fun ls hl => ?_)
  refine x_aload_n X dX6_bucket_7 hl 0 rfl rfl ?_
  refine q_ifnonnull (tgt := 13) X dX6_bucket_8 (by decide) hp (fun e0 hp2 => ?_) (fun b8_3 e0 hp2 => ?_)
  · clear hp; subst e0; have hp := hp2; clear hp2
    refine lv_iconst (v := (-1 : Int32)) hx hb dX6_bucket_11 (by decide) ?_
    exact q_iret X V hr ⟨by decide, by decide⟩ dX6_bucket_12 hp
  · clear hp; subst e0; have hp := hp2; clear hp2
    refine x_aload_n X dX6_bucket_13 hl 0 rfl rfl ?_
    refine q_getI (ci := 0) X V inX0 rfl (by decide) rfl 2 (by decide) rfl (tw_1 103 rfl rfl) rfl dX6_bucket_14 hp (fun v14_4 hp => ?_)
    refine lv_sipush (v := (256 : Int32)) hx hb dX6_bucket_17 (by decide) ?_
    refine x_aload_n X dX6_bucket_20 hl 0 rfl rfl ?_
    refine q_getI (ci := 0) X V inX0 rfl (by decide) rfl 5 (by decide) rfl (tw_1 111 rfl rfl) rfl dX6_bucket_21 hp (fun v21_5 hp => ?_)
    refine lv_imul hx hb dX6_bucket_24 ?_
    refine lv_iadd hx hb dX6_bucket_25 ?_
    refine lv_sipush (v := (1024 : Int32)) hx hb dX6_bucket_26 (by decide) ?_
    refine x_aload_n X dX6_bucket_29 hl 1 rfl rfl ?_
    refine q_getI (ci := 6) X V inX6 rfl (by decide) rfl 5 (by decide) rfl (tw_1 41 rfl rfl) rfl dX6_bucket_30 hp (fun v30_6 hp => ?_)
    refine x_aload_n X dX6_bucket_33 hl 0 rfl rfl ?_
    refine q_getI (ci := 0) X V inX0 rfl (by decide) rfl 4 (by decide) rfl (tw_1 108 rfl rfl) rfl dX6_bucket_34 hp (fun v34_7 hp => ?_)
    refine lv_isub hx hb dX6_bucket_37 ?_
    refine lv_imul hx hb dX6_bucket_38 ?_
    refine lv_iadd hx hb dX6_bucket_39 ?_
    exact q_iret X V hr ⟨by decide, by decide⟩ dX6_bucket_40 hp
theorem cX6_bucket (l : Launch) (E : mm_E) {N a0 : Nat} {G : mm_M} {x1 : Int32} {x2 : Int32} {res : mm_M × Int32} (hp : pX6_bucket_0 N a0 G x1 x2 = some res) : Met l yX6_bucket (Cond.code yX6_bucket prog_1_method_16_code 4 (Option.some .int) :: tw_T) rX6_bucket (mm_Pc E G [.ref a0, .int x1, .int x2]) (mm_Qi E res.1 res.2) 0 0 (mm_A E) :=
  mm_met (own := "XorOverlay") E G [.inr (some a0), .inl x1, .inl x2] (by decide) rfl rfl (Nat.le_of_ble_eq_true rfl) (fun p e s m args below meth c ls X hr hi V hl => bX6_bucket_0 X hr V hl hp)
abbrev yX6_contact : MethodName := ⟨"XorOverlay", "contact", "(III)I"⟩
abbrev rX6_contact : Room := { frames := 3, cells := 0, slots := 0, locals := 68 }
theorem kX6_contact : Cond.code yX6_contact prog_1_method_17_code 5 (Option.some .int) ∈ tw_T ∧ Cond.instanceMethod yX6_contact ∈ tw_T ∧ Cond.selects "XorOverlay" yX6_contact yX6_contact ∈ tw_T ∧ Cond.initialized "XorOverlay" ∈ tw_T := ⟨(tw_3 13 rfl rfl), (tw_3 11 rfl rfl), (tw_3 12 rfl rfl), (tw_1 1 rfl rfl)⟩
theorem hX6_contact : yX6_contact.cls = "XorOverlay" ∧ yX6_contact.cls ≠ "java/lang/invoke/MethodHandle" ∧ yX6_contact.cls ≠ "java/lang/invoke/VarHandle" ∧ (parseMethodDescriptor yX6_contact.desc).map (fun d => d.parameters.length) = some 3 := by decide +kernel
theorem dX6_contact_0 : decode prog_1_method_17_code 0 = .ok (.aload_n 0, 1) := by decide +kernel
theorem dX6_contact_1 : decode prog_1_method_17_code 1 = .ok (.iload_n 1, 1) := by decide +kernel
theorem dX6_contact_2 : decode prog_1_method_17_code 2 = .ok (.iload_n 2, 1) := by decide +kernel
theorem dX6_contact_3 : decode prog_1_method_17_code 3 = .ok (.invokevirtual 145, 3) := by decide +kernel
theorem dX6_contact_6 : decode prog_1_method_17_code 6 = .ok (.astore 4, 2) := by decide +kernel
theorem dX6_contact_8 : decode prog_1_method_17_code 8 = .ok (.aload 4, 2) := by decide +kernel
theorem dX6_contact_10 : decode prog_1_method_17_code 10 = .ok (.ifnull 16, 3) := by decide +kernel
theorem dX6_contact_13 : decode prog_1_method_17_code 13 = .ok (.iload_n 3, 1) := by decide +kernel
theorem dX6_contact_14 : decode prog_1_method_17_code 14 = .ok (.ifCond .lt 12, 3) := by decide +kernel
theorem dX6_contact_17 : decode prog_1_method_17_code 17 = .ok (.iload_n 3, 1) := by decide +kernel
theorem dX6_contact_18 : decode prog_1_method_17_code 18 = .ok (.aload 4, 2) := by decide +kernel
theorem dX6_contact_20 : decode prog_1_method_17_code 20 = .ok (.getfield 154, 3) := by decide +kernel
theorem dX6_contact_23 : decode prog_1_method_17_code 23 = .ok (.if_icmp .lt 5, 3) := by decide +kernel
theorem dX6_contact_26 : decode prog_1_method_17_code 26 = .ok (.iconst (-1), 1) := by decide +kernel
theorem dX6_contact_27 : decode prog_1_method_17_code 27 = .ok (.ireturn, 1) := by decide +kernel
theorem dX6_contact_28 : decode prog_1_method_17_code 28 = .ok (.aload 4, 2) := by decide +kernel
theorem dX6_contact_30 : decode prog_1_method_17_code 30 = .ok (.getfield 158, 3) := by decide +kernel
theorem dX6_contact_33 : decode prog_1_method_17_code 33 = .ok (.iload_n 3, 1) := by decide +kernel
theorem dX6_contact_34 : decode prog_1_method_17_code 34 = .ok (.iaload, 1) := by decide +kernel
theorem dX6_contact_35 : decode prog_1_method_17_code 35 = .ok (.sipush 256, 3) := by decide +kernel
theorem dX6_contact_38 : decode prog_1_method_17_code 38 = .ok (.aload 4, 2) := by decide +kernel
theorem dX6_contact_40 : decode prog_1_method_17_code 40 = .ok (.getfield 159, 3) := by decide +kernel
theorem dX6_contact_43 : decode prog_1_method_17_code 43 = .ok (.iload_n 3, 1) := by decide +kernel
theorem dX6_contact_44 : decode prog_1_method_17_code 44 = .ok (.iaload, 1) := by decide +kernel
theorem dX6_contact_45 : decode prog_1_method_17_code 45 = .ok (.imul, 1) := by decide +kernel
theorem dX6_contact_46 : decode prog_1_method_17_code 46 = .ok (.iadd, 1) := by decide +kernel
theorem dX6_contact_47 : decode prog_1_method_17_code 47 = .ok (.ireturn, 1) := by decide +kernel
def pX6_contact_0 (N a0 : Nat) (G : mm_M) (x1 : Int32) (x2 : Int32) (x3 : Int32) : Option (mm_M × Int32) :=
  q_is G a0 7 <|
  q_cl (pX6_bucketOf_0 N a0 G x1 x2) fun G r3_2 =>
  q_op r3_2 (
    some (G, (-1 : Int32))) fun b10_3 =>
  if x3 < 0 then
    some (G, (-1 : Int32))
  else
    q_gI G b10_3 1 5 fun v20_4 =>
    if x3 < v20_4 then
      q_gR G b10_3 1 0 fun r30_5 =>
      q_nn r30_5 fun b34_6 =>
      q_aI G b34_6 101 x3 fun v34_7 =>
      q_gR G b10_3 1 1 fun r40_8 =>
      q_nn r40_8 fun b44_9 =>
      q_aI G b44_9 101 x3 fun v44_10 =>
      some (G, (v34_7 + ((256 : Int32) * v44_10)))
    else
      some (G, (-1 : Int32))
set_option maxRecDepth 100000 in
set_option maxHeartbeats 4000000 in
theorem bX6_contact_0 {p : Program} {l : Launch} {e : Env} {s : State} {m : MethodId} {args : Array Value} {below : List Frame} {meth : Method} {c : Code} {E : mm_E} {N a0 : Nat} {res : mm_M × Int32} (X : mm_X p s m args meth c prog_1_method_17_code 5 "XorOverlay" tw_T E) (hr : meth.sig.returnType = (Option.some .int)) {G : mm_M} {H : Heap} {locs : List Loc} {ls : Array Slot} {x1 : Int32} {x2 : Int32} {x3 : Int32} (V : mm_V E s G H locs) (hl : lx_has ls 5 [(0, .inr (some a0)), (1, .inl x1), (2, .inl x2), (3, .inl x3)]) (hp : pX6_contact_0 N a0 G x1 x2 x3 = some res) : W p l e rX6_contact s m args below meth c H locs 0 0 (MQ below (mm_Qi E res.1 res.2) args s 0 0 (mm_A E)) (F0 m 0 ls []) := by
  have hx := X.1.1
  have hb := X.1.2.1
  unfold pX6_contact_0 at hp
  refine x_aload_n X dX6_contact_0 hl 0 rfl rfl ?_
  refine x_iload_n X dX6_contact_1 hl 1 rfl rfl ?_
  refine x_iload_n X dX6_contact_2 hl 2 rfl rfl ?_
  obtain ⟨hk, hp⟩ := q_is_of hp
  obtain ⟨⟨G, r3_2⟩, hq, hp⟩ := q_cl_of hp
  dsimp only at hp
  refine q_goq (cells' := 0) (slots' := 0) (va_runV (As := [.int x1, .int x2]) (rest := []) X.1 (cX6_bucketOf l E hq) (tw_cwV 2 X.1.2.2.2.2 (tw_3 6 rfl rfl) kX6_bucketOf.2.1 kX6_bucketOf.2.2.1 kX6_bucketOf.2.2.2 kX6_bucketOf.1 rfl rfl hX6_bucketOf ⟨Nat.le_of_ble_eq_true rfl, Nat.le_of_ble_eq_true rfl⟩) (mm_preV X V rfl (by decide) rfl hk) rfl rfl hl.1 rfl (lv_room (Nat.le_of_ble_eq_true rfl)) dX6_contact_3 ⟨by decide, by decide⟩) V ⟨rfl, rfl⟩ (fun H locs V => ?_)
  refine x_astore (lst' := [(4, .inr r3_2), (0, .inr (some a0)), (1, .inl x1), (2, .inl x2), (3, .inl x3)]) X dX6_contact_6 hl (by decide) rfl (fun ls hl => ?_)
  refine x_aload X dX6_contact_8 hl 0 rfl ?_
  refine q_ifnull (tgt := 26) X dX6_contact_10 (by decide) hp (fun e0 hp2 => ?_) (fun b10_3 e0 hp2 => ?_)
  · clear hp; subst e0; have hp := hp2; clear hp2
    refine lv_iconst (v := (-1 : Int32)) hx hb dX6_contact_26 (by decide) ?_
    exact q_iret X V hr ⟨by decide, by decide⟩ dX6_contact_27 hp
  · clear hp; subst e0; have hp := hp2; clear hp2
    refine x_iload_n X dX6_contact_13 hl 4 rfl rfl ?_
    refine q_if hp (lv_if_lt (tgt := 26) hx hb dX6_contact_14 (by decide)) (fun hp => ?_) (fun hp => ?_)
    · refine lv_iconst (v := (-1 : Int32)) hx hb dX6_contact_26 (by decide) ?_
      exact q_iret X V hr ⟨by decide, by decide⟩ dX6_contact_27 hp
    · refine x_iload_n X dX6_contact_17 hl 4 rfl rfl ?_
      refine x_aload X dX6_contact_18 hl 0 rfl ?_
      refine q_getI (ci := 0) X V inX0 rfl (by decide) rfl 5 (by decide) rfl (tw_1 111 rfl rfl) rfl dX6_contact_20 hp (fun v20_4 hp => ?_)
      refine q_if hp (lv_icmp_lt (tgt := 28) hx hb dX6_contact_23 (by decide)) (fun hp => ?_) (fun hp => ?_)
      · refine x_aload X dX6_contact_28 hl 0 rfl ?_
        refine q_getR (ci := 0) X V inX0 rfl (by decide) rfl 0 (by decide) rfl (tw_1 97 rfl rfl) rfl dX6_contact_30 hp (fun r30_5 hp => ?_)
        refine x_iload_n X dX6_contact_33 hl 4 rfl rfl ?_
        obtain ⟨b34_6, e0, hp2⟩ := q_nn_of hp
        clear hp; subst e0; have hp := hp2; clear hp2
        refine q_iald X V dX6_contact_34 hp (fun v34_7 hp => ?_)
        refine lv_sipush (v := (256 : Int32)) hx hb dX6_contact_35 (by decide) ?_
        refine x_aload X dX6_contact_38 hl 0 rfl ?_
        refine q_getR (ci := 0) X V inX0 rfl (by decide) rfl 1 (by decide) rfl (tw_1 100 rfl rfl) rfl dX6_contact_40 hp (fun r40_8 hp => ?_)
        refine x_iload_n X dX6_contact_43 hl 4 rfl rfl ?_
        obtain ⟨b44_9, e0, hp2⟩ := q_nn_of hp
        clear hp; subst e0; have hp := hp2; clear hp2
        refine q_iald X V dX6_contact_44 hp (fun v44_10 hp => ?_)
        refine lv_imul hx hb dX6_contact_45 ?_
        refine lv_iadd hx hb dX6_contact_46 ?_
        exact q_iret X V hr ⟨by decide, by decide⟩ dX6_contact_47 hp
      · refine lv_iconst (v := (-1 : Int32)) hx hb dX6_contact_26 (by decide) ?_
        exact q_iret X V hr ⟨by decide, by decide⟩ dX6_contact_27 hp
theorem cX6_contact (l : Launch) (E : mm_E) {N a0 : Nat} {G : mm_M} {x1 : Int32} {x2 : Int32} {x3 : Int32} {res : mm_M × Int32} (hp : pX6_contact_0 N a0 G x1 x2 x3 = some res) : Met l yX6_contact (Cond.code yX6_contact prog_1_method_17_code 5 (Option.some .int) :: tw_T) rX6_contact (mm_Pc E G [.ref a0, .int x1, .int x2, .int x3]) (mm_Qi E res.1 res.2) 0 0 (mm_A E) :=
  mm_met (own := "XorOverlay") E G [.inr (some a0), .inl x1, .inl x2, .inl x3] (by decide) rfl rfl (Nat.le_of_ble_eq_true rfl) (fun p e s m args below meth c ls X hr hi V hl => bX6_contact_0 X hr V hl hp)
abbrev yX6_closest : MethodName := ⟨"XorOverlay", "closest", "(III)I"⟩
abbrev rX6_closest : Room := { frames := 2, cells := 0, slots := 0, locals := 45 }
theorem kX6_closest : Cond.code yX6_closest prog_1_method_18_code 7 (Option.some .int) ∈ tw_T ∧ Cond.instanceMethod yX6_closest ∈ tw_T ∧ Cond.selects "XorOverlay" yX6_closest yX6_closest ∈ tw_T ∧ Cond.initialized "XorOverlay" ∈ tw_T := ⟨(tw_3 17 rfl rfl), (tw_3 15 rfl rfl), (tw_3 16 rfl rfl), (tw_1 1 rfl rfl)⟩
theorem hX6_closest : yX6_closest.cls = "XorOverlay" ∧ yX6_closest.cls ≠ "java/lang/invoke/MethodHandle" ∧ yX6_closest.cls ≠ "java/lang/invoke/VarHandle" ∧ (parseMethodDescriptor yX6_closest.desc).map (fun d => d.parameters.length) = some 3 := by decide +kernel
theorem dX6_closest_0 : decode prog_1_method_18_code 0 = .ok (.aload_n 0, 1) := by decide +kernel
theorem dX6_closest_1 : decode prog_1_method_18_code 1 = .ok (.iload_n 1, 1) := by decide +kernel
theorem dX6_closest_2 : decode prog_1_method_18_code 2 = .ok (.invokevirtual 43, 3) := by decide +kernel
theorem dX6_closest_5 : decode prog_1_method_18_code 5 = .ok (.astore 4, 2) := by decide +kernel
theorem dX6_closest_7 : decode prog_1_method_18_code 7 = .ok (.aload 4, 2) := by decide +kernel
theorem dX6_closest_9 : decode prog_1_method_18_code 9 = .ok (.ifnull 19, 3) := by decide +kernel
theorem dX6_closest_12 : decode prog_1_method_18_code 12 = .ok (.iload_n 2, 1) := by decide +kernel
theorem dX6_closest_13 : decode prog_1_method_18_code 13 = .ok (.invokestatic 39, 3) := by decide +kernel
theorem dX6_closest_16 : decode prog_1_method_18_code 16 = .ok (.ifCond .eq 12, 3) := by decide +kernel
theorem dX6_closest_19 : decode prog_1_method_18_code 19 = .ok (.iload_n 3, 1) := by decide +kernel
theorem dX6_closest_20 : decode prog_1_method_18_code 20 = .ok (.ifCond .lt 8, 3) := by decide +kernel
theorem dX6_closest_23 : decode prog_1_method_18_code 23 = .ok (.iload_n 3, 1) := by decide +kernel
theorem dX6_closest_24 : decode prog_1_method_18_code 24 = .ok (.iconst 3, 1) := by decide +kernel
theorem dX6_closest_25 : decode prog_1_method_18_code 25 = .ok (.if_icmp .lt 5, 3) := by decide +kernel
theorem dX6_closest_28 : decode prog_1_method_18_code 28 = .ok (.iconst (-1), 1) := by decide +kernel
theorem dX6_closest_29 : decode prog_1_method_18_code 29 = .ok (.ireturn, 1) := by decide +kernel
theorem dX6_closest_30 : decode prog_1_method_18_code 30 = .ok (.aload 4, 2) := by decide +kernel
theorem dX6_closest_32 : decode prog_1_method_18_code 32 = .ok (.getfield 54, 3) := by decide +kernel
theorem dX6_closest_35 : decode prog_1_method_18_code 35 = .ok (.iload_n 2, 1) := by decide +kernel
theorem dX6_closest_36 : decode prog_1_method_18_code 36 = .ok (.iconst (-1), 1) := by decide +kernel
theorem dX6_closest_37 : decode prog_1_method_18_code 37 = .ok (.iconst (-1), 1) := by decide +kernel
theorem dX6_closest_38 : decode prog_1_method_18_code 38 = .ok (.invokevirtual 162, 3) := by decide +kernel
theorem dX6_closest_41 : decode prog_1_method_18_code 41 = .ok (.istore 5, 2) := by decide +kernel
theorem dX6_closest_43 : decode prog_1_method_18_code 43 = .ok (.iconst 0, 1) := by decide +kernel
theorem dX6_closest_44 : decode prog_1_method_18_code 44 = .ok (.istore 6, 2) := by decide +kernel
theorem dX6_closest_46 : decode prog_1_method_18_code 46 = .ok (.iload 6, 2) := by decide +kernel
theorem dX6_closest_48 : decode prog_1_method_18_code 48 = .ok (.iload_n 3, 1) := by decide +kernel
theorem dX6_closest_49 : decode prog_1_method_18_code 49 = .ok (.if_icmp .ge 31, 3) := by decide +kernel
theorem dX6_closest_52 : decode prog_1_method_18_code 52 = .ok (.iload 5, 2) := by decide +kernel
theorem dX6_closest_54 : decode prog_1_method_18_code 54 = .ok (.iconst (-1), 1) := by decide +kernel
theorem dX6_closest_55 : decode prog_1_method_18_code 55 = .ok (.if_icmp .eq 25, 3) := by decide +kernel
theorem dX6_closest_58 : decode prog_1_method_18_code 58 = .ok (.aload 4, 2) := by decide +kernel
theorem dX6_closest_60 : decode prog_1_method_18_code 60 = .ok (.getfield 54, 3) := by decide +kernel
theorem dX6_closest_63 : decode prog_1_method_18_code 63 = .ok (.iload_n 2, 1) := by decide +kernel
theorem dX6_closest_64 : decode prog_1_method_18_code 64 = .ok (.iload 5, 2) := by decide +kernel
theorem dX6_closest_66 : decode prog_1_method_18_code 66 = .ok (.iload_n 2, 1) := by decide +kernel
theorem dX6_closest_67 : decode prog_1_method_18_code 67 = .ok (.ixor, 1) := by decide +kernel
theorem dX6_closest_68 : decode prog_1_method_18_code 68 = .ok (.iconst (-1), 1) := by decide +kernel
theorem dX6_closest_69 : decode prog_1_method_18_code 69 = .ok (.invokevirtual 162, 3) := by decide +kernel
theorem dX6_closest_72 : decode prog_1_method_18_code 72 = .ok (.istore 5, 2) := by decide +kernel
theorem dX6_closest_74 : decode prog_1_method_18_code 74 = .ok (.iinc 6 1, 3) := by decide +kernel
theorem dX6_closest_77 : decode prog_1_method_18_code 77 = .ok (.goto (-31), 3) := by decide +kernel
theorem dX6_closest_80 : decode prog_1_method_18_code 80 = .ok (.iload 5, 2) := by decide +kernel
theorem dX6_closest_82 : decode prog_1_method_18_code 82 = .ok (.ireturn, 1) := by decide +kernel
def pX6_closest_46_b (N a0 : Nat) (kb : mm_M → Int32 → Int32 → Option Nat → Int32 → Int32 → Option (mm_M × Int32)) (kx : mm_M → Int32 → Option (mm_M × Int32)) (G : mm_M) (x2 : Int32) (x3 : Int32) (x4 : Option Nat) (x5 : Int32) (x6 : Int32) : Option (mm_M × Int32) :=
  if x3 ≤ x6 then
    kx G x5
  else
    if x5 = (-1 : Int32) then
      kx G x5
    else
      q_nn x4 fun b60_10 =>
      q_gR G b60_10 5 1 fun r60_11 =>
      q_nn r60_11 fun b69_12 =>
      q_is G b69_12 6 <|
      q_cl (pX5_closestBeyond_0 N b69_12 G x2 (x5 ^^^ x2) (-1 : Int32)) fun G v69_14 =>
      kb G x2 x3 (some b60_10) v69_14 (x6 + (1 : Int32))
def pX6_closest_46 (N a0 : Nat) (kx : mm_M → Int32 → Option (mm_M × Int32)) : Nat → mm_M → Int32 → Int32 → Option Nat → Int32 → Int32 → Option (mm_M × Int32)
  | 0 => fun _ _ _ _ _ _ => none
  | n + 1 => pX6_closest_46_b N a0 (pX6_closest_46 N a0 kx n) kx
set_option maxRecDepth 100000 in
set_option maxHeartbeats 4000000 in
theorem bX6_closest_46 {p : Program} {l : Launch} {e : Env} {s : State} {m : MethodId} {args : Array Value} {below : List Frame} {meth : Method} {c : Code} {E : mm_E} {N a0 : Nat} {res : mm_M × Int32} (X : mm_X p s m args meth c prog_1_method_18_code 7 "XorOverlay" tw_T E) (hr : meth.sig.returnType = (Option.some .int)) {kx : mm_M → Int32 → Option (mm_M × Int32)} (hkx : ∀ (G : mm_M) (H : Heap) (locs : List Loc) (ls : Array Slot) (x5 : Int32), mm_V E s G H locs → lx_has ls 7 [(0, .inr (some a0)), (5, .inl x5)] → kx G x5 = some res → W p l e rX6_closest s m args below meth c H locs 0 0 (MQ below (mm_Qi E res.1 res.2) args s 0 0 (mm_A E)) (F0 m 80 ls [])) :
    ∀ (n : Nat) (G : mm_M) (H : Heap) (locs : List Loc) (ls : Array Slot) (x2 : Int32) (x3 : Int32) (x4 : Option Nat) (x5 : Int32) (x6 : Int32), mm_V E s G H locs → lx_has ls 7 [(0, .inr (some a0)), (2, .inl x2), (3, .inl x3), (4, .inr x4), (5, .inl x5), (6, .inl x6)] → pX6_closest_46 N a0 kx n G x2 x3 x4 x5 x6 = some res → W p l e rX6_closest s m args below meth c H locs 0 0 (MQ below (mm_Qi E res.1 res.2) args s 0 0 (mm_A E)) (F0 m 46 ls []) := by
  have hx := X.1.1
  have hb := X.1.2.1
  intro n
  induction n with
  | zero =>
    intro G H locs ls x2 x3 x4 x5 x6 V hl hp
    cases hp
  | succ n ih =>
    intro G H locs ls x2 x3 x4 x5 x6 V hl hp
    have hp : pX6_closest_46_b N a0 (pX6_closest_46 N a0 kx n) kx G x2 x3 x4 x5 x6 = some res := hp
    unfold pX6_closest_46_b at hp
    refine x_iload X dX6_closest_46 hl 5 rfl ?_
    refine x_iload_n X dX6_closest_48 hl 2 rfl rfl ?_
    refine q_if hp (lv_icmp_ge (tgt := 80) hx hb dX6_closest_49 (by decide)) (fun hp => ?_) (fun hp => ?_)
    · exact hkx _ _ _ _ _ V (lx_sub hl [0, 4] rfl) hp
    · refine x_iload X dX6_closest_52 hl 4 rfl ?_
      refine lv_iconst (v := (-1 : Int32)) hx hb dX6_closest_54 (by decide) ?_
      refine q_if hp (lv_icmp_eq (tgt := 80) hx hb dX6_closest_55 (by decide)) (fun hp => ?_) (fun hp => ?_)
      · exact hkx _ _ _ _ _ V (lx_sub hl [0, 4] rfl) hp
      · refine x_aload X dX6_closest_58 hl 3 rfl ?_
        obtain ⟨b60_10, e0, hp2⟩ := q_nn_of hp
        clear hp; subst e0; have hp := hp2; clear hp2
        refine q_getR (ci := 4) X V inX4 rfl (by decide) rfl 1 (by decide) rfl (tw_1 215 rfl rfl) rfl dX6_closest_60 hp (fun r60_11 hp => ?_)
        refine x_iload_n X dX6_closest_63 hl 1 rfl rfl ?_
        refine x_iload X dX6_closest_64 hl 4 rfl ?_
        refine x_iload_n X dX6_closest_66 hl 1 rfl rfl ?_
        refine lv_ixor hx hb dX6_closest_67 ?_
        refine lv_iconst (v := (-1 : Int32)) hx hb dX6_closest_68 (by decide) ?_
        obtain ⟨b69_12, e0, hp2⟩ := q_nn_of hp
        clear hp; subst e0; have hp := hp2; clear hp2
        obtain ⟨hk, hp⟩ := q_is_of hp
        obtain ⟨⟨G, v69_14⟩, hq, hp⟩ := q_cl_of hp
        dsimp only at hp
        refine q_goi (cells' := 0) (slots' := 0) (va_runV (As := [.int x2, .int (x5 ^^^ x2), .int (-1 : Int32)]) (rest := []) X.1 (cX5_closestBeyond l E hq) (tw_cwV 3 X.1.2.2.2.2 (tw_2 65 rfl rfl) kX5_closestBeyond.2.1 kX5_closestBeyond.2.2.1 kX5_closestBeyond.2.2.2 kX5_closestBeyond.1 rfl rfl hX5_closestBeyond ⟨Nat.le_of_ble_eq_true rfl, Nat.le_of_ble_eq_true rfl⟩) (mm_preV X V rfl (by decide) rfl hk) rfl rfl hl.1 rfl (lv_room (Nat.le_of_ble_eq_true rfl)) dX6_closest_69 ⟨by decide, by decide⟩) V ⟨rfl, rfl⟩ (fun H locs V => ?_)
        refine x_istore (lst' := [(5, .inl v69_14), (0, .inr (some a0)), (2, .inl x2), (3, .inl x3), (4, .inr (some b60_10)), (6, .inl x6)]) X dX6_closest_72 hl (by decide) rfl (fun ls hl => ?_)
        refine x_iinc (v := (1 : Int32)) (lst' := [(6, .inl (x6 + (1 : Int32))), (5, .inl v69_14), (0, .inr (some a0)), (2, .inl x2), (3, .inl x3), (4, .inr (some b60_10))]) X dX6_closest_74 hl 5 rfl (by decide) (by decide) rfl (fun ls hl => ?_)
        refine lv_goto (tgt := 46) hx hb dX6_closest_77 (by decide) ?_
        exact ih _ _ _ _ _ _ _ _ _ V (lx_sub hl [2, 3, 4, 5, 1, 0] rfl) hp
def pX6_closest_0 (N a0 : Nat) (G : mm_M) (x1 : Int32) (x2 : Int32) (x3 : Int32) : Option (mm_M × Int32) :=
  q_is G a0 7 <|
  q_cl (pX6_upPeer_0 N a0 G x1) fun G r2_2 =>
  q_op r2_2 (
    some (G, (-1 : Int32))) fun b9_3 =>
  q_cl (pX6_isNumber_0 N G x2) fun G v13_5 =>
  if v13_5 = 0 then
    some (G, (-1 : Int32))
  else
    if x3 < 0 then
      some (G, (-1 : Int32))
    else
      if x3 < (3 : Int32) then
        q_gR G b9_3 5 1 fun r32_6 =>
        q_nn r32_6 fun b38_7 =>
        q_is G b38_7 6 <|
        q_cl (pX5_closestBeyond_0 N b38_7 G x2 (-1 : Int32) (-1 : Int32)) fun G v38_9 =>
        pX6_closest_46 N a0 (fun (G : mm_M) (x5 : Int32) =>
          some (G, x5)) N G x2 x3 (some b9_3) v38_9 (0 : Int32)
      else
        some (G, (-1 : Int32))
set_option maxRecDepth 100000 in
set_option maxHeartbeats 4000000 in
theorem bX6_closest_0 {p : Program} {l : Launch} {e : Env} {s : State} {m : MethodId} {args : Array Value} {below : List Frame} {meth : Method} {c : Code} {E : mm_E} {N a0 : Nat} {res : mm_M × Int32} (X : mm_X p s m args meth c prog_1_method_18_code 7 "XorOverlay" tw_T E) (hr : meth.sig.returnType = (Option.some .int)) {G : mm_M} {H : Heap} {locs : List Loc} {ls : Array Slot} {x1 : Int32} {x2 : Int32} {x3 : Int32} (V : mm_V E s G H locs) (hl : lx_has ls 7 [(0, .inr (some a0)), (1, .inl x1), (2, .inl x2), (3, .inl x3)]) (hp : pX6_closest_0 N a0 G x1 x2 x3 = some res) : W p l e rX6_closest s m args below meth c H locs 0 0 (MQ below (mm_Qi E res.1 res.2) args s 0 0 (mm_A E)) (F0 m 0 ls []) := by
  have hx := X.1.1
  have hb := X.1.2.1
  unfold pX6_closest_0 at hp
  refine x_aload_n X dX6_closest_0 hl 0 rfl rfl ?_
  refine x_iload_n X dX6_closest_1 hl 1 rfl rfl ?_
  obtain ⟨hk, hp⟩ := q_is_of hp
  obtain ⟨⟨G, r2_2⟩, hq, hp⟩ := q_cl_of hp
  dsimp only at hp
  refine q_goq (cells' := 0) (slots' := 0) (va_runV (As := [.int x1]) (rest := []) X.1 (cX6_upPeer l E hq) (tw_cwV 1 X.1.2.2.2.2 (tw_1 65 rfl rfl) kX6_upPeer.2.1 kX6_upPeer.2.2.1 kX6_upPeer.2.2.2 kX6_upPeer.1 rfl rfl hX6_upPeer ⟨Nat.le_of_ble_eq_true rfl, Nat.le_of_ble_eq_true rfl⟩) (mm_preV X V rfl (by decide) rfl hk) rfl rfl hl.1 rfl (lv_room (Nat.le_of_ble_eq_true rfl)) dX6_closest_2 ⟨by decide, by decide⟩) V ⟨rfl, rfl⟩ (fun H locs V => ?_)
  refine x_astore (lst' := [(4, .inr r2_2), (0, .inr (some a0)), (1, .inl x1), (2, .inl x2), (3, .inl x3)]) X dX6_closest_5 hl (by decide) rfl (fun ls hl => ?_)
  refine x_aload X dX6_closest_7 hl 0 rfl ?_
  refine q_ifnull (tgt := 28) X dX6_closest_9 (by decide) hp (fun e0 hp2 => ?_) (fun b9_3 e0 hp2 => ?_)
  · clear hp; subst e0; have hp := hp2; clear hp2
    refine lv_iconst (v := (-1 : Int32)) hx hb dX6_closest_28 (by decide) ?_
    exact q_iret X V hr ⟨by decide, by decide⟩ dX6_closest_29 hp
  · clear hp; subst e0; have hp := hp2; clear hp2
    refine x_iload_n X dX6_closest_12 hl 3 rfl rfl ?_
    obtain ⟨⟨G, v13_5⟩, hq, hp⟩ := q_cl_of hp
    dsimp only at hp
    refine q_goi (cells' := 0) (slots' := 0) (va_runS (As := [.int x2]) (rest := []) X.1 (cX6_isNumber l E hq) (tw_cwS 1 X.1.2.2.2.2 (tw_1 62 rfl rfl) kX6_isNumber.2.1 kX6_isNumber.2.2 kX6_isNumber.1 rfl rfl hX6_isNumber ⟨Nat.le_of_ble_eq_true rfl, Nat.le_of_ble_eq_true rfl⟩) (mm_preS X V) rfl rfl hl.1 rfl (lv_room (Nat.le_of_ble_eq_true rfl)) dX6_closest_13 ⟨by decide, by decide⟩) V ⟨rfl, rfl⟩ (fun H locs V => ?_)
    refine q_if hp (lv_if_eq (tgt := 28) hx hb dX6_closest_16 (by decide)) (fun hp => ?_) (fun hp => ?_)
    · refine lv_iconst (v := (-1 : Int32)) hx hb dX6_closest_28 (by decide) ?_
      exact q_iret X V hr ⟨by decide, by decide⟩ dX6_closest_29 hp
    · refine x_iload_n X dX6_closest_19 hl 4 rfl rfl ?_
      refine q_if hp (lv_if_lt (tgt := 28) hx hb dX6_closest_20 (by decide)) (fun hp => ?_) (fun hp => ?_)
      · refine lv_iconst (v := (-1 : Int32)) hx hb dX6_closest_28 (by decide) ?_
        exact q_iret X V hr ⟨by decide, by decide⟩ dX6_closest_29 hp
      · refine x_iload_n X dX6_closest_23 hl 4 rfl rfl ?_
        refine lv_iconst (v := (3 : Int32)) hx hb dX6_closest_24 (by decide) ?_
        refine q_if hp (lv_icmp_lt (tgt := 30) hx hb dX6_closest_25 (by decide)) (fun hp => ?_) (fun hp => ?_)
        · refine x_aload X dX6_closest_30 hl 0 rfl ?_
          refine q_getR (ci := 4) X V inX4 rfl (by decide) rfl 1 (by decide) rfl (tw_1 215 rfl rfl) rfl dX6_closest_32 hp (fun r32_6 hp => ?_)
          refine x_iload_n X dX6_closest_35 hl 3 rfl rfl ?_
          refine lv_iconst (v := (-1 : Int32)) hx hb dX6_closest_36 (by decide) ?_
          refine lv_iconst (v := (-1 : Int32)) hx hb dX6_closest_37 (by decide) ?_
          obtain ⟨b38_7, e0, hp2⟩ := q_nn_of hp
          clear hp; subst e0; have hp := hp2; clear hp2
          obtain ⟨hk, hp⟩ := q_is_of hp
          obtain ⟨⟨G, v38_9⟩, hq, hp⟩ := q_cl_of hp
          dsimp only at hp
          refine q_goi (cells' := 0) (slots' := 0) (va_runV (As := [.int x2, .int (-1 : Int32), .int (-1 : Int32)]) (rest := []) X.1 (cX5_closestBeyond l E hq) (tw_cwV 3 X.1.2.2.2.2 (tw_2 65 rfl rfl) kX5_closestBeyond.2.1 kX5_closestBeyond.2.2.1 kX5_closestBeyond.2.2.2 kX5_closestBeyond.1 rfl rfl hX5_closestBeyond ⟨Nat.le_of_ble_eq_true rfl, Nat.le_of_ble_eq_true rfl⟩) (mm_preV X V rfl (by decide) rfl hk) rfl rfl hl.1 rfl (lv_room (Nat.le_of_ble_eq_true rfl)) dX6_closest_38 ⟨by decide, by decide⟩) V ⟨rfl, rfl⟩ (fun H locs V => ?_)
          refine x_istore (lst' := [(5, .inl v38_9), (4, .inr (some b9_3)), (0, .inr (some a0)), (1, .inl x1), (2, .inl x2), (3, .inl x3)]) X dX6_closest_41 hl (by decide) rfl (fun ls hl => ?_)
          refine lv_iconst (v := (0 : Int32)) hx hb dX6_closest_43 (by decide) ?_
          refine x_istore (lst' := [(6, .inl (0 : Int32)), (5, .inl v38_9), (4, .inr (some b9_3)), (0, .inr (some a0)), (1, .inl x1), (2, .inl x2), (3, .inl x3)]) X dX6_closest_44 hl (by decide) rfl (fun ls hl => ?_)
          refine bX6_closest_46 X hr (fun G H locs ls x5 V hl hp => ?_) _ _ _ _ _ _ _ _ _ _ V (lx_sub hl [3, 5, 6, 2, 1, 0] rfl) hp
          refine x_iload X dX6_closest_80 hl 1 rfl ?_
          exact q_iret X V hr ⟨by decide, by decide⟩ dX6_closest_82 hp
        · refine lv_iconst (v := (-1 : Int32)) hx hb dX6_closest_28 (by decide) ?_
          exact q_iret X V hr ⟨by decide, by decide⟩ dX6_closest_29 hp
theorem cX6_closest (l : Launch) (E : mm_E) {N a0 : Nat} {G : mm_M} {x1 : Int32} {x2 : Int32} {x3 : Int32} {res : mm_M × Int32} (hp : pX6_closest_0 N a0 G x1 x2 x3 = some res) : Met l yX6_closest (Cond.code yX6_closest prog_1_method_18_code 7 (Option.some .int) :: tw_T) rX6_closest (mm_Pc E G [.ref a0, .int x1, .int x2, .int x3]) (mm_Qi E res.1 res.2) 0 0 (mm_A E) :=
  mm_met (own := "XorOverlay") E G [.inr (some a0), .inl x1, .inl x2, .inl x3] (by decide) rfl rfl (Nat.le_of_ble_eq_true rfl) (fun p e s m args below meth c ls X hr hi V hl => bX6_closest_0 X hr V hl hp)
abbrev yX6_entry : MethodName := ⟨"XorOverlay", "entry", "(II)I"⟩
abbrev rX6_entry : Room := { frames := 2, cells := 0, slots := 0, locals := 45 }
theorem kX6_entry : Cond.code yX6_entry prog_1_method_19_code 5 (Option.some .int) ∈ tw_T ∧ Cond.instanceMethod yX6_entry ∈ tw_T ∧ Cond.selects "XorOverlay" yX6_entry yX6_entry ∈ tw_T ∧ Cond.initialized "XorOverlay" ∈ tw_T := ⟨(tw_3 21 rfl rfl), (tw_3 19 rfl rfl), (tw_3 20 rfl rfl), (tw_1 1 rfl rfl)⟩
theorem hX6_entry : yX6_entry.cls = "XorOverlay" ∧ yX6_entry.cls ≠ "java/lang/invoke/MethodHandle" ∧ yX6_entry.cls ≠ "java/lang/invoke/VarHandle" ∧ (parseMethodDescriptor yX6_entry.desc).map (fun d => d.parameters.length) = some 2 := by decide +kernel
theorem dX6_entry_0 : decode prog_1_method_19_code 0 = .ok (.aload_n 0, 1) := by decide +kernel
theorem dX6_entry_1 : decode prog_1_method_19_code 1 = .ok (.iload_n 1, 1) := by decide +kernel
theorem dX6_entry_2 : decode prog_1_method_19_code 2 = .ok (.invokevirtual 43, 3) := by decide +kernel
theorem dX6_entry_5 : decode prog_1_method_19_code 5 = .ok (.astore_n 3, 1) := by decide +kernel
theorem dX6_entry_6 : decode prog_1_method_19_code 6 = .ok (.aload_n 3, 1) := by decide +kernel
theorem dX6_entry_7 : decode prog_1_method_19_code 7 = .ok (.ifnull 18, 3) := by decide +kernel
theorem dX6_entry_10 : decode prog_1_method_19_code 10 = .ok (.iload_n 2, 1) := by decide +kernel
theorem dX6_entry_11 : decode prog_1_method_19_code 11 = .ok (.ifCond .lt 14, 3) := by decide +kernel
theorem dX6_entry_14 : decode prog_1_method_19_code 14 = .ok (.iload_n 2, 1) := by decide +kernel
theorem dX6_entry_15 : decode prog_1_method_19_code 15 = .ok (.aload_n 3, 1) := by decide +kernel
theorem dX6_entry_16 : decode prog_1_method_19_code 16 = .ok (.getfield 86, 3) := by decide +kernel
theorem dX6_entry_19 : decode prog_1_method_19_code 19 = .ok (.getfield 166, 3) := by decide +kernel
theorem dX6_entry_22 : decode prog_1_method_19_code 22 = .ok (.if_icmp .lt 5, 3) := by decide +kernel
theorem dX6_entry_25 : decode prog_1_method_19_code 25 = .ok (.iconst (-1), 1) := by decide +kernel
theorem dX6_entry_26 : decode prog_1_method_19_code 26 = .ok (.ireturn, 1) := by decide +kernel
theorem dX6_entry_27 : decode prog_1_method_19_code 27 = .ok (.aload_n 3, 1) := by decide +kernel
theorem dX6_entry_28 : decode prog_1_method_19_code 28 = .ok (.getfield 86, 3) := by decide +kernel
theorem dX6_entry_31 : decode prog_1_method_19_code 31 = .ok (.astore 4, 2) := by decide +kernel
theorem dX6_entry_33 : decode prog_1_method_19_code 33 = .ok (.aload 4, 2) := by decide +kernel
theorem dX6_entry_35 : decode prog_1_method_19_code 35 = .ok (.getfield 167, 3) := by decide +kernel
theorem dX6_entry_38 : decode prog_1_method_19_code 38 = .ok (.iload_n 2, 1) := by decide +kernel
theorem dX6_entry_39 : decode prog_1_method_19_code 39 = .ok (.iaload, 1) := by decide +kernel
theorem dX6_entry_40 : decode prog_1_method_19_code 40 = .ok (.sipush 256, 3) := by decide +kernel
theorem dX6_entry_43 : decode prog_1_method_19_code 43 = .ok (.aload 4, 2) := by decide +kernel
theorem dX6_entry_45 : decode prog_1_method_19_code 45 = .ok (.getfield 170, 3) := by decide +kernel
theorem dX6_entry_48 : decode prog_1_method_19_code 48 = .ok (.iload_n 2, 1) := by decide +kernel
theorem dX6_entry_49 : decode prog_1_method_19_code 49 = .ok (.iaload, 1) := by decide +kernel
theorem dX6_entry_50 : decode prog_1_method_19_code 50 = .ok (.imul, 1) := by decide +kernel
theorem dX6_entry_51 : decode prog_1_method_19_code 51 = .ok (.iadd, 1) := by decide +kernel
theorem dX6_entry_52 : decode prog_1_method_19_code 52 = .ok (.ldc 171, 2) := by decide +kernel
theorem dX6_entry_54 : decode prog_1_method_19_code 54 = .ok (.aload 4, 2) := by decide +kernel
theorem dX6_entry_56 : decode prog_1_method_19_code 56 = .ok (.getfield 172, 3) := by decide +kernel
theorem dX6_entry_59 : decode prog_1_method_19_code 59 = .ok (.iload_n 2, 1) := by decide +kernel
theorem dX6_entry_60 : decode prog_1_method_19_code 60 = .ok (.iaload, 1) := by decide +kernel
theorem dX6_entry_61 : decode prog_1_method_19_code 61 = .ok (.aload_n 0, 1) := by decide +kernel
theorem dX6_entry_62 : decode prog_1_method_19_code 62 = .ok (.getfield 33, 3) := by decide +kernel
theorem dX6_entry_65 : decode prog_1_method_19_code 65 = .ok (.isub, 1) := by decide +kernel
theorem dX6_entry_66 : decode prog_1_method_19_code 66 = .ok (.imul, 1) := by decide +kernel
theorem dX6_entry_67 : decode prog_1_method_19_code 67 = .ok (.iadd, 1) := by decide +kernel
theorem dX6_entry_68 : decode prog_1_method_19_code 68 = .ok (.ireturn, 1) := by decide +kernel
def pX6_entry_0 (N a0 : Nat) (G : mm_M) (x1 : Int32) (x2 : Int32) : Option (mm_M × Int32) :=
  q_is G a0 7 <|
  q_cl (pX6_upPeer_0 N a0 G x1) fun G r2_2 =>
  q_op r2_2 (
    some (G, (-1 : Int32))) fun b7_3 =>
  if x2 < 0 then
    some (G, (-1 : Int32))
  else
    q_gR G b7_3 5 3 fun r16_4 =>
    q_nn r16_4 fun b19_5 =>
    q_gI G b19_5 2 3 fun v19_6 =>
    if x2 < v19_6 then
      q_gR G b7_3 5 3 fun r28_7 =>
      q_nn r28_7 fun b35_8 =>
      q_gR G b35_8 2 0 fun r35_9 =>
      q_nn r35_9 fun b39_10 =>
      q_aI G b39_10 101 x2 fun v39_11 =>
      q_gR G b35_8 2 1 fun r45_12 =>
      q_nn r45_12 fun b49_13 =>
      q_aI G b49_13 101 x2 fun v49_14 =>
      q_gR G b35_8 2 2 fun r56_15 =>
      q_nn r56_15 fun b60_16 =>
      q_aI G b60_16 101 x2 fun v60_17 =>
      q_gI G a0 7 5 fun v62_18 =>
      some (G, ((v39_11 + ((256 : Int32) * v49_14)) + ((65536 : Int32) * (v60_17 - v62_18))))
    else
      some (G, (-1 : Int32))
set_option maxRecDepth 100000 in
set_option maxHeartbeats 4000000 in
theorem bX6_entry_0 {p : Program} {l : Launch} {e : Env} {s : State} {m : MethodId} {args : Array Value} {below : List Frame} {meth : Method} {c : Code} {E : mm_E} {N a0 : Nat} {res : mm_M × Int32} (X : mm_X p s m args meth c prog_1_method_19_code 5 "XorOverlay" tw_T E) (hr : meth.sig.returnType = (Option.some .int)) {G : mm_M} {H : Heap} {locs : List Loc} {ls : Array Slot} {x1 : Int32} {x2 : Int32} (V : mm_V E s G H locs) (hl : lx_has ls 5 [(0, .inr (some a0)), (1, .inl x1), (2, .inl x2)]) (hp : pX6_entry_0 N a0 G x1 x2 = some res) : W p l e rX6_entry s m args below meth c H locs 0 0 (MQ below (mm_Qi E res.1 res.2) args s 0 0 (mm_A E)) (F0 m 0 ls []) := by
  have hx := X.1.1
  have hb := X.1.2.1
  unfold pX6_entry_0 at hp
  refine x_aload_n X dX6_entry_0 hl 0 rfl rfl ?_
  refine x_iload_n X dX6_entry_1 hl 1 rfl rfl ?_
  obtain ⟨hk, hp⟩ := q_is_of hp
  obtain ⟨⟨G, r2_2⟩, hq, hp⟩ := q_cl_of hp
  dsimp only at hp
  refine q_goq (cells' := 0) (slots' := 0) (va_runV (As := [.int x1]) (rest := []) X.1 (cX6_upPeer l E hq) (tw_cwV 1 X.1.2.2.2.2 (tw_1 65 rfl rfl) kX6_upPeer.2.1 kX6_upPeer.2.2.1 kX6_upPeer.2.2.2 kX6_upPeer.1 rfl rfl hX6_upPeer ⟨Nat.le_of_ble_eq_true rfl, Nat.le_of_ble_eq_true rfl⟩) (mm_preV X V rfl (by decide) rfl hk) rfl rfl hl.1 rfl (lv_room (Nat.le_of_ble_eq_true rfl)) dX6_entry_2 ⟨by decide, by decide⟩) V ⟨rfl, rfl⟩ (fun H locs V => ?_)
  refine x_astore_n (lst' := [(3, .inr r2_2), (0, .inr (some a0)), (1, .inl x1), (2, .inl x2)]) X dX6_entry_5 hl rfl (by decide) rfl (fun ls hl => ?_)
  refine x_aload_n X dX6_entry_6 hl 0 rfl rfl ?_
  refine q_ifnull (tgt := 25) X dX6_entry_7 (by decide) hp (fun e0 hp2 => ?_) (fun b7_3 e0 hp2 => ?_)
  · clear hp; subst e0; have hp := hp2; clear hp2
    refine lv_iconst (v := (-1 : Int32)) hx hb dX6_entry_25 (by decide) ?_
    exact q_iret X V hr ⟨by decide, by decide⟩ dX6_entry_26 hp
  · clear hp; subst e0; have hp := hp2; clear hp2
    refine x_iload_n X dX6_entry_10 hl 3 rfl rfl ?_
    refine q_if hp (lv_if_lt (tgt := 25) hx hb dX6_entry_11 (by decide)) (fun hp => ?_) (fun hp => ?_)
    · refine lv_iconst (v := (-1 : Int32)) hx hb dX6_entry_25 (by decide) ?_
      exact q_iret X V hr ⟨by decide, by decide⟩ dX6_entry_26 hp
    · refine x_iload_n X dX6_entry_14 hl 3 rfl rfl ?_
      refine x_aload_n X dX6_entry_15 hl 0 rfl rfl ?_
      refine q_getR (ci := 4) X V inX4 rfl (by decide) rfl 3 (by decide) rfl (tw_1 219 rfl rfl) rfl dX6_entry_16 hp (fun r16_4 hp => ?_)
      obtain ⟨b19_5, e0, hp2⟩ := q_nn_of hp
      clear hp; subst e0; have hp := hp2; clear hp2
      refine q_getI (ci := 1) X V inX1 rfl (by decide) rfl 3 (by decide) rfl (tw_1 202 rfl rfl) rfl dX6_entry_19 hp (fun v19_6 hp => ?_)
      refine q_if hp (lv_icmp_lt (tgt := 27) hx hb dX6_entry_22 (by decide)) (fun hp => ?_) (fun hp => ?_)
      · refine x_aload_n X dX6_entry_27 hl 0 rfl rfl ?_
        refine q_getR (ci := 4) X V inX4 rfl (by decide) rfl 3 (by decide) rfl (tw_1 219 rfl rfl) rfl dX6_entry_28 hp (fun r28_7 hp => ?_)
        refine x_astore (lst' := [(4, .inr r28_7), (3, .inr (some b7_3)), (0, .inr (some a0)), (1, .inl x1), (2, .inl x2)]) X dX6_entry_31 hl (by decide) rfl (fun ls hl => ?_)
        refine x_aload X dX6_entry_33 hl 0 rfl ?_
        obtain ⟨b35_8, e0, hp2⟩ := q_nn_of hp
        clear hp; subst e0; have hp := hp2; clear hp2
        refine q_getR (ci := 1) X V inX1 rfl (by decide) rfl 0 (by decide) rfl (tw_1 195 rfl rfl) rfl dX6_entry_35 hp (fun r35_9 hp => ?_)
        refine x_iload_n X dX6_entry_38 hl 4 rfl rfl ?_
        obtain ⟨b39_10, e0, hp2⟩ := q_nn_of hp
        clear hp; subst e0; have hp := hp2; clear hp2
        refine q_iald X V dX6_entry_39 hp (fun v39_11 hp => ?_)
        refine lv_sipush (v := (256 : Int32)) hx hb dX6_entry_40 (by decide) ?_
        refine x_aload X dX6_entry_43 hl 0 rfl ?_
        refine q_getR (ci := 1) X V inX1 rfl (by decide) rfl 1 (by decide) rfl (tw_1 197 rfl rfl) rfl dX6_entry_45 hp (fun r45_12 hp => ?_)
        refine x_iload_n X dX6_entry_48 hl 4 rfl rfl ?_
        obtain ⟨b49_13, e0, hp2⟩ := q_nn_of hp
        clear hp; subst e0; have hp := hp2; clear hp2
        refine q_iald X V dX6_entry_49 hp (fun v49_14 hp => ?_)
        refine lv_imul hx hb dX6_entry_50 ?_
        refine lv_iadd hx hb dX6_entry_51 ?_
        refine lv_ldc (v := (65536 : Int32)) hx hb X.1.2.2.2.1 (X.1.2.2.2.2 _ (tw_3 22 rfl rfl)) dX6_entry_52 ?_
        refine x_aload X dX6_entry_54 hl 0 rfl ?_
        refine q_getR (ci := 1) X V inX1 rfl (by decide) rfl 2 (by decide) rfl (tw_1 199 rfl rfl) rfl dX6_entry_56 hp (fun r56_15 hp => ?_)
        refine x_iload_n X dX6_entry_59 hl 4 rfl rfl ?_
        obtain ⟨b60_16, e0, hp2⟩ := q_nn_of hp
        clear hp; subst e0; have hp := hp2; clear hp2
        refine q_iald X V dX6_entry_60 hp (fun v60_17 hp => ?_)
        refine x_aload_n X dX6_entry_61 hl 2 rfl rfl ?_
        refine q_getI (ci := 6) X V inX6 rfl (by decide) rfl 5 (by decide) rfl (tw_1 41 rfl rfl) rfl dX6_entry_62 hp (fun v62_18 hp => ?_)
        refine lv_isub hx hb dX6_entry_65 ?_
        refine lv_imul hx hb dX6_entry_66 ?_
        refine lv_iadd hx hb dX6_entry_67 ?_
        exact q_iret X V hr ⟨by decide, by decide⟩ dX6_entry_68 hp
      · refine lv_iconst (v := (-1 : Int32)) hx hb dX6_entry_25 (by decide) ?_
        exact q_iret X V hr ⟨by decide, by decide⟩ dX6_entry_26 hp
theorem cX6_entry (l : Launch) (E : mm_E) {N a0 : Nat} {G : mm_M} {x1 : Int32} {x2 : Int32} {res : mm_M × Int32} (hp : pX6_entry_0 N a0 G x1 x2 = some res) : Met l yX6_entry (Cond.code yX6_entry prog_1_method_19_code 5 (Option.some .int) :: tw_T) rX6_entry (mm_Pc E G [.ref a0, .int x1, .int x2]) (mm_Qi E res.1 res.2) 0 0 (mm_A E) :=
  mm_met (own := "XorOverlay") E G [.inr (some a0), .inl x1, .inl x2] (by decide) rfl rfl (Nat.le_of_ble_eq_true rfl) (fun p e s m args below meth c ls X hr hi V hl => bX6_entry_0 X hr V hl hp)
abbrev yX7_init : MethodName := ⟨"XorOverlayModel", "<init>", "()V"⟩
abbrev rX7_init : Room := { frames := 1, cells := 22, slots := 1740, locals := 30 }
theorem kX7_init : Cond.code yX7_init prog_9_method_1_code 1 none ∈ tw_T ∧ Cond.instanceMethod yX7_init ∈ tw_T ∧ Cond.initialized "XorOverlayModel" ∈ tw_T := ⟨(tw_3 27 rfl rfl), (tw_3 26 rfl rfl), (tw_1 3 rfl rfl)⟩
theorem hX7_init : yX7_init.cls = "XorOverlayModel" ∧ yX7_init.cls ≠ "java/lang/invoke/MethodHandle" ∧ yX7_init.cls ≠ "java/lang/invoke/VarHandle" ∧ (parseMethodDescriptor yX7_init.desc).map (fun d => d.parameters.length) = some 0 := by decide +kernel
theorem dX7_init_0 : decode prog_9_method_1_code 0 = .ok (.aload_n 0, 1) := by decide +kernel
theorem dX7_init_1 : decode prog_9_method_1_code 1 = .ok (.invokespecial 1, 3) := by decide +kernel
theorem dX7_init_4 : decode prog_9_method_1_code 4 = .ok (.aload_n 0, 1) := by decide +kernel
theorem dX7_init_5 : decode prog_9_method_1_code 5 = .ok (.bipush 12, 2) := by decide +kernel
theorem dX7_init_7 : decode prog_9_method_1_code 7 = .ok (.newarray .int, 2) := by decide +kernel
theorem dX7_init_9 : decode prog_9_method_1_code 9 = .ok (.putfield 7, 3) := by decide +kernel
theorem dX7_init_12 : decode prog_9_method_1_code 12 = .ok (.aload_n 0, 1) := by decide +kernel
theorem dX7_init_13 : decode prog_9_method_1_code 13 = .ok (.bipush 12, 2) := by decide +kernel
theorem dX7_init_15 : decode prog_9_method_1_code 15 = .ok (.newarray .boolean, 2) := by decide +kernel
theorem dX7_init_17 : decode prog_9_method_1_code 17 = .ok (.putfield 13, 3) := by decide +kernel
theorem dX7_init_20 : decode prog_9_method_1_code 20 = .ok (.aload_n 0, 1) := by decide +kernel
theorem dX7_init_21 : decode prog_9_method_1_code 21 = .ok (.sipush 144, 3) := by decide +kernel
theorem dX7_init_24 : decode prog_9_method_1_code 24 = .ok (.newarray .boolean, 2) := by decide +kernel
theorem dX7_init_26 : decode prog_9_method_1_code 26 = .ok (.putfield 17, 3) := by decide +kernel
theorem dX7_init_29 : decode prog_9_method_1_code 29 = .ok (.aload_n 0, 1) := by decide +kernel
theorem dX7_init_30 : decode prog_9_method_1_code 30 = .ok (.sipush 144, 3) := by decide +kernel
theorem dX7_init_33 : decode prog_9_method_1_code 33 = .ok (.newarray .int, 2) := by decide +kernel
theorem dX7_init_35 : decode prog_9_method_1_code 35 = .ok (.putfield 20, 3) := by decide +kernel
theorem dX7_init_38 : decode prog_9_method_1_code 38 = .ok (.aload_n 0, 1) := by decide +kernel
theorem dX7_init_39 : decode prog_9_method_1_code 39 = .ok (.sipush 144, 3) := by decide +kernel
theorem dX7_init_42 : decode prog_9_method_1_code 42 = .ok (.newarray .int, 2) := by decide +kernel
theorem dX7_init_44 : decode prog_9_method_1_code 44 = .ok (.putfield 23, 3) := by decide +kernel
theorem dX7_init_47 : decode prog_9_method_1_code 47 = .ok (.aload_n 0, 1) := by decide +kernel
theorem dX7_init_48 : decode prog_9_method_1_code 48 = .ok (.bipush 12, 2) := by decide +kernel
theorem dX7_init_50 : decode prog_9_method_1_code 50 = .ok (.newarray .int, 2) := by decide +kernel
theorem dX7_init_52 : decode prog_9_method_1_code 52 = .ok (.putfield 26, 3) := by decide +kernel
theorem dX7_init_55 : decode prog_9_method_1_code 55 = .ok (.aload_n 0, 1) := by decide +kernel
theorem dX7_init_56 : decode prog_9_method_1_code 56 = .ok (.bipush 108, 2) := by decide +kernel
theorem dX7_init_58 : decode prog_9_method_1_code 58 = .ok (.newarray .int, 2) := by decide +kernel
theorem dX7_init_60 : decode prog_9_method_1_code 60 = .ok (.putfield 29, 3) := by decide +kernel
theorem dX7_init_63 : decode prog_9_method_1_code 63 = .ok (.aload_n 0, 1) := by decide +kernel
theorem dX7_init_64 : decode prog_9_method_1_code 64 = .ok (.bipush 12, 2) := by decide +kernel
theorem dX7_init_66 : decode prog_9_method_1_code 66 = .ok (.newarray .int, 2) := by decide +kernel
theorem dX7_init_68 : decode prog_9_method_1_code 68 = .ok (.putfield 32, 3) := by decide +kernel
theorem dX7_init_71 : decode prog_9_method_1_code 71 = .ok (.aload_n 0, 1) := by decide +kernel
theorem dX7_init_72 : decode prog_9_method_1_code 72 = .ok (.bipush 72, 2) := by decide +kernel
theorem dX7_init_74 : decode prog_9_method_1_code 74 = .ok (.newarray .int, 2) := by decide +kernel
theorem dX7_init_76 : decode prog_9_method_1_code 76 = .ok (.putfield 35, 3) := by decide +kernel
theorem dX7_init_79 : decode prog_9_method_1_code 79 = .ok (.aload_n 0, 1) := by decide +kernel
theorem dX7_init_80 : decode prog_9_method_1_code 80 = .ok (.bipush 72, 2) := by decide +kernel
theorem dX7_init_82 : decode prog_9_method_1_code 82 = .ok (.newarray .int, 2) := by decide +kernel
theorem dX7_init_84 : decode prog_9_method_1_code 84 = .ok (.putfield 38, 3) := by decide +kernel
theorem dX7_init_87 : decode prog_9_method_1_code 87 = .ok (.aload_n 0, 1) := by decide +kernel
theorem dX7_init_88 : decode prog_9_method_1_code 88 = .ok (.bipush 72, 2) := by decide +kernel
theorem dX7_init_90 : decode prog_9_method_1_code 90 = .ok (.newarray .int, 2) := by decide +kernel
theorem dX7_init_92 : decode prog_9_method_1_code 92 = .ok (.putfield 41, 3) := by decide +kernel
theorem dX7_init_95 : decode prog_9_method_1_code 95 = .ok (.aload_n 0, 1) := by decide +kernel
theorem dX7_init_96 : decode prog_9_method_1_code 96 = .ok (.bipush 12, 2) := by decide +kernel
theorem dX7_init_98 : decode prog_9_method_1_code 98 = .ok (.newarray .int, 2) := by decide +kernel
theorem dX7_init_100 : decode prog_9_method_1_code 100 = .ok (.putfield 44, 3) := by decide +kernel
theorem dX7_init_103 : decode prog_9_method_1_code 103 = .ok (.aload_n 0, 1) := by decide +kernel
theorem dX7_init_104 : decode prog_9_method_1_code 104 = .ok (.bipush 12, 2) := by decide +kernel
theorem dX7_init_106 : decode prog_9_method_1_code 106 = .ok (.newarray .int, 2) := by decide +kernel
theorem dX7_init_108 : decode prog_9_method_1_code 108 = .ok (.putfield 47, 3) := by decide +kernel
theorem dX7_init_111 : decode prog_9_method_1_code 111 = .ok (.aload_n 0, 1) := by decide +kernel
theorem dX7_init_112 : decode prog_9_method_1_code 112 = .ok (.bipush 12, 2) := by decide +kernel
theorem dX7_init_114 : decode prog_9_method_1_code 114 = .ok (.newarray .int, 2) := by decide +kernel
theorem dX7_init_116 : decode prog_9_method_1_code 116 = .ok (.putfield 50, 3) := by decide +kernel
theorem dX7_init_119 : decode prog_9_method_1_code 119 = .ok (.aload_n 0, 1) := by decide +kernel
theorem dX7_init_120 : decode prog_9_method_1_code 120 = .ok (.bipush 12, 2) := by decide +kernel
theorem dX7_init_122 : decode prog_9_method_1_code 122 = .ok (.newarray .int, 2) := by decide +kernel
theorem dX7_init_124 : decode prog_9_method_1_code 124 = .ok (.putfield 53, 3) := by decide +kernel
theorem dX7_init_127 : decode prog_9_method_1_code 127 = .ok (.aload_n 0, 1) := by decide +kernel
theorem dX7_init_128 : decode prog_9_method_1_code 128 = .ok (.sipush 144, 3) := by decide +kernel
theorem dX7_init_131 : decode prog_9_method_1_code 131 = .ok (.newarray .int, 2) := by decide +kernel
theorem dX7_init_133 : decode prog_9_method_1_code 133 = .ok (.putfield 56, 3) := by decide +kernel
theorem dX7_init_136 : decode prog_9_method_1_code 136 = .ok (.aload_n 0, 1) := by decide +kernel
theorem dX7_init_137 : decode prog_9_method_1_code 137 = .ok (.sipush 144, 3) := by decide +kernel
theorem dX7_init_140 : decode prog_9_method_1_code 140 = .ok (.newarray .int, 2) := by decide +kernel
theorem dX7_init_142 : decode prog_9_method_1_code 142 = .ok (.putfield 59, 3) := by decide +kernel
theorem dX7_init_145 : decode prog_9_method_1_code 145 = .ok (.aload_n 0, 1) := by decide +kernel
theorem dX7_init_146 : decode prog_9_method_1_code 146 = .ok (.sipush 144, 3) := by decide +kernel
theorem dX7_init_149 : decode prog_9_method_1_code 149 = .ok (.newarray .int, 2) := by decide +kernel
theorem dX7_init_151 : decode prog_9_method_1_code 151 = .ok (.putfield 62, 3) := by decide +kernel
theorem dX7_init_154 : decode prog_9_method_1_code 154 = .ok (.aload_n 0, 1) := by decide +kernel
theorem dX7_init_155 : decode prog_9_method_1_code 155 = .ok (.bipush 12, 2) := by decide +kernel
theorem dX7_init_157 : decode prog_9_method_1_code 157 = .ok (.newarray .int, 2) := by decide +kernel
theorem dX7_init_159 : decode prog_9_method_1_code 159 = .ok (.putfield 65, 3) := by decide +kernel
theorem dX7_init_162 : decode prog_9_method_1_code 162 = .ok (.aload_n 0, 1) := by decide +kernel
theorem dX7_init_163 : decode prog_9_method_1_code 163 = .ok (.sipush 144, 3) := by decide +kernel
theorem dX7_init_166 : decode prog_9_method_1_code 166 = .ok (.newarray .int, 2) := by decide +kernel
theorem dX7_init_168 : decode prog_9_method_1_code 168 = .ok (.putfield 68, 3) := by decide +kernel
theorem dX7_init_171 : decode prog_9_method_1_code 171 = .ok (.aload_n 0, 1) := by decide +kernel
theorem dX7_init_172 : decode prog_9_method_1_code 172 = .ok (.sipush 288, 3) := by decide +kernel
theorem dX7_init_175 : decode prog_9_method_1_code 175 = .ok (.newarray .int, 2) := by decide +kernel
theorem dX7_init_177 : decode prog_9_method_1_code 177 = .ok (.putfield 71, 3) := by decide +kernel
theorem dX7_init_180 : decode prog_9_method_1_code 180 = .ok (.aload_n 0, 1) := by decide +kernel
theorem dX7_init_181 : decode prog_9_method_1_code 181 = .ok (.bipush 12, 2) := by decide +kernel
theorem dX7_init_183 : decode prog_9_method_1_code 183 = .ok (.newarray .int, 2) := by decide +kernel
theorem dX7_init_185 : decode prog_9_method_1_code 185 = .ok (.putfield 74, 3) := by decide +kernel
theorem dX7_init_188 : decode prog_9_method_1_code 188 = .ok (.return_, 1) := by decide +kernel
def pX7_init_0 (N a0 : Nat) (G : mm_M) : Option (mm_M × Unit) :=
  q_arr G 101 12 fun G b7_1 =>
  q_pR G a0 8 4 (some b7_1) fun G =>
  q_arr G 102 12 fun G b15_2 =>
  q_pR G a0 8 5 (some b15_2) fun G =>
  q_arr G 102 144 fun G b24_3 =>
  q_pR G a0 8 6 (some b24_3) fun G =>
  q_arr G 101 144 fun G b33_4 =>
  q_pR G a0 8 7 (some b33_4) fun G =>
  q_arr G 101 144 fun G b42_5 =>
  q_pR G a0 8 8 (some b42_5) fun G =>
  q_arr G 101 12 fun G b50_6 =>
  q_pR G a0 8 9 (some b50_6) fun G =>
  q_arr G 101 108 fun G b58_7 =>
  q_pR G a0 8 10 (some b58_7) fun G =>
  q_arr G 101 12 fun G b66_8 =>
  q_pR G a0 8 11 (some b66_8) fun G =>
  q_arr G 101 72 fun G b74_9 =>
  q_pR G a0 8 12 (some b74_9) fun G =>
  q_arr G 101 72 fun G b82_10 =>
  q_pR G a0 8 13 (some b82_10) fun G =>
  q_arr G 101 72 fun G b90_11 =>
  q_pR G a0 8 14 (some b90_11) fun G =>
  q_arr G 101 12 fun G b98_12 =>
  q_pR G a0 8 15 (some b98_12) fun G =>
  q_arr G 101 12 fun G b106_13 =>
  q_pR G a0 8 16 (some b106_13) fun G =>
  q_arr G 101 12 fun G b114_14 =>
  q_pR G a0 8 17 (some b114_14) fun G =>
  q_arr G 101 12 fun G b122_15 =>
  q_pR G a0 8 18 (some b122_15) fun G =>
  q_arr G 101 144 fun G b131_16 =>
  q_pR G a0 8 19 (some b131_16) fun G =>
  q_arr G 101 144 fun G b140_17 =>
  q_pR G a0 8 20 (some b140_17) fun G =>
  q_arr G 101 144 fun G b149_18 =>
  q_pR G a0 8 21 (some b149_18) fun G =>
  q_arr G 101 12 fun G b157_19 =>
  q_pR G a0 8 22 (some b157_19) fun G =>
  q_arr G 101 144 fun G b166_20 =>
  q_pR G a0 8 23 (some b166_20) fun G =>
  q_arr G 101 288 fun G b175_21 =>
  q_pR G a0 8 25 (some b175_21) fun G =>
  q_arr G 101 12 fun G b183_22 =>
  q_pR G a0 8 26 (some b183_22) fun G =>
  some (G, ())
set_option maxRecDepth 100000 in
set_option maxHeartbeats 4000000 in
theorem bX7_init_0 {p : Program} {l : Launch} {e : Env} {s : State} {m : MethodId} {args : Array Value} {below : List Frame} {meth : Method} {c : Code} {E : mm_E} {N a0 : Nat} {res : mm_M × Unit} (X : mm_X p s m args meth c prog_9_method_1_code 1 "XorOverlayModel" tw_T E) (hr : meth.sig.returnType = none) (hi : meth.name = "<init>") {G : mm_M} {H : Heap} {locs : List Loc} {ls : Array Slot} (V : mm_V E s G H locs) (hl : lx_has ls 1 [(0, .inr (some a0))]) (hp : pX7_init_0 N a0 G = some res) : W p l e rX7_init s m args below meth c H locs 0 0 (MQ below (mm_Qv E res.1) args s 22 1740 (mm_A E)) (F0 m 0 ls []) := by
  have hx := X.1.1
  have hb := X.1.2.1
  unfold pX7_init_0 at hp
  refine x_aload_n X dX7_init_0 hl 0 rfl rfl ?_
  refine W.objInit hx hb X.1.2.2.2.1 (X.1.2.2.2.2 _ (tw_3 28 rfl rfl)) (X.1.2.2.2.2 _ (tw_1 17 rfl rfl)) (X.1.2.2.2.2 _ (tw_1 18 rfl rfl)) rfl (by rw [X.1.2.2.1]; exact hl.1) rfl dX7_init_1 (by decide) (Nat.le_of_ble_eq_true rfl) ?_
  refine W.eq (g2 := F0 m 4 ls ([])) rfl ?_
  refine x_aload_n X dX7_init_4 hl 0 rfl rfl ?_
  refine lv_bipush (v := (12 : Int32)) hx hb dX7_init_5 (by decide) ?_
  refine q_arrI (N := 12) X V (tw_1 35 rfl rfl) (by decide) (by decide) (by decide) (by decide) (by decide) rfl dX7_init_7 hp (fun G b7_1 H V hp => ?_)
  refine W.cs (cells' := 1) (slots' := 12) rfl rfl ?_
  refine q_putR (ci := 7) X V inX7 rfl tyX7 tyX7_ok nmX7 (by decide) rfl 4 (by decide) rfl (tw_3 33 rfl rfl) rfl (Or.inl rfl) (.array .int) rfl (va_rf_narrowA _ _) (va_rf_fitsA _ _) dX7_init_9 hp (fun G H locs V hp => ?_)
  refine x_aload_n X dX7_init_12 hl 0 rfl rfl ?_
  refine lv_bipush (v := (12 : Int32)) hx hb dX7_init_13 (by decide) ?_
  refine q_arrZ (N := 12) X V (tw_3 111 rfl rfl) (by decide) (by decide) (by decide) (by decide) (by decide) rfl dX7_init_15 hp (fun G b15_2 H V hp => ?_)
  refine W.cs (cells' := 2) (slots' := 24) rfl rfl ?_
  refine q_putR (ci := 7) X V inX7 rfl tyX7 tyX7_ok nmX7 (by decide) rfl 5 (by decide) rfl (tw_3 34 rfl rfl) rfl (Or.inl rfl) (.array .boolean) rfl (va_rf_narrowA _ _) (va_rf_fitsA _ _) dX7_init_17 hp (fun G H locs V hp => ?_)
  refine x_aload_n X dX7_init_20 hl 0 rfl rfl ?_
  refine lv_sipush (v := (144 : Int32)) hx hb dX7_init_21 (by decide) ?_
  refine q_arrZ (N := 144) X V (tw_3 111 rfl rfl) (by decide) (by decide) (by decide) (by decide) (by decide) rfl dX7_init_24 hp (fun G b24_3 H V hp => ?_)
  refine W.cs (cells' := 3) (slots' := 168) rfl rfl ?_
  refine q_putR (ci := 7) X V inX7 rfl tyX7 tyX7_ok nmX7 (by decide) rfl 6 (by decide) rfl (tw_3 35 rfl rfl) rfl (Or.inl rfl) (.array .boolean) rfl (va_rf_narrowA _ _) (va_rf_fitsA _ _) dX7_init_26 hp (fun G H locs V hp => ?_)
  refine x_aload_n X dX7_init_29 hl 0 rfl rfl ?_
  refine lv_sipush (v := (144 : Int32)) hx hb dX7_init_30 (by decide) ?_
  refine q_arrI (N := 144) X V (tw_1 35 rfl rfl) (by decide) (by decide) (by decide) (by decide) (by decide) rfl dX7_init_33 hp (fun G b33_4 H V hp => ?_)
  refine W.cs (cells' := 4) (slots' := 312) rfl rfl ?_
  refine q_putR (ci := 7) X V inX7 rfl tyX7 tyX7_ok nmX7 (by decide) rfl 7 (by decide) rfl (tw_3 36 rfl rfl) rfl (Or.inl rfl) (.array .int) rfl (va_rf_narrowA _ _) (va_rf_fitsA _ _) dX7_init_35 hp (fun G H locs V hp => ?_)
  refine x_aload_n X dX7_init_38 hl 0 rfl rfl ?_
  refine lv_sipush (v := (144 : Int32)) hx hb dX7_init_39 (by decide) ?_
  refine q_arrI (N := 144) X V (tw_1 35 rfl rfl) (by decide) (by decide) (by decide) (by decide) (by decide) rfl dX7_init_42 hp (fun G b42_5 H V hp => ?_)
  refine W.cs (cells' := 5) (slots' := 456) rfl rfl ?_
  refine q_putR (ci := 7) X V inX7 rfl tyX7 tyX7_ok nmX7 (by decide) rfl 8 (by decide) rfl (tw_3 37 rfl rfl) rfl (Or.inl rfl) (.array .int) rfl (va_rf_narrowA _ _) (va_rf_fitsA _ _) dX7_init_44 hp (fun G H locs V hp => ?_)
  refine x_aload_n X dX7_init_47 hl 0 rfl rfl ?_
  refine lv_bipush (v := (12 : Int32)) hx hb dX7_init_48 (by decide) ?_
  refine q_arrI (N := 12) X V (tw_1 35 rfl rfl) (by decide) (by decide) (by decide) (by decide) (by decide) rfl dX7_init_50 hp (fun G b50_6 H V hp => ?_)
  refine W.cs (cells' := 6) (slots' := 468) rfl rfl ?_
  refine q_putR (ci := 7) X V inX7 rfl tyX7 tyX7_ok nmX7 (by decide) rfl 9 (by decide) rfl (tw_3 38 rfl rfl) rfl (Or.inl rfl) (.array .int) rfl (va_rf_narrowA _ _) (va_rf_fitsA _ _) dX7_init_52 hp (fun G H locs V hp => ?_)
  refine x_aload_n X dX7_init_55 hl 0 rfl rfl ?_
  refine lv_bipush (v := (108 : Int32)) hx hb dX7_init_56 (by decide) ?_
  refine q_arrI (N := 108) X V (tw_1 35 rfl rfl) (by decide) (by decide) (by decide) (by decide) (by decide) rfl dX7_init_58 hp (fun G b58_7 H V hp => ?_)
  refine W.cs (cells' := 7) (slots' := 576) rfl rfl ?_
  refine q_putR (ci := 7) X V inX7 rfl tyX7 tyX7_ok nmX7 (by decide) rfl 10 (by decide) rfl (tw_3 39 rfl rfl) rfl (Or.inl rfl) (.array .int) rfl (va_rf_narrowA _ _) (va_rf_fitsA _ _) dX7_init_60 hp (fun G H locs V hp => ?_)
  refine x_aload_n X dX7_init_63 hl 0 rfl rfl ?_
  refine lv_bipush (v := (12 : Int32)) hx hb dX7_init_64 (by decide) ?_
  refine q_arrI (N := 12) X V (tw_1 35 rfl rfl) (by decide) (by decide) (by decide) (by decide) (by decide) rfl dX7_init_66 hp (fun G b66_8 H V hp => ?_)
  refine W.cs (cells' := 8) (slots' := 588) rfl rfl ?_
  refine q_putR (ci := 7) X V inX7 rfl tyX7 tyX7_ok nmX7 (by decide) rfl 11 (by decide) rfl (tw_3 40 rfl rfl) rfl (Or.inl rfl) (.array .int) rfl (va_rf_narrowA _ _) (va_rf_fitsA _ _) dX7_init_68 hp (fun G H locs V hp => ?_)
  refine x_aload_n X dX7_init_71 hl 0 rfl rfl ?_
  refine lv_bipush (v := (72 : Int32)) hx hb dX7_init_72 (by decide) ?_
  refine q_arrI (N := 72) X V (tw_1 35 rfl rfl) (by decide) (by decide) (by decide) (by decide) (by decide) rfl dX7_init_74 hp (fun G b74_9 H V hp => ?_)
  refine W.cs (cells' := 9) (slots' := 660) rfl rfl ?_
  refine q_putR (ci := 7) X V inX7 rfl tyX7 tyX7_ok nmX7 (by decide) rfl 12 (by decide) rfl (tw_3 41 rfl rfl) rfl (Or.inl rfl) (.array .int) rfl (va_rf_narrowA _ _) (va_rf_fitsA _ _) dX7_init_76 hp (fun G H locs V hp => ?_)
  refine x_aload_n X dX7_init_79 hl 0 rfl rfl ?_
  refine lv_bipush (v := (72 : Int32)) hx hb dX7_init_80 (by decide) ?_
  refine q_arrI (N := 72) X V (tw_1 35 rfl rfl) (by decide) (by decide) (by decide) (by decide) (by decide) rfl dX7_init_82 hp (fun G b82_10 H V hp => ?_)
  refine W.cs (cells' := 10) (slots' := 732) rfl rfl ?_
  refine q_putR (ci := 7) X V inX7 rfl tyX7 tyX7_ok nmX7 (by decide) rfl 13 (by decide) rfl (tw_3 42 rfl rfl) rfl (Or.inl rfl) (.array .int) rfl (va_rf_narrowA _ _) (va_rf_fitsA _ _) dX7_init_84 hp (fun G H locs V hp => ?_)
  refine x_aload_n X dX7_init_87 hl 0 rfl rfl ?_
  refine lv_bipush (v := (72 : Int32)) hx hb dX7_init_88 (by decide) ?_
  refine q_arrI (N := 72) X V (tw_1 35 rfl rfl) (by decide) (by decide) (by decide) (by decide) (by decide) rfl dX7_init_90 hp (fun G b90_11 H V hp => ?_)
  refine W.cs (cells' := 11) (slots' := 804) rfl rfl ?_
  refine q_putR (ci := 7) X V inX7 rfl tyX7 tyX7_ok nmX7 (by decide) rfl 14 (by decide) rfl (tw_3 43 rfl rfl) rfl (Or.inl rfl) (.array .int) rfl (va_rf_narrowA _ _) (va_rf_fitsA _ _) dX7_init_92 hp (fun G H locs V hp => ?_)
  refine x_aload_n X dX7_init_95 hl 0 rfl rfl ?_
  refine lv_bipush (v := (12 : Int32)) hx hb dX7_init_96 (by decide) ?_
  refine q_arrI (N := 12) X V (tw_1 35 rfl rfl) (by decide) (by decide) (by decide) (by decide) (by decide) rfl dX7_init_98 hp (fun G b98_12 H V hp => ?_)
  refine W.cs (cells' := 12) (slots' := 816) rfl rfl ?_
  refine q_putR (ci := 7) X V inX7 rfl tyX7 tyX7_ok nmX7 (by decide) rfl 15 (by decide) rfl (tw_3 44 rfl rfl) rfl (Or.inl rfl) (.array .int) rfl (va_rf_narrowA _ _) (va_rf_fitsA _ _) dX7_init_100 hp (fun G H locs V hp => ?_)
  refine x_aload_n X dX7_init_103 hl 0 rfl rfl ?_
  refine lv_bipush (v := (12 : Int32)) hx hb dX7_init_104 (by decide) ?_
  refine q_arrI (N := 12) X V (tw_1 35 rfl rfl) (by decide) (by decide) (by decide) (by decide) (by decide) rfl dX7_init_106 hp (fun G b106_13 H V hp => ?_)
  refine W.cs (cells' := 13) (slots' := 828) rfl rfl ?_
  refine q_putR (ci := 7) X V inX7 rfl tyX7 tyX7_ok nmX7 (by decide) rfl 16 (by decide) rfl (tw_3 45 rfl rfl) rfl (Or.inl rfl) (.array .int) rfl (va_rf_narrowA _ _) (va_rf_fitsA _ _) dX7_init_108 hp (fun G H locs V hp => ?_)
  refine x_aload_n X dX7_init_111 hl 0 rfl rfl ?_
  refine lv_bipush (v := (12 : Int32)) hx hb dX7_init_112 (by decide) ?_
  refine q_arrI (N := 12) X V (tw_1 35 rfl rfl) (by decide) (by decide) (by decide) (by decide) (by decide) rfl dX7_init_114 hp (fun G b114_14 H V hp => ?_)
  refine W.cs (cells' := 14) (slots' := 840) rfl rfl ?_
  refine q_putR (ci := 7) X V inX7 rfl tyX7 tyX7_ok nmX7 (by decide) rfl 17 (by decide) rfl (tw_3 46 rfl rfl) rfl (Or.inl rfl) (.array .int) rfl (va_rf_narrowA _ _) (va_rf_fitsA _ _) dX7_init_116 hp (fun G H locs V hp => ?_)
  refine x_aload_n X dX7_init_119 hl 0 rfl rfl ?_
  refine lv_bipush (v := (12 : Int32)) hx hb dX7_init_120 (by decide) ?_
  refine q_arrI (N := 12) X V (tw_1 35 rfl rfl) (by decide) (by decide) (by decide) (by decide) (by decide) rfl dX7_init_122 hp (fun G b122_15 H V hp => ?_)
  refine W.cs (cells' := 15) (slots' := 852) rfl rfl ?_
  refine q_putR (ci := 7) X V inX7 rfl tyX7 tyX7_ok nmX7 (by decide) rfl 18 (by decide) rfl (tw_3 47 rfl rfl) rfl (Or.inl rfl) (.array .int) rfl (va_rf_narrowA _ _) (va_rf_fitsA _ _) dX7_init_124 hp (fun G H locs V hp => ?_)
  refine x_aload_n X dX7_init_127 hl 0 rfl rfl ?_
  refine lv_sipush (v := (144 : Int32)) hx hb dX7_init_128 (by decide) ?_
  refine q_arrI (N := 144) X V (tw_1 35 rfl rfl) (by decide) (by decide) (by decide) (by decide) (by decide) rfl dX7_init_131 hp (fun G b131_16 H V hp => ?_)
  refine W.cs (cells' := 16) (slots' := 996) rfl rfl ?_
  refine q_putR (ci := 7) X V inX7 rfl tyX7 tyX7_ok nmX7 (by decide) rfl 19 (by decide) rfl (tw_3 48 rfl rfl) rfl (Or.inl rfl) (.array .int) rfl (va_rf_narrowA _ _) (va_rf_fitsA _ _) dX7_init_133 hp (fun G H locs V hp => ?_)
  refine x_aload_n X dX7_init_136 hl 0 rfl rfl ?_
  refine lv_sipush (v := (144 : Int32)) hx hb dX7_init_137 (by decide) ?_
  refine q_arrI (N := 144) X V (tw_1 35 rfl rfl) (by decide) (by decide) (by decide) (by decide) (by decide) rfl dX7_init_140 hp (fun G b140_17 H V hp => ?_)
  refine W.cs (cells' := 17) (slots' := 1140) rfl rfl ?_
  refine q_putR (ci := 7) X V inX7 rfl tyX7 tyX7_ok nmX7 (by decide) rfl 20 (by decide) rfl (tw_3 49 rfl rfl) rfl (Or.inl rfl) (.array .int) rfl (va_rf_narrowA _ _) (va_rf_fitsA _ _) dX7_init_142 hp (fun G H locs V hp => ?_)
  refine x_aload_n X dX7_init_145 hl 0 rfl rfl ?_
  refine lv_sipush (v := (144 : Int32)) hx hb dX7_init_146 (by decide) ?_
  refine q_arrI (N := 144) X V (tw_1 35 rfl rfl) (by decide) (by decide) (by decide) (by decide) (by decide) rfl dX7_init_149 hp (fun G b149_18 H V hp => ?_)
  refine W.cs (cells' := 18) (slots' := 1284) rfl rfl ?_
  refine q_putR (ci := 7) X V inX7 rfl tyX7 tyX7_ok nmX7 (by decide) rfl 21 (by decide) rfl (tw_3 50 rfl rfl) rfl (Or.inl rfl) (.array .int) rfl (va_rf_narrowA _ _) (va_rf_fitsA _ _) dX7_init_151 hp (fun G H locs V hp => ?_)
  refine x_aload_n X dX7_init_154 hl 0 rfl rfl ?_
  refine lv_bipush (v := (12 : Int32)) hx hb dX7_init_155 (by decide) ?_
  refine q_arrI (N := 12) X V (tw_1 35 rfl rfl) (by decide) (by decide) (by decide) (by decide) (by decide) rfl dX7_init_157 hp (fun G b157_19 H V hp => ?_)
  refine W.cs (cells' := 19) (slots' := 1296) rfl rfl ?_
  refine q_putR (ci := 7) X V inX7 rfl tyX7 tyX7_ok nmX7 (by decide) rfl 22 (by decide) rfl (tw_3 51 rfl rfl) rfl (Or.inl rfl) (.array .int) rfl (va_rf_narrowA _ _) (va_rf_fitsA _ _) dX7_init_159 hp (fun G H locs V hp => ?_)
  refine x_aload_n X dX7_init_162 hl 0 rfl rfl ?_
  refine lv_sipush (v := (144 : Int32)) hx hb dX7_init_163 (by decide) ?_
  refine q_arrI (N := 144) X V (tw_1 35 rfl rfl) (by decide) (by decide) (by decide) (by decide) (by decide) rfl dX7_init_166 hp (fun G b166_20 H V hp => ?_)
  refine W.cs (cells' := 20) (slots' := 1440) rfl rfl ?_
  refine q_putR (ci := 7) X V inX7 rfl tyX7 tyX7_ok nmX7 (by decide) rfl 23 (by decide) rfl (tw_3 52 rfl rfl) rfl (Or.inl rfl) (.array .int) rfl (va_rf_narrowA _ _) (va_rf_fitsA _ _) dX7_init_168 hp (fun G H locs V hp => ?_)
  refine x_aload_n X dX7_init_171 hl 0 rfl rfl ?_
  refine lv_sipush (v := (288 : Int32)) hx hb dX7_init_172 (by decide) ?_
  refine q_arrI (N := 288) X V (tw_1 35 rfl rfl) (by decide) (by decide) (by decide) (by decide) (by decide) rfl dX7_init_175 hp (fun G b175_21 H V hp => ?_)
  refine W.cs (cells' := 21) (slots' := 1728) rfl rfl ?_
  refine q_putR (ci := 7) X V inX7 rfl tyX7 tyX7_ok nmX7 (by decide) rfl 25 (by decide) rfl (tw_3 54 rfl rfl) rfl (Or.inl rfl) (.array .int) rfl (va_rf_narrowA _ _) (va_rf_fitsA _ _) dX7_init_177 hp (fun G H locs V hp => ?_)
  refine x_aload_n X dX7_init_180 hl 0 rfl rfl ?_
  refine lv_bipush (v := (12 : Int32)) hx hb dX7_init_181 (by decide) ?_
  refine q_arrI (N := 12) X V (tw_1 35 rfl rfl) (by decide) (by decide) (by decide) (by decide) (by decide) rfl dX7_init_183 hp (fun G b183_22 H V hp => ?_)
  refine W.cs (cells' := 22) (slots' := 1740) rfl rfl ?_
  refine q_putR (ci := 7) X V inX7 rfl tyX7 tyX7_ok nmX7 (by decide) rfl 26 (by decide) rfl (tw_3 55 rfl rfl) rfl (Or.inl rfl) (.array .int) rfl (va_rf_narrowA _ _) (va_rf_fitsA _ _) dX7_init_185 hp (fun G H locs V hp => ?_)
  exact q_vret X V hr ⟨by decide, by decide⟩ dX7_init_188 hp
theorem cX7_init (l : Launch) (E : mm_E) {N a0 : Nat} {G : mm_M} {res : mm_M × Unit} (hp : pX7_init_0 N a0 G = some res) : Met l yX7_init (Cond.code yX7_init prog_9_method_1_code 1 none :: tw_T) rX7_init (mm_Pc E G [.ref a0]) (mm_Qv E res.1) 22 1740 (mm_A E) :=
  mm_met (own := "XorOverlayModel") E G [.inr (some a0)] (by decide) rfl rfl (Nat.le_of_ble_eq_true rfl) (fun p e s m args below meth c ls X hr hi V hl => bX7_init_0 X hr hi V hl hp)
abbrev yX7_known : MethodName := ⟨"XorOverlayModel", "known", "(I)I"⟩
abbrev rX7_known : Room := { frames := 0, cells := 0, slots := 0, locals := 0 }
theorem kX7_known : Cond.code yX7_known prog_9_method_2_code 3 (Option.some .int) ∈ tw_T ∧ Cond.instanceMethod yX7_known ∈ tw_T ∧ Cond.selects "XorOverlayModel" yX7_known yX7_known ∈ tw_T ∧ Cond.initialized "XorOverlayModel" ∈ tw_T := ⟨(tw_3 123 rfl rfl), (tw_3 122 rfl rfl), (tw_s 19 rfl rfl), (tw_1 3 rfl rfl)⟩
theorem hX7_known : yX7_known.cls = "XorOverlayModel" ∧ yX7_known.cls ≠ "java/lang/invoke/MethodHandle" ∧ yX7_known.cls ≠ "java/lang/invoke/VarHandle" ∧ (parseMethodDescriptor yX7_known.desc).map (fun d => d.parameters.length) = some 1 := by decide +kernel
theorem dX7_known_0 : decode prog_9_method_2_code 0 = .ok (.iconst 0, 1) := by decide +kernel
theorem dX7_known_1 : decode prog_9_method_2_code 1 = .ok (.istore_n 2, 1) := by decide +kernel
theorem dX7_known_2 : decode prog_9_method_2_code 2 = .ok (.iload_n 2, 1) := by decide +kernel
theorem dX7_known_3 : decode prog_9_method_2_code 3 = .ok (.aload_n 0, 1) := by decide +kernel
theorem dX7_known_4 : decode prog_9_method_2_code 4 = .ok (.getfield 77, 3) := by decide +kernel
theorem dX7_known_7 : decode prog_9_method_2_code 7 = .ok (.if_icmp .ge 21, 3) := by decide +kernel
theorem dX7_known_10 : decode prog_9_method_2_code 10 = .ok (.aload_n 0, 1) := by decide +kernel
theorem dX7_known_11 : decode prog_9_method_2_code 11 = .ok (.getfield 7, 3) := by decide +kernel
theorem dX7_known_14 : decode prog_9_method_2_code 14 = .ok (.iload_n 2, 1) := by decide +kernel
theorem dX7_known_15 : decode prog_9_method_2_code 15 = .ok (.iaload, 1) := by decide +kernel
theorem dX7_known_16 : decode prog_9_method_2_code 16 = .ok (.iload_n 1, 1) := by decide +kernel
theorem dX7_known_17 : decode prog_9_method_2_code 17 = .ok (.if_icmp .ne 5, 3) := by decide +kernel
theorem dX7_known_20 : decode prog_9_method_2_code 20 = .ok (.iload_n 2, 1) := by decide +kernel
theorem dX7_known_21 : decode prog_9_method_2_code 21 = .ok (.ireturn, 1) := by decide +kernel
theorem dX7_known_22 : decode prog_9_method_2_code 22 = .ok (.iinc 2 1, 3) := by decide +kernel
theorem dX7_known_25 : decode prog_9_method_2_code 25 = .ok (.goto (-23), 3) := by decide +kernel
theorem dX7_known_28 : decode prog_9_method_2_code 28 = .ok (.iconst (-1), 1) := by decide +kernel
theorem dX7_known_29 : decode prog_9_method_2_code 29 = .ok (.ireturn, 1) := by decide +kernel
def pX7_known_2_b (N a0 : Nat) (kb : mm_M → Int32 → Int32 → Option (mm_M × Int32)) (kx : mm_M → Option (mm_M × Int32)) (G : mm_M) (x1 : Int32) (x2 : Int32) : Option (mm_M × Int32) :=
  q_gI G a0 8 3 fun v4_1 =>
  if v4_1 ≤ x2 then
    kx G
  else
    q_gR G a0 8 4 fun r11_2 =>
    q_nn r11_2 fun b15_3 =>
    q_aI G b15_3 101 x2 fun v15_4 =>
    if v15_4 = x1 then
      some (G, x2)
    else
      kb G x1 (x2 + (1 : Int32))
def pX7_known_2 (N a0 : Nat) (kx : mm_M → Option (mm_M × Int32)) : Nat → mm_M → Int32 → Int32 → Option (mm_M × Int32)
  | 0 => fun _ _ _ => none
  | n + 1 => pX7_known_2_b N a0 (pX7_known_2 N a0 kx n) kx
set_option maxRecDepth 100000 in
set_option maxHeartbeats 4000000 in
theorem bX7_known_2 {p : Program} {l : Launch} {e : Env} {s : State} {m : MethodId} {args : Array Value} {below : List Frame} {meth : Method} {c : Code} {E : mm_E} {N a0 : Nat} {res : mm_M × Int32} (X : mm_X p s m args meth c prog_9_method_2_code 3 "XorOverlayModel" tw_T E) (hr : meth.sig.returnType = (Option.some .int)) {kx : mm_M → Option (mm_M × Int32)} (hkx : ∀ (G : mm_M) (H : Heap) (locs : List Loc) (ls : Array Slot), mm_V E s G H locs → lx_has ls 3 [(0, .inr (some a0))] → kx G = some res → W p l e rX7_known s m args below meth c H locs 0 0 (MQ below (mm_Qi E res.1 res.2) args s 0 0 (mm_A E)) (F0 m 28 ls [])) :
    ∀ (n : Nat) (G : mm_M) (H : Heap) (locs : List Loc) (ls : Array Slot) (x1 : Int32) (x2 : Int32), mm_V E s G H locs → lx_has ls 3 [(0, .inr (some a0)), (1, .inl x1), (2, .inl x2)] → pX7_known_2 N a0 kx n G x1 x2 = some res → W p l e rX7_known s m args below meth c H locs 0 0 (MQ below (mm_Qi E res.1 res.2) args s 0 0 (mm_A E)) (F0 m 2 ls []) := by
  have hx := X.1.1
  have hb := X.1.2.1
  intro n
  induction n with
  | zero =>
    intro G H locs ls x1 x2 V hl hp
    cases hp
  | succ n ih =>
    intro G H locs ls x1 x2 V hl hp
    have hp : pX7_known_2_b N a0 (pX7_known_2 N a0 kx n) kx G x1 x2 = some res := hp
    unfold pX7_known_2_b at hp
    refine x_iload_n X dX7_known_2 hl 2 rfl rfl ?_
    refine x_aload_n X dX7_known_3 hl 0 rfl rfl ?_
    refine q_getI (ci := 7) X V inX7 rfl (by decide) rfl 3 (by decide) rfl (tw_3 32 rfl rfl) rfl dX7_known_4 hp (fun v4_1 hp => ?_)
    refine q_if hp (lv_icmp_ge (tgt := 28) hx hb dX7_known_7 (by decide)) (fun hp => ?_) (fun hp => ?_)
    · exact hkx _ _ _ _ V (lx_sub hl [0] rfl) hp
    · refine x_aload_n X dX7_known_10 hl 0 rfl rfl ?_
      refine q_getR (ci := 7) X V inX7 rfl (by decide) rfl 4 (by decide) rfl (tw_3 33 rfl rfl) rfl dX7_known_11 hp (fun r11_2 hp => ?_)
      refine x_iload_n X dX7_known_14 hl 2 rfl rfl ?_
      obtain ⟨b15_3, e0, hp2⟩ := q_nn_of hp
      clear hp; subst e0; have hp := hp2; clear hp2
      refine q_iald X V dX7_known_15 hp (fun v15_4 hp => ?_)
      refine x_iload_n X dX7_known_16 hl 1 rfl rfl ?_
      refine q_ifn hp (lv_icmp_ne (tgt := 22) hx hb dX7_known_17 (by decide)) (fun hp => ?_) (fun hp => ?_)
      · refine x_iinc (v := (1 : Int32)) (lst' := [(2, .inl (x2 + (1 : Int32))), (0, .inr (some a0)), (1, .inl x1)]) X dX7_known_22 hl 2 rfl (by decide) (by decide) rfl (fun ls hl => ?_)
        refine lv_goto (tgt := 2) hx hb dX7_known_25 (by decide) ?_
        exact ih _ _ _ _ _ _ V (lx_sub hl [1, 2, 0] rfl) hp
      · refine x_iload_n X dX7_known_20 hl 2 rfl rfl ?_
        exact q_iret X V hr ⟨by decide, by decide⟩ dX7_known_21 hp
def pX7_known_0 (N a0 : Nat) (G : mm_M) (x1 : Int32) : Option (mm_M × Int32) :=
  pX7_known_2 N a0 (fun (G : mm_M) =>
    some (G, (-1 : Int32))) N G x1 (0 : Int32)
set_option maxRecDepth 100000 in
set_option maxHeartbeats 4000000 in
theorem bX7_known_0 {p : Program} {l : Launch} {e : Env} {s : State} {m : MethodId} {args : Array Value} {below : List Frame} {meth : Method} {c : Code} {E : mm_E} {N a0 : Nat} {res : mm_M × Int32} (X : mm_X p s m args meth c prog_9_method_2_code 3 "XorOverlayModel" tw_T E) (hr : meth.sig.returnType = (Option.some .int)) {G : mm_M} {H : Heap} {locs : List Loc} {ls : Array Slot} {x1 : Int32} (V : mm_V E s G H locs) (hl : lx_has ls 3 [(0, .inr (some a0)), (1, .inl x1)]) (hp : pX7_known_0 N a0 G x1 = some res) : W p l e rX7_known s m args below meth c H locs 0 0 (MQ below (mm_Qi E res.1 res.2) args s 0 0 (mm_A E)) (F0 m 0 ls []) := by
  have hx := X.1.1
  have hb := X.1.2.1
  unfold pX7_known_0 at hp
  refine lv_iconst (v := (0 : Int32)) hx hb dX7_known_0 (by decide) ?_
  refine x_istore_n (lst' := [(2, .inl (0 : Int32)), (0, .inr (some a0)), (1, .inl x1)]) X dX7_known_1 hl rfl (by decide) rfl (fun ls hl => ?_)
  refine bX7_known_2 X hr (fun G H locs ls V hl hp => ?_) _ _ _ _ _ _ _ V (lx_sub hl [1, 2, 0] rfl) hp
  refine lv_iconst (v := (-1 : Int32)) hx hb dX7_known_28 (by decide) ?_
  exact q_iret X V hr ⟨by decide, by decide⟩ dX7_known_29 hp
theorem cX7_known (l : Launch) (E : mm_E) {N a0 : Nat} {G : mm_M} {x1 : Int32} {res : mm_M × Int32} (hp : pX7_known_0 N a0 G x1 = some res) : Met l yX7_known (Cond.code yX7_known prog_9_method_2_code 3 (Option.some .int) :: tw_T) rX7_known (mm_Pc E G [.ref a0, .int x1]) (mm_Qi E res.1 res.2) 0 0 (mm_A E) :=
  mm_met (own := "XorOverlayModel") E G [.inr (some a0), .inl x1] (by decide) rfl rfl (Nat.le_of_ble_eq_true rfl) (fun p e s m args below meth c ls X hr hi V hl => bX7_known_0 X hr V hl hp)
abbrev yX7_at : MethodName := ⟨"XorOverlayModel", "at", "(I)I"⟩
abbrev rX7_at : Room := { frames := 1, cells := 0, slots := 0, locals := 22 }
theorem kX7_at : Cond.code yX7_at prog_9_method_3_code 3 (Option.some .int) ∈ tw_T ∧ Cond.instanceMethod yX7_at ∈ tw_T ∧ Cond.selects "XorOverlayModel" yX7_at yX7_at ∈ tw_T ∧ Cond.initialized "XorOverlayModel" ∈ tw_T := ⟨(tw_3 119 rfl rfl), (tw_3 118 rfl rfl), (tw_s 18 rfl rfl), (tw_1 3 rfl rfl)⟩
theorem hX7_at : yX7_at.cls = "XorOverlayModel" ∧ yX7_at.cls ≠ "java/lang/invoke/MethodHandle" ∧ yX7_at.cls ≠ "java/lang/invoke/VarHandle" ∧ (parseMethodDescriptor yX7_at.desc).map (fun d => d.parameters.length) = some 1 := by decide +kernel
theorem dX7_at_0 : decode prog_9_method_3_code 0 = .ok (.aload_n 0, 1) := by decide +kernel
theorem dX7_at_1 : decode prog_9_method_3_code 1 = .ok (.iload_n 1, 1) := by decide +kernel
theorem dX7_at_2 : decode prog_9_method_3_code 2 = .ok (.invokevirtual 81, 3) := by decide +kernel
theorem dX7_at_5 : decode prog_9_method_3_code 5 = .ok (.istore_n 2, 1) := by decide +kernel
theorem dX7_at_6 : decode prog_9_method_3_code 6 = .ok (.iload_n 2, 1) := by decide +kernel
theorem dX7_at_7 : decode prog_9_method_3_code 7 = .ok (.ifCond .lt 16, 3) := by decide +kernel
theorem dX7_at_10 : decode prog_9_method_3_code 10 = .ok (.aload_n 0, 1) := by decide +kernel
theorem dX7_at_11 : decode prog_9_method_3_code 11 = .ok (.getfield 13, 3) := by decide +kernel
theorem dX7_at_14 : decode prog_9_method_3_code 14 = .ok (.iload_n 2, 1) := by decide +kernel
theorem dX7_at_15 : decode prog_9_method_3_code 15 = .ok (.baload, 1) := by decide +kernel
theorem dX7_at_16 : decode prog_9_method_3_code 16 = .ok (.ifCond .eq 7, 3) := by decide +kernel
theorem dX7_at_19 : decode prog_9_method_3_code 19 = .ok (.iload_n 2, 1) := by decide +kernel
theorem dX7_at_20 : decode prog_9_method_3_code 20 = .ok (.goto 4, 3) := by decide +kernel
theorem dX7_at_23 : decode prog_9_method_3_code 23 = .ok (.iconst (-1), 1) := by decide +kernel
theorem dX7_at_24 : decode prog_9_method_3_code 24 = .ok (.ireturn, 1) := by decide +kernel
def pX7_at_0 (N a0 : Nat) (G : mm_M) (x1 : Int32) : Option (mm_M × Int32) :=
  q_is G a0 8 <|
  q_cl (pX7_known_0 N a0 G x1) fun G v2_2 =>
  if v2_2 < 0 then
    some (G, (-1 : Int32))
  else
    q_gR G a0 8 5 fun r11_3 =>
    q_nn r11_3 fun b15_4 =>
    q_aI G b15_4 102 v2_2 fun v15_5 =>
    if v15_5 = 0 then
      some (G, (-1 : Int32))
    else
      some (G, v2_2)
set_option maxRecDepth 100000 in
set_option maxHeartbeats 4000000 in
theorem bX7_at_0 {p : Program} {l : Launch} {e : Env} {s : State} {m : MethodId} {args : Array Value} {below : List Frame} {meth : Method} {c : Code} {E : mm_E} {N a0 : Nat} {res : mm_M × Int32} (X : mm_X p s m args meth c prog_9_method_3_code 3 "XorOverlayModel" tw_T E) (hr : meth.sig.returnType = (Option.some .int)) {G : mm_M} {H : Heap} {locs : List Loc} {ls : Array Slot} {x1 : Int32} (V : mm_V E s G H locs) (hl : lx_has ls 3 [(0, .inr (some a0)), (1, .inl x1)]) (hp : pX7_at_0 N a0 G x1 = some res) : W p l e rX7_at s m args below meth c H locs 0 0 (MQ below (mm_Qi E res.1 res.2) args s 0 0 (mm_A E)) (F0 m 0 ls []) := by
  have hx := X.1.1
  have hb := X.1.2.1
  unfold pX7_at_0 at hp
  refine x_aload_n X dX7_at_0 hl 0 rfl rfl ?_
  refine x_iload_n X dX7_at_1 hl 1 rfl rfl ?_
  obtain ⟨hk, hp⟩ := q_is_of hp
  obtain ⟨⟨G, v2_2⟩, hq, hp⟩ := q_cl_of hp
  dsimp only at hp
  refine q_goi (cells' := 0) (slots' := 0) (va_runV (As := [.int x1]) (rest := []) X.1 (cX7_known l E hq) (tw_cwV 1 X.1.2.2.2.2 (tw_3 120 rfl rfl) kX7_known.2.1 kX7_known.2.2.1 kX7_known.2.2.2 kX7_known.1 rfl rfl hX7_known ⟨Nat.le_of_ble_eq_true rfl, Nat.le_of_ble_eq_true rfl⟩) (mm_preV X V rfl (by decide) rfl hk) rfl rfl hl.1 rfl (lv_room (Nat.le_of_ble_eq_true rfl)) dX7_at_2 ⟨by decide, by decide⟩) V ⟨rfl, rfl⟩ (fun H locs V => ?_)
  refine x_istore_n (lst' := [(2, .inl v2_2), (0, .inr (some a0)), (1, .inl x1)]) X dX7_at_5 hl rfl (by decide) rfl (fun ls hl => ?_)
  refine x_iload_n X dX7_at_6 hl 0 rfl rfl ?_
  refine q_if hp (lv_if_lt (tgt := 23) hx hb dX7_at_7 (by decide)) (fun hp => ?_) (fun hp => ?_)
  · refine lv_iconst (v := (-1 : Int32)) hx hb dX7_at_23 (by decide) ?_
    exact q_iret X V hr ⟨by decide, by decide⟩ dX7_at_24 hp
  · refine x_aload_n X dX7_at_10 hl 1 rfl rfl ?_
    refine q_getR (ci := 7) X V inX7 rfl (by decide) rfl 5 (by decide) rfl (tw_3 34 rfl rfl) rfl dX7_at_11 hp (fun r11_3 hp => ?_)
    refine x_iload_n X dX7_at_14 hl 0 rfl rfl ?_
    obtain ⟨b15_4, e0, hp2⟩ := q_nn_of hp
    clear hp; subst e0; have hp := hp2; clear hp2
    refine q_zald X V dX7_at_15 hp (fun v15_5 hp => ?_)
    refine q_if hp (lv_if_eq (tgt := 23) hx hb dX7_at_16 (by decide)) (fun hp => ?_) (fun hp => ?_)
    · refine lv_iconst (v := (-1 : Int32)) hx hb dX7_at_23 (by decide) ?_
      exact q_iret X V hr ⟨by decide, by decide⟩ dX7_at_24 hp
    · refine x_iload_n X dX7_at_19 hl 0 rfl rfl ?_
      refine lv_goto (tgt := 24) hx hb dX7_at_20 (by decide) ?_
      exact q_iret X V hr ⟨by decide, by decide⟩ dX7_at_24 hp
theorem cX7_at (l : Launch) (E : mm_E) {N a0 : Nat} {G : mm_M} {x1 : Int32} {res : mm_M × Int32} (hp : pX7_at_0 N a0 G x1 = some res) : Met l yX7_at (Cond.code yX7_at prog_9_method_3_code 3 (Option.some .int) :: tw_T) rX7_at (mm_Pc E G [.ref a0, .int x1]) (mm_Qi E res.1 res.2) 0 0 (mm_A E) :=
  mm_met (own := "XorOverlayModel") E G [.inr (some a0), .inl x1] (by decide) rfl rfl (Nat.le_of_ble_eq_true rfl) (fun p e s m args below meth c ls X hr hi V hl => bX7_at_0 X hr V hl hp)
abbrev yX7_number : MethodName := ⟨"XorOverlayModel", "number", "(I)Z"⟩
abbrev rX7_number : Room := { frames := 0, cells := 0, slots := 0, locals := 0 }
theorem kX7_number : Cond.code yX7_number prog_9_method_4_code 2 (Option.some .boolean) ∈ tw_T ∧ Cond.instanceMethod yX7_number ∈ tw_T ∧ Cond.selects "XorOverlayModel" yX7_number yX7_number ∈ tw_T ∧ Cond.initialized "XorOverlayModel" ∈ tw_T := ⟨(tw_3 127 rfl rfl), (tw_3 126 rfl rfl), (tw_s 20 rfl rfl), (tw_1 3 rfl rfl)⟩
theorem hX7_number : yX7_number.cls = "XorOverlayModel" ∧ yX7_number.cls ≠ "java/lang/invoke/MethodHandle" ∧ yX7_number.cls ≠ "java/lang/invoke/VarHandle" ∧ (parseMethodDescriptor yX7_number.desc).map (fun d => d.parameters.length) = some 1 := by decide +kernel
theorem dX7_number_0 : decode prog_9_method_4_code 0 = .ok (.iload_n 1, 1) := by decide +kernel
theorem dX7_number_1 : decode prog_9_method_4_code 1 = .ok (.ifCond .lt 14, 3) := by decide +kernel
theorem dX7_number_4 : decode prog_9_method_4_code 4 = .ok (.iload_n 1, 1) := by decide +kernel
theorem dX7_number_5 : decode prog_9_method_4_code 5 = .ok (.sipush 255, 3) := by decide +kernel
theorem dX7_number_8 : decode prog_9_method_4_code 8 = .ok (.if_icmp .gt 7, 3) := by decide +kernel
theorem dX7_number_11 : decode prog_9_method_4_code 11 = .ok (.iconst 1, 1) := by decide +kernel
theorem dX7_number_12 : decode prog_9_method_4_code 12 = .ok (.goto 4, 3) := by decide +kernel
theorem dX7_number_15 : decode prog_9_method_4_code 15 = .ok (.iconst 0, 1) := by decide +kernel
theorem dX7_number_16 : decode prog_9_method_4_code 16 = .ok (.ireturn, 1) := by decide +kernel
def pX7_number_0 (N a0 : Nat) (G : mm_M) (x1 : Int32) : Option (mm_M × Int32) :=
  if x1 < 0 then
    some (G, (0 : Int32))
  else
    if (255 : Int32) < x1 then
      some (G, (0 : Int32))
    else
      some (G, (1 : Int32))
set_option maxRecDepth 100000 in
set_option maxHeartbeats 4000000 in
theorem bX7_number_0 {p : Program} {l : Launch} {e : Env} {s : State} {m : MethodId} {args : Array Value} {below : List Frame} {meth : Method} {c : Code} {E : mm_E} {N a0 : Nat} {res : mm_M × Int32} (X : mm_X p s m args meth c prog_9_method_4_code 2 "XorOverlayModel" tw_T E) (hr : meth.sig.returnType = (Option.some .boolean)) {G : mm_M} {H : Heap} {locs : List Loc} {ls : Array Slot} {x1 : Int32} (V : mm_V E s G H locs) (hl : lx_has ls 2 [(0, .inr (some a0)), (1, .inl x1)]) (hp : pX7_number_0 N a0 G x1 = some res) : W p l e rX7_number s m args below meth c H locs 0 0 (MQ below (mm_Qi E res.1 res.2) args s 0 0 (mm_A E)) (F0 m 0 ls []) := by
  have hx := X.1.1
  have hb := X.1.2.1
  unfold pX7_number_0 at hp
  refine x_iload_n X dX7_number_0 hl 1 rfl rfl ?_
  refine q_if hp (lv_if_lt (tgt := 15) hx hb dX7_number_1 (by decide)) (fun hp => ?_) (fun hp => ?_)
  · refine lv_iconst (v := (0 : Int32)) hx hb dX7_number_15 (by decide) ?_
    exact q_zret X V hr rfl ⟨by decide, by decide⟩ dX7_number_16 hp
  · refine x_iload_n X dX7_number_4 hl 1 rfl rfl ?_
    refine lv_sipush (v := (255 : Int32)) hx hb dX7_number_5 (by decide) ?_
    refine q_if hp (lv_icmp_gt (tgt := 15) hx hb dX7_number_8 (by decide)) (fun hp => ?_) (fun hp => ?_)
    · refine lv_iconst (v := (0 : Int32)) hx hb dX7_number_15 (by decide) ?_
      exact q_zret X V hr rfl ⟨by decide, by decide⟩ dX7_number_16 hp
    · refine lv_iconst (v := (1 : Int32)) hx hb dX7_number_11 (by decide) ?_
      refine lv_goto (tgt := 16) hx hb dX7_number_12 (by decide) ?_
      exact q_zret X V hr rfl ⟨by decide, by decide⟩ dX7_number_16 hp
theorem cX7_number (l : Launch) (E : mm_E) {N a0 : Nat} {G : mm_M} {x1 : Int32} {res : mm_M × Int32} (hp : pX7_number_0 N a0 G x1 = some res) : Met l yX7_number (Cond.code yX7_number prog_9_method_4_code 2 (Option.some .boolean) :: tw_T) rX7_number (mm_Pc E G [.ref a0, .int x1]) (mm_Qi E res.1 res.2) 0 0 (mm_A E) :=
  mm_met (own := "XorOverlayModel") E G [.inr (some a0), .inl x1] (by decide) rfl rfl (Nat.le_of_ble_eq_true rfl) (fun p e s m args below meth c ls X hr hi V hl => bX7_number_0 X hr V hl hp)
abbrev yX7_bucketOf : MethodName := ⟨"XorOverlayModel", "bucketOf", "(II)I"⟩
abbrev rX7_bucketOf : Room := { frames := 0, cells := 0, slots := 0, locals := 0 }
theorem kX7_bucketOf : Cond.code yX7_bucketOf prog_9_method_5_code 4 (Option.some .int) ∈ tw_T ∧ Cond.instanceMethod yX7_bucketOf ∈ tw_T ∧ Cond.selects "XorOverlayModel" yX7_bucketOf yX7_bucketOf ∈ tw_T ∧ Cond.initialized "XorOverlayModel" ∈ tw_T := ⟨(tw_3 139 rfl rfl), (tw_3 138 rfl rfl), (tw_s 23 rfl rfl), (tw_1 3 rfl rfl)⟩
theorem hX7_bucketOf : yX7_bucketOf.cls = "XorOverlayModel" ∧ yX7_bucketOf.cls ≠ "java/lang/invoke/MethodHandle" ∧ yX7_bucketOf.cls ≠ "java/lang/invoke/VarHandle" ∧ (parseMethodDescriptor yX7_bucketOf.desc).map (fun d => d.parameters.length) = some 2 := by decide +kernel
theorem dX7_bucketOf_0 : decode prog_9_method_5_code 0 = .ok (.iconst 0, 1) := by decide +kernel
theorem dX7_bucketOf_1 : decode prog_9_method_5_code 1 = .ok (.istore_n 3, 1) := by decide +kernel
theorem dX7_bucketOf_2 : decode prog_9_method_5_code 2 = .ok (.iload_n 3, 1) := by decide +kernel
theorem dX7_bucketOf_3 : decode prog_9_method_5_code 3 = .ok (.bipush 8, 2) := by decide +kernel
theorem dX7_bucketOf_5 : decode prog_9_method_5_code 5 = .ok (.if_icmp .ge 29, 3) := by decide +kernel
theorem dX7_bucketOf_8 : decode prog_9_method_5_code 8 = .ok (.aload_n 0, 1) := by decide +kernel
theorem dX7_bucketOf_9 : decode prog_9_method_5_code 9 = .ok (.getfield 7, 3) := by decide +kernel
theorem dX7_bucketOf_12 : decode prog_9_method_5_code 12 = .ok (.iload_n 1, 1) := by decide +kernel
theorem dX7_bucketOf_13 : decode prog_9_method_5_code 13 = .ok (.iaload, 1) := by decide +kernel
theorem dX7_bucketOf_14 : decode prog_9_method_5_code 14 = .ok (.bipush 7, 2) := by decide +kernel
theorem dX7_bucketOf_16 : decode prog_9_method_5_code 16 = .ok (.iload_n 3, 1) := by decide +kernel
theorem dX7_bucketOf_17 : decode prog_9_method_5_code 17 = .ok (.isub, 1) := by decide +kernel
theorem dX7_bucketOf_18 : decode prog_9_method_5_code 18 = .ok (.ishr, 1) := by decide +kernel
theorem dX7_bucketOf_19 : decode prog_9_method_5_code 19 = .ok (.iload_n 2, 1) := by decide +kernel
theorem dX7_bucketOf_20 : decode prog_9_method_5_code 20 = .ok (.bipush 7, 2) := by decide +kernel
theorem dX7_bucketOf_22 : decode prog_9_method_5_code 22 = .ok (.iload_n 3, 1) := by decide +kernel
theorem dX7_bucketOf_23 : decode prog_9_method_5_code 23 = .ok (.isub, 1) := by decide +kernel
theorem dX7_bucketOf_24 : decode prog_9_method_5_code 24 = .ok (.ishr, 1) := by decide +kernel
theorem dX7_bucketOf_25 : decode prog_9_method_5_code 25 = .ok (.if_icmp .ne 9, 3) := by decide +kernel
theorem dX7_bucketOf_28 : decode prog_9_method_5_code 28 = .ok (.iinc 3 1, 3) := by decide +kernel
theorem dX7_bucketOf_31 : decode prog_9_method_5_code 31 = .ok (.goto (-29), 3) := by decide +kernel
theorem dX7_bucketOf_34 : decode prog_9_method_5_code 34 = .ok (.iload_n 3, 1) := by decide +kernel
theorem dX7_bucketOf_35 : decode prog_9_method_5_code 35 = .ok (.aload_n 0, 1) := by decide +kernel
theorem dX7_bucketOf_36 : decode prog_9_method_5_code 36 = .ok (.getfield 26, 3) := by decide +kernel
theorem dX7_bucketOf_39 : decode prog_9_method_5_code 39 = .ok (.iload_n 1, 1) := by decide +kernel
theorem dX7_bucketOf_40 : decode prog_9_method_5_code 40 = .ok (.iaload, 1) := by decide +kernel
theorem dX7_bucketOf_41 : decode prog_9_method_5_code 41 = .ok (.if_icmp .ge 7, 3) := by decide +kernel
theorem dX7_bucketOf_44 : decode prog_9_method_5_code 44 = .ok (.iload_n 3, 1) := by decide +kernel
theorem dX7_bucketOf_45 : decode prog_9_method_5_code 45 = .ok (.goto 9, 3) := by decide +kernel
theorem dX7_bucketOf_48 : decode prog_9_method_5_code 48 = .ok (.aload_n 0, 1) := by decide +kernel
theorem dX7_bucketOf_49 : decode prog_9_method_5_code 49 = .ok (.getfield 26, 3) := by decide +kernel
theorem dX7_bucketOf_52 : decode prog_9_method_5_code 52 = .ok (.iload_n 1, 1) := by decide +kernel
theorem dX7_bucketOf_53 : decode prog_9_method_5_code 53 = .ok (.iaload, 1) := by decide +kernel
theorem dX7_bucketOf_54 : decode prog_9_method_5_code 54 = .ok (.ireturn, 1) := by decide +kernel
def pX7_bucketOf_2_b (N a0 : Nat) (kb : mm_M → Int32 → Int32 → Int32 → Option (mm_M × Int32)) (kx : mm_M → Int32 → Int32 → Option (mm_M × Int32)) (G : mm_M) (x1 : Int32) (x2 : Int32) (x3 : Int32) : Option (mm_M × Int32) :=
  if (8 : Int32) ≤ x3 then
    kx G x1 x3
  else
    q_gR G a0 8 4 fun r9_1 =>
    q_nn r9_1 fun b13_2 =>
    q_aI G b13_2 101 x1 fun v13_3 =>
    if (v13_3 >>> (((7 : Int32) - x3) &&& 31)) = (x2 >>> (((7 : Int32) - x3) &&& 31)) then
      kb G x1 x2 (x3 + (1 : Int32))
    else
      kx G x1 x3
def pX7_bucketOf_2 (N a0 : Nat) (kx : mm_M → Int32 → Int32 → Option (mm_M × Int32)) : Nat → mm_M → Int32 → Int32 → Int32 → Option (mm_M × Int32)
  | 0 => fun _ _ _ _ => none
  | n + 1 => pX7_bucketOf_2_b N a0 (pX7_bucketOf_2 N a0 kx n) kx
set_option maxRecDepth 100000 in
set_option maxHeartbeats 4000000 in
theorem bX7_bucketOf_2 {p : Program} {l : Launch} {e : Env} {s : State} {m : MethodId} {args : Array Value} {below : List Frame} {meth : Method} {c : Code} {E : mm_E} {N a0 : Nat} {res : mm_M × Int32} (X : mm_X p s m args meth c prog_9_method_5_code 4 "XorOverlayModel" tw_T E) (hr : meth.sig.returnType = (Option.some .int)) {kx : mm_M → Int32 → Int32 → Option (mm_M × Int32)} (hkx : ∀ (G : mm_M) (H : Heap) (locs : List Loc) (ls : Array Slot) (x1 : Int32) (x3 : Int32), mm_V E s G H locs → lx_has ls 4 [(0, .inr (some a0)), (1, .inl x1), (3, .inl x3)] → kx G x1 x3 = some res → W p l e rX7_bucketOf s m args below meth c H locs 0 0 (MQ below (mm_Qi E res.1 res.2) args s 0 0 (mm_A E)) (F0 m 34 ls [])) :
    ∀ (n : Nat) (G : mm_M) (H : Heap) (locs : List Loc) (ls : Array Slot) (x1 : Int32) (x2 : Int32) (x3 : Int32), mm_V E s G H locs → lx_has ls 4 [(0, .inr (some a0)), (1, .inl x1), (2, .inl x2), (3, .inl x3)] → pX7_bucketOf_2 N a0 kx n G x1 x2 x3 = some res → W p l e rX7_bucketOf s m args below meth c H locs 0 0 (MQ below (mm_Qi E res.1 res.2) args s 0 0 (mm_A E)) (F0 m 2 ls []) := by
  have hx := X.1.1
  have hb := X.1.2.1
  intro n
  induction n with
  | zero =>
    intro G H locs ls x1 x2 x3 V hl hp
    cases hp
  | succ n ih =>
    intro G H locs ls x1 x2 x3 V hl hp
    have hp : pX7_bucketOf_2_b N a0 (pX7_bucketOf_2 N a0 kx n) kx G x1 x2 x3 = some res := hp
    unfold pX7_bucketOf_2_b at hp
    refine x_iload_n X dX7_bucketOf_2 hl 3 rfl rfl ?_
    refine lv_bipush (v := (8 : Int32)) hx hb dX7_bucketOf_3 (by decide) ?_
    refine q_if hp (lv_icmp_ge (tgt := 34) hx hb dX7_bucketOf_5 (by decide)) (fun hp => ?_) (fun hp => ?_)
    · exact hkx _ _ _ _ _ _ V (lx_sub hl [0, 1, 3] rfl) hp
    · refine x_aload_n X dX7_bucketOf_8 hl 0 rfl rfl ?_
      refine q_getR (ci := 7) X V inX7 rfl (by decide) rfl 4 (by decide) rfl (tw_3 33 rfl rfl) rfl dX7_bucketOf_9 hp (fun r9_1 hp => ?_)
      refine x_iload_n X dX7_bucketOf_12 hl 1 rfl rfl ?_
      obtain ⟨b13_2, e0, hp2⟩ := q_nn_of hp
      clear hp; subst e0; have hp := hp2; clear hp2
      refine q_iald X V dX7_bucketOf_13 hp (fun v13_3 hp => ?_)
      refine lv_bipush (v := (7 : Int32)) hx hb dX7_bucketOf_14 (by decide) ?_
      refine x_iload_n X dX7_bucketOf_16 hl 3 rfl rfl ?_
      refine lv_isub hx hb dX7_bucketOf_17 ?_
      refine lv_ishr hx hb dX7_bucketOf_18 ?_
      refine x_iload_n X dX7_bucketOf_19 hl 2 rfl rfl ?_
      refine lv_bipush (v := (7 : Int32)) hx hb dX7_bucketOf_20 (by decide) ?_
      refine x_iload_n X dX7_bucketOf_22 hl 3 rfl rfl ?_
      refine lv_isub hx hb dX7_bucketOf_23 ?_
      refine lv_ishr hx hb dX7_bucketOf_24 ?_
      refine q_ifn hp (lv_icmp_ne (tgt := 34) hx hb dX7_bucketOf_25 (by decide)) (fun hp => ?_) (fun hp => ?_)
      · exact hkx _ _ _ _ _ _ V (lx_sub hl [0, 1, 3] rfl) hp
      · refine x_iinc (v := (1 : Int32)) (lst' := [(3, .inl (x3 + (1 : Int32))), (0, .inr (some a0)), (1, .inl x1), (2, .inl x2)]) X dX7_bucketOf_28 hl 3 rfl (by decide) (by decide) rfl (fun ls hl => ?_)
        refine lv_goto (tgt := 2) hx hb dX7_bucketOf_31 (by decide) ?_
        exact ih _ _ _ _ _ _ _ V (lx_sub hl [1, 2, 3, 0] rfl) hp
def pX7_bucketOf_0 (N a0 : Nat) (G : mm_M) (x1 : Int32) (x2 : Int32) : Option (mm_M × Int32) :=
  pX7_bucketOf_2 N a0 (fun (G : mm_M) (x1 : Int32) (x3 : Int32) =>
    q_gR G a0 8 9 fun r36_4 =>
    q_nn r36_4 fun b40_5 =>
    q_aI G b40_5 101 x1 fun v40_6 =>
    if v40_6 ≤ x3 then
      q_gR G a0 8 9 fun r49_7 =>
      q_nn r49_7 fun b53_8 =>
      q_aI G b53_8 101 x1 fun v53_9 =>
      some (G, v53_9)
    else
      some (G, x3)) N G x1 x2 (0 : Int32)
set_option maxRecDepth 100000 in
set_option maxHeartbeats 4000000 in
theorem bX7_bucketOf_0 {p : Program} {l : Launch} {e : Env} {s : State} {m : MethodId} {args : Array Value} {below : List Frame} {meth : Method} {c : Code} {E : mm_E} {N a0 : Nat} {res : mm_M × Int32} (X : mm_X p s m args meth c prog_9_method_5_code 4 "XorOverlayModel" tw_T E) (hr : meth.sig.returnType = (Option.some .int)) {G : mm_M} {H : Heap} {locs : List Loc} {ls : Array Slot} {x1 : Int32} {x2 : Int32} (V : mm_V E s G H locs) (hl : lx_has ls 4 [(0, .inr (some a0)), (1, .inl x1), (2, .inl x2)]) (hp : pX7_bucketOf_0 N a0 G x1 x2 = some res) : W p l e rX7_bucketOf s m args below meth c H locs 0 0 (MQ below (mm_Qi E res.1 res.2) args s 0 0 (mm_A E)) (F0 m 0 ls []) := by
  have hx := X.1.1
  have hb := X.1.2.1
  unfold pX7_bucketOf_0 at hp
  refine lv_iconst (v := (0 : Int32)) hx hb dX7_bucketOf_0 (by decide) ?_
  refine x_istore_n (lst' := [(3, .inl (0 : Int32)), (0, .inr (some a0)), (1, .inl x1), (2, .inl x2)]) X dX7_bucketOf_1 hl rfl (by decide) rfl (fun ls hl => ?_)
  refine bX7_bucketOf_2 X hr (fun G H locs ls x1 x3 V hl hp => ?_) _ _ _ _ _ _ _ _ V (lx_sub hl [1, 2, 3, 0] rfl) hp
  refine x_iload_n X dX7_bucketOf_34 hl 2 rfl rfl ?_
  refine x_aload_n X dX7_bucketOf_35 hl 0 rfl rfl ?_
  refine q_getR (ci := 7) X V inX7 rfl (by decide) rfl 9 (by decide) rfl (tw_3 38 rfl rfl) rfl dX7_bucketOf_36 hp (fun r36_4 hp => ?_)
  refine x_iload_n X dX7_bucketOf_39 hl 1 rfl rfl ?_
  obtain ⟨b40_5, e0, hp2⟩ := q_nn_of hp
  clear hp; subst e0; have hp := hp2; clear hp2
  refine q_iald X V dX7_bucketOf_40 hp (fun v40_6 hp => ?_)
  refine q_if hp (lv_icmp_ge (tgt := 48) hx hb dX7_bucketOf_41 (by decide)) (fun hp => ?_) (fun hp => ?_)
  · refine x_aload_n X dX7_bucketOf_48 hl 0 rfl rfl ?_
    refine q_getR (ci := 7) X V inX7 rfl (by decide) rfl 9 (by decide) rfl (tw_3 38 rfl rfl) rfl dX7_bucketOf_49 hp (fun r49_7 hp => ?_)
    refine x_iload_n X dX7_bucketOf_52 hl 1 rfl rfl ?_
    obtain ⟨b53_8, e0, hp2⟩ := q_nn_of hp
    clear hp; subst e0; have hp := hp2; clear hp2
    refine q_iald X V dX7_bucketOf_53 hp (fun v53_9 hp => ?_)
    exact q_iret X V hr ⟨by decide, by decide⟩ dX7_bucketOf_54 hp
  · refine x_iload_n X dX7_bucketOf_44 hl 2 rfl rfl ?_
    refine lv_goto (tgt := 54) hx hb dX7_bucketOf_45 (by decide) ?_
    exact q_iret X V hr ⟨by decide, by decide⟩ dX7_bucketOf_54 hp
theorem cX7_bucketOf (l : Launch) (E : mm_E) {N a0 : Nat} {G : mm_M} {x1 : Int32} {x2 : Int32} {res : mm_M × Int32} (hp : pX7_bucketOf_0 N a0 G x1 x2 = some res) : Met l yX7_bucketOf (Cond.code yX7_bucketOf prog_9_method_5_code 4 (Option.some .int) :: tw_T) rX7_bucketOf (mm_Pc E G [.ref a0, .int x1, .int x2]) (mm_Qi E res.1 res.2) 0 0 (mm_A E) :=
  mm_met (own := "XorOverlayModel") E G [.inr (some a0), .inl x1, .inl x2] (by decide) rfl rfl (Nat.le_of_ble_eq_true rfl) (fun p e s m args below meth c ls X hr hi V hl => bX7_bucketOf_0 X hr V hl hp)
abbrev yX7_first : MethodName := ⟨"XorOverlayModel", "first", "(II)I"⟩
abbrev rX7_first : Room := { frames := 0, cells := 0, slots := 0, locals := 0 }
theorem kX7_first : Cond.code yX7_first prog_9_method_6_code 3 (Option.some .int) ∈ tw_T ∧ Cond.instanceMethod yX7_first ∈ tw_T ∧ Cond.selects "XorOverlayModel" yX7_first yX7_first ∈ tw_T ∧ Cond.initialized "XorOverlayModel" ∈ tw_T := ⟨(tw_3 203 rfl rfl), (tw_3 202 rfl rfl), (tw_s 36 rfl rfl), (tw_1 3 rfl rfl)⟩
theorem hX7_first : yX7_first.cls = "XorOverlayModel" ∧ yX7_first.cls ≠ "java/lang/invoke/MethodHandle" ∧ yX7_first.cls ≠ "java/lang/invoke/VarHandle" ∧ (parseMethodDescriptor yX7_first.desc).map (fun d => d.parameters.length) = some 2 := by decide +kernel
theorem dX7_first_0 : decode prog_9_method_6_code 0 = .ok (.iload_n 2, 1) := by decide +kernel
theorem dX7_first_1 : decode prog_9_method_6_code 1 = .ok (.aload_n 0, 1) := by decide +kernel
theorem dX7_first_2 : decode prog_9_method_6_code 2 = .ok (.getfield 26, 3) := by decide +kernel
theorem dX7_first_5 : decode prog_9_method_6_code 5 = .ok (.iload_n 1, 1) := by decide +kernel
theorem dX7_first_6 : decode prog_9_method_6_code 6 = .ok (.iaload, 1) := by decide +kernel
theorem dX7_first_7 : decode prog_9_method_6_code 7 = .ok (.if_icmp .ge 22, 3) := by decide +kernel
theorem dX7_first_10 : decode prog_9_method_6_code 10 = .ok (.aload_n 0, 1) := by decide +kernel
theorem dX7_first_11 : decode prog_9_method_6_code 11 = .ok (.getfield 7, 3) := by decide +kernel
theorem dX7_first_14 : decode prog_9_method_6_code 14 = .ok (.iload_n 1, 1) := by decide +kernel
theorem dX7_first_15 : decode prog_9_method_6_code 15 = .ok (.iaload, 1) := by decide +kernel
theorem dX7_first_16 : decode prog_9_method_6_code 16 = .ok (.bipush 7, 2) := by decide +kernel
theorem dX7_first_18 : decode prog_9_method_6_code 18 = .ok (.iload_n 2, 1) := by decide +kernel
theorem dX7_first_19 : decode prog_9_method_6_code 19 = .ok (.isub, 1) := by decide +kernel
theorem dX7_first_20 : decode prog_9_method_6_code 20 = .ok (.ishr, 1) := by decide +kernel
theorem dX7_first_21 : decode prog_9_method_6_code 21 = .ok (.iconst 1, 1) := by decide +kernel
theorem dX7_first_22 : decode prog_9_method_6_code 22 = .ok (.ixor, 1) := by decide +kernel
theorem dX7_first_23 : decode prog_9_method_6_code 23 = .ok (.bipush 7, 2) := by decide +kernel
theorem dX7_first_25 : decode prog_9_method_6_code 25 = .ok (.iload_n 2, 1) := by decide +kernel
theorem dX7_first_26 : decode prog_9_method_6_code 26 = .ok (.isub, 1) := by decide +kernel
theorem dX7_first_27 : decode prog_9_method_6_code 27 = .ok (.ishl, 1) := by decide +kernel
theorem dX7_first_28 : decode prog_9_method_6_code 28 = .ok (.ireturn, 1) := by decide +kernel
theorem dX7_first_29 : decode prog_9_method_6_code 29 = .ok (.aload_n 0, 1) := by decide +kernel
theorem dX7_first_30 : decode prog_9_method_6_code 30 = .ok (.getfield 7, 3) := by decide +kernel
theorem dX7_first_33 : decode prog_9_method_6_code 33 = .ok (.iload_n 1, 1) := by decide +kernel
theorem dX7_first_34 : decode prog_9_method_6_code 34 = .ok (.iaload, 1) := by decide +kernel
theorem dX7_first_35 : decode prog_9_method_6_code 35 = .ok (.bipush 8, 2) := by decide +kernel
theorem dX7_first_37 : decode prog_9_method_6_code 37 = .ok (.iload_n 2, 1) := by decide +kernel
theorem dX7_first_38 : decode prog_9_method_6_code 38 = .ok (.isub, 1) := by decide +kernel
theorem dX7_first_39 : decode prog_9_method_6_code 39 = .ok (.ishr, 1) := by decide +kernel
theorem dX7_first_40 : decode prog_9_method_6_code 40 = .ok (.bipush 8, 2) := by decide +kernel
theorem dX7_first_42 : decode prog_9_method_6_code 42 = .ok (.iload_n 2, 1) := by decide +kernel
theorem dX7_first_43 : decode prog_9_method_6_code 43 = .ok (.isub, 1) := by decide +kernel
theorem dX7_first_44 : decode prog_9_method_6_code 44 = .ok (.ishl, 1) := by decide +kernel
theorem dX7_first_45 : decode prog_9_method_6_code 45 = .ok (.ireturn, 1) := by decide +kernel
def pX7_first_0 (N a0 : Nat) (G : mm_M) (x1 : Int32) (x2 : Int32) : Option (mm_M × Int32) :=
  q_gR G a0 8 9 fun r2_1 =>
  q_nn r2_1 fun b6_2 =>
  q_aI G b6_2 101 x1 fun v6_3 =>
  if v6_3 ≤ x2 then
    q_gR G a0 8 4 fun r30_4 =>
    q_nn r30_4 fun b34_5 =>
    q_aI G b34_5 101 x1 fun v34_6 =>
    some (G, ((v34_6 >>> (((8 : Int32) - x2) &&& 31)) <<< (((8 : Int32) - x2) &&& 31)))
  else
    q_gR G a0 8 4 fun r11_7 =>
    q_nn r11_7 fun b15_8 =>
    q_aI G b15_8 101 x1 fun v15_9 =>
    some (G, (((v15_9 >>> (((7 : Int32) - x2) &&& 31)) ^^^ (1 : Int32)) <<< (((7 : Int32) - x2) &&& 31)))
set_option maxRecDepth 100000 in
set_option maxHeartbeats 4000000 in
theorem bX7_first_0 {p : Program} {l : Launch} {e : Env} {s : State} {m : MethodId} {args : Array Value} {below : List Frame} {meth : Method} {c : Code} {E : mm_E} {N a0 : Nat} {res : mm_M × Int32} (X : mm_X p s m args meth c prog_9_method_6_code 3 "XorOverlayModel" tw_T E) (hr : meth.sig.returnType = (Option.some .int)) {G : mm_M} {H : Heap} {locs : List Loc} {ls : Array Slot} {x1 : Int32} {x2 : Int32} (V : mm_V E s G H locs) (hl : lx_has ls 3 [(0, .inr (some a0)), (1, .inl x1), (2, .inl x2)]) (hp : pX7_first_0 N a0 G x1 x2 = some res) : W p l e rX7_first s m args below meth c H locs 0 0 (MQ below (mm_Qi E res.1 res.2) args s 0 0 (mm_A E)) (F0 m 0 ls []) := by
  have hx := X.1.1
  have hb := X.1.2.1
  unfold pX7_first_0 at hp
  refine x_iload_n X dX7_first_0 hl 2 rfl rfl ?_
  refine x_aload_n X dX7_first_1 hl 0 rfl rfl ?_
  refine q_getR (ci := 7) X V inX7 rfl (by decide) rfl 9 (by decide) rfl (tw_3 38 rfl rfl) rfl dX7_first_2 hp (fun r2_1 hp => ?_)
  refine x_iload_n X dX7_first_5 hl 1 rfl rfl ?_
  obtain ⟨b6_2, e0, hp2⟩ := q_nn_of hp
  clear hp; subst e0; have hp := hp2; clear hp2
  refine q_iald X V dX7_first_6 hp (fun v6_3 hp => ?_)
  refine q_if hp (lv_icmp_ge (tgt := 29) hx hb dX7_first_7 (by decide)) (fun hp => ?_) (fun hp => ?_)
  · refine x_aload_n X dX7_first_29 hl 0 rfl rfl ?_
    refine q_getR (ci := 7) X V inX7 rfl (by decide) rfl 4 (by decide) rfl (tw_3 33 rfl rfl) rfl dX7_first_30 hp (fun r30_4 hp => ?_)
    refine x_iload_n X dX7_first_33 hl 1 rfl rfl ?_
    obtain ⟨b34_5, e0, hp2⟩ := q_nn_of hp
    clear hp; subst e0; have hp := hp2; clear hp2
    refine q_iald X V dX7_first_34 hp (fun v34_6 hp => ?_)
    refine lv_bipush (v := (8 : Int32)) hx hb dX7_first_35 (by decide) ?_
    refine x_iload_n X dX7_first_37 hl 2 rfl rfl ?_
    refine lv_isub hx hb dX7_first_38 ?_
    refine lv_ishr hx hb dX7_first_39 ?_
    refine lv_bipush (v := (8 : Int32)) hx hb dX7_first_40 (by decide) ?_
    refine x_iload_n X dX7_first_42 hl 2 rfl rfl ?_
    refine lv_isub hx hb dX7_first_43 ?_
    refine lv_ishl hx hb dX7_first_44 ?_
    exact q_iret X V hr ⟨by decide, by decide⟩ dX7_first_45 hp
  · refine x_aload_n X dX7_first_10 hl 0 rfl rfl ?_
    refine q_getR (ci := 7) X V inX7 rfl (by decide) rfl 4 (by decide) rfl (tw_3 33 rfl rfl) rfl dX7_first_11 hp (fun r11_7 hp => ?_)
    refine x_iload_n X dX7_first_14 hl 1 rfl rfl ?_
    obtain ⟨b15_8, e0, hp2⟩ := q_nn_of hp
    clear hp; subst e0; have hp := hp2; clear hp2
    refine q_iald X V dX7_first_15 hp (fun v15_9 hp => ?_)
    refine lv_bipush (v := (7 : Int32)) hx hb dX7_first_16 (by decide) ?_
    refine x_iload_n X dX7_first_18 hl 2 rfl rfl ?_
    refine lv_isub hx hb dX7_first_19 ?_
    refine lv_ishr hx hb dX7_first_20 ?_
    refine lv_iconst (v := (1 : Int32)) hx hb dX7_first_21 (by decide) ?_
    refine lv_ixor hx hb dX7_first_22 ?_
    refine lv_bipush (v := (7 : Int32)) hx hb dX7_first_23 (by decide) ?_
    refine x_iload_n X dX7_first_25 hl 2 rfl rfl ?_
    refine lv_isub hx hb dX7_first_26 ?_
    refine lv_ishl hx hb dX7_first_27 ?_
    exact q_iret X V hr ⟨by decide, by decide⟩ dX7_first_28 hp
theorem cX7_first (l : Launch) (E : mm_E) {N a0 : Nat} {G : mm_M} {x1 : Int32} {x2 : Int32} {res : mm_M × Int32} (hp : pX7_first_0 N a0 G x1 x2 = some res) : Met l yX7_first (Cond.code yX7_first prog_9_method_6_code 3 (Option.some .int) :: tw_T) rX7_first (mm_Pc E G [.ref a0, .int x1, .int x2]) (mm_Qi E res.1 res.2) 0 0 (mm_A E) :=
  mm_met (own := "XorOverlayModel") E G [.inr (some a0), .inl x1, .inl x2] (by decide) rfl rfl (Nat.le_of_ble_eq_true rfl) (fun p e s m args below meth c ls X hr hi V hl => bX7_first_0 X hr V hl hp)
