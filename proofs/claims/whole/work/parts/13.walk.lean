abbrev yX6_join : MethodName := ⟨"XorOverlay", "join", "(II)Z"⟩
abbrev rX6_join : Room := { frames := 5, cells := 43, slots := 230, locals := 124 }
theorem kX6_join : Cond.code yX6_join prog_1_method_2_code 4 (Option.some .boolean) ∈ tw_T ∧ Cond.instanceMethod yX6_join ∈ tw_T ∧ Cond.selects "XorOverlay" yX6_join yX6_join ∈ tw_T ∧ Cond.initialized "XorOverlay" ∈ tw_T := ⟨(tw_1 61 rfl rfl), (tw_1 59 rfl rfl), (tw_1 60 rfl rfl), (tw_1 1 rfl rfl)⟩
theorem hX6_join : yX6_join.cls = "XorOverlay" ∧ yX6_join.cls ≠ "java/lang/invoke/MethodHandle" ∧ yX6_join.cls ≠ "java/lang/invoke/VarHandle" ∧ (parseMethodDescriptor yX6_join.desc).map (fun d => d.parameters.length) = some 2 := by decide +kernel
theorem dX6_join_0 : decode prog_1_method_2_code 0 = .ok (.iload_n 1, 1) := by decide +kernel
theorem dX6_join_1 : decode prog_1_method_2_code 1 = .ok (.invokestatic 39, 3) := by decide +kernel
theorem dX6_join_4 : decode prog_1_method_2_code 4 = .ok (.ifCond .eq 11, 3) := by decide +kernel
theorem dX6_join_7 : decode prog_1_method_2_code 7 = .ok (.aload_n 0, 1) := by decide +kernel
theorem dX6_join_8 : decode prog_1_method_2_code 8 = .ok (.iload_n 1, 1) := by decide +kernel
theorem dX6_join_9 : decode prog_1_method_2_code 9 = .ok (.invokevirtual 43, 3) := by decide +kernel
theorem dX6_join_12 : decode prog_1_method_2_code 12 = .ok (.ifnull 5, 3) := by decide +kernel
theorem dX6_join_15 : decode prog_1_method_2_code 15 = .ok (.iconst 0, 1) := by decide +kernel
theorem dX6_join_16 : decode prog_1_method_2_code 16 = .ok (.ireturn, 1) := by decide +kernel
theorem dX6_join_17 : decode prog_1_method_2_code 17 = .ok (.iload_n 2, 1) := by decide +kernel
theorem dX6_join_18 : decode prog_1_method_2_code 18 = .ok (.iconst (-1), 1) := by decide +kernel
theorem dX6_join_19 : decode prog_1_method_2_code 19 = .ok (.if_icmp .eq 13, 3) := by decide +kernel
theorem dX6_join_22 : decode prog_1_method_2_code 22 = .ok (.aload_n 0, 1) := by decide +kernel
theorem dX6_join_23 : decode prog_1_method_2_code 23 = .ok (.iload_n 2, 1) := by decide +kernel
theorem dX6_join_24 : decode prog_1_method_2_code 24 = .ok (.invokevirtual 43, 3) := by decide +kernel
theorem dX6_join_27 : decode prog_1_method_2_code 27 = .ok (.ifnonnull 5, 3) := by decide +kernel
theorem dX6_join_30 : decode prog_1_method_2_code 30 = .ok (.iconst 0, 1) := by decide +kernel
theorem dX6_join_31 : decode prog_1_method_2_code 31 = .ok (.ireturn, 1) := by decide +kernel
theorem dX6_join_32 : decode prog_1_method_2_code 32 = .ok (.aload_n 0, 1) := by decide +kernel
theorem dX6_join_33 : decode prog_1_method_2_code 33 = .ok (.iload_n 1, 1) := by decide +kernel
theorem dX6_join_34 : decode prog_1_method_2_code 34 = .ok (.invokevirtual 47, 3) := by decide +kernel
theorem dX6_join_37 : decode prog_1_method_2_code 37 = .ok (.astore_n 3, 1) := by decide +kernel
theorem dX6_join_38 : decode prog_1_method_2_code 38 = .ok (.aload_n 3, 1) := by decide +kernel
theorem dX6_join_39 : decode prog_1_method_2_code 39 = .ok (.ifnonnull 5, 3) := by decide +kernel
theorem dX6_join_42 : decode prog_1_method_2_code 42 = .ok (.iconst 0, 1) := by decide +kernel
theorem dX6_join_43 : decode prog_1_method_2_code 43 = .ok (.ireturn, 1) := by decide +kernel
theorem dX6_join_44 : decode prog_1_method_2_code 44 = .ok (.aload_n 3, 1) := by decide +kernel
theorem dX6_join_45 : decode prog_1_method_2_code 45 = .ok (.aload_n 0, 1) := by decide +kernel
theorem dX6_join_46 : decode prog_1_method_2_code 46 = .ok (.getfield 33, 3) := by decide +kernel
theorem dX6_join_49 : decode prog_1_method_2_code 49 = .ok (.invokevirtual 50, 3) := by decide +kernel
theorem dX6_join_52 : decode prog_1_method_2_code 52 = .ok (.iload_n 2, 1) := by decide +kernel
theorem dX6_join_53 : decode prog_1_method_2_code 53 = .ok (.iconst (-1), 1) := by decide +kernel
theorem dX6_join_54 : decode prog_1_method_2_code 54 = .ok (.if_icmp .eq 22, 3) := by decide +kernel
theorem dX6_join_57 : decode prog_1_method_2_code 57 = .ok (.aload_n 3, 1) := by decide +kernel
theorem dX6_join_58 : decode prog_1_method_2_code 58 = .ok (.getfield 54, 3) := by decide +kernel
theorem dX6_join_61 : decode prog_1_method_2_code 61 = .ok (.iload_n 2, 1) := by decide +kernel
theorem dX6_join_62 : decode prog_1_method_2_code 62 = .ok (.aload_n 0, 1) := by decide +kernel
theorem dX6_join_63 : decode prog_1_method_2_code 63 = .ok (.getfield 33, 3) := by decide +kernel
theorem dX6_join_66 : decode prog_1_method_2_code 66 = .ok (.invokevirtual 58, 3) := by decide +kernel
theorem dX6_join_69 : decode prog_1_method_2_code 69 = .ok (.aload_n 0, 1) := by decide +kernel
theorem dX6_join_70 : decode prog_1_method_2_code 70 = .ok (.aload_n 3, 1) := by decide +kernel
theorem dX6_join_71 : decode prog_1_method_2_code 71 = .ok (.iconst 0, 1) := by decide +kernel
theorem dX6_join_72 : decode prog_1_method_2_code 72 = .ok (.iload_n 1, 1) := by decide +kernel
theorem dX6_join_73 : decode prog_1_method_2_code 73 = .ok (.invokevirtual 64, 3) := by decide +kernel
theorem dX6_join_76 : decode prog_1_method_2_code 76 = .ok (.iconst 1, 1) := by decide +kernel
theorem dX6_join_77 : decode prog_1_method_2_code 77 = .ok (.ireturn, 1) := by decide +kernel
def pX6_join_32 (N a0 : Nat) (G : mm_M) (x1 : Int32) (x2 : Int32) : Option (mm_M × Int32) :=
  q_is G a0 7 <|
  q_cl (pX6_enrolIfRoom_0 N a0 G x1) fun G r34_7 =>
  q_op r34_7 (
    some (G, (0 : Int32))) fun b39_8 =>
  q_gI G a0 7 5 fun v46_9 =>
  q_is G b39_8 5 <|
  q_cl (pX4_startAnew_0 N b39_8 G v46_9) fun G _ =>
  if x2 = (-1 : Int32) then
    some (G, (1 : Int32))
  else
    q_gR G b39_8 5 1 fun r58_11 =>
    q_gI G a0 7 5 fun v63_12 =>
    q_nn r58_11 fun b66_13 =>
    q_is G b66_13 6 <|
    q_cl (pX5_see_0 N b66_13 G x2 v63_12) fun G _ =>
    q_is G a0 7 <|
    q_cl (pX6_startLookup_0 N a0 G (some b39_8) (0 : Int32) x1) fun G _ =>
    some (G, (1 : Int32))
set_option maxRecDepth 100000 in
set_option maxHeartbeats 4000000 in
theorem bX6_join_32 {p : Program} {l : Launch} {e : Env} {s : State} {m : MethodId} {args : Array Value} {below : List Frame} {meth : Method} {c : Code} {E : mm_E} {N a0 : Nat} {res : mm_M × Int32} (X : mm_X p s m args meth c prog_1_method_2_code 4 "XorOverlay" tw_T E) (hr : meth.sig.returnType = (Option.some .boolean)) {G : mm_M} {H : Heap} {locs : List Loc} {ls : Array Slot} {x1 : Int32} {x2 : Int32} (V : mm_V E s G H locs) (hl : lx_has ls 4 [(0, .inr (some a0)), (1, .inl x1), (2, .inl x2)]) (hp : pX6_join_32 N a0 G x1 x2 = some res) : W p l e rX6_join s m args below meth c H locs 0 0 (MQ below (mm_Qi E res.1 res.2) args s 43 230 (mm_A E)) (F0 m 32 ls []) := by
  have hx := X.1.1
  have hb := X.1.2.1
  unfold pX6_join_32 at hp
  refine x_aload_n X dX6_join_32 hl 0 rfl rfl ?_
  refine x_iload_n X dX6_join_33 hl 1 rfl rfl ?_
  obtain ⟨hk, hp⟩ := q_is_of hp
  obtain ⟨⟨G, r34_7⟩, hq, hp⟩ := q_cl_of hp
  dsimp only at hp
  refine q_goq (cells' := 43) (slots' := 230) (va_runV (As := [.int x1]) (rest := []) X.1 (cX6_enrolIfRoom l E hq) (tw_cwV 1 X.1.2.2.2.2 (tw_1 73 rfl rfl) kX6_enrolIfRoom.2.1 kX6_enrolIfRoom.2.2.1 kX6_enrolIfRoom.2.2.2 kX6_enrolIfRoom.1 rfl rfl hX6_enrolIfRoom ⟨Nat.le_of_ble_eq_true rfl, Nat.le_of_ble_eq_true rfl⟩) (mm_preV X V rfl (by decide) rfl hk) rfl rfl hl.1 rfl (lv_room (Nat.le_of_ble_eq_true rfl)) dX6_join_34 ⟨by decide, by decide⟩) V ⟨rfl, rfl⟩ (fun H locs V => ?_)
  refine x_astore_n (lst' := [(3, .inr r34_7), (0, .inr (some a0)), (1, .inl x1), (2, .inl x2)]) X dX6_join_37 hl rfl (by decide) rfl (fun ls hl => ?_)
  refine x_aload_n X dX6_join_38 hl 0 rfl rfl ?_
  refine q_ifnonnull (tgt := 44) X dX6_join_39 (by decide) hp (fun e0 hp2 => ?_) (fun b39_8 e0 hp2 => ?_)
  · clear hp; subst e0; have hp := hp2; clear hp2
    refine lv_iconst (v := (0 : Int32)) hx hb dX6_join_42 (by decide) ?_
    exact q_zret X V hr rfl ⟨by decide, by decide⟩ dX6_join_43 hp
  · clear hp; subst e0; have hp := hp2; clear hp2
    refine x_aload_n X dX6_join_44 hl 0 rfl rfl ?_
    refine x_aload_n X dX6_join_45 hl 1 rfl rfl ?_
    refine q_getI (ci := 6) X V inX6 rfl (by decide) rfl 5 (by decide) rfl (tw_1 41 rfl rfl) rfl dX6_join_46 hp (fun v46_9 hp => ?_)
    obtain ⟨hk, hp⟩ := q_is_of hp
    obtain ⟨⟨G, u⟩, hq, hp⟩ := q_cl_of hp
    dsimp only at hp
    refine q_gov (cells' := 43) (slots' := 230) (va_runV (As := [.int v46_9]) (rest := []) X.1 (cX4_startAnew l E hq) (tw_cwV 1 X.1.2.2.2.2 (tw_1 233 rfl rfl) kX4_startAnew.2.1 kX4_startAnew.2.2.1 kX4_startAnew.2.2.2 kX4_startAnew.1 rfl rfl hX4_startAnew ⟨Nat.le_of_ble_eq_true rfl, Nat.le_of_ble_eq_true rfl⟩) (mm_preV X V rfl (by decide) rfl hk) rfl rfl hl.1 rfl (lv_room (Nat.le_of_ble_eq_true rfl)) dX6_join_49 ⟨by decide, by decide⟩) V ⟨rfl, rfl⟩ (fun H locs V => ?_)
    refine x_iload_n X dX6_join_52 hl 3 rfl rfl ?_
    refine lv_iconst (v := (-1 : Int32)) hx hb dX6_join_53 (by decide) ?_
    refine q_if hp (lv_icmp_eq (tgt := 76) hx hb dX6_join_54 (by decide)) (fun hp => ?_) (fun hp => ?_)
    · refine lv_iconst (v := (1 : Int32)) hx hb dX6_join_76 (by decide) ?_
      exact q_zret X V hr rfl ⟨by decide, by decide⟩ dX6_join_77 hp
    · refine x_aload_n X dX6_join_57 hl 0 rfl rfl ?_
      refine q_getR (ci := 4) X V inX4 rfl (by decide) rfl 1 (by decide) rfl (tw_1 215 rfl rfl) rfl dX6_join_58 hp (fun r58_11 hp => ?_)
      refine x_iload_n X dX6_join_61 hl 3 rfl rfl ?_
      refine x_aload_n X dX6_join_62 hl 1 rfl rfl ?_
      refine q_getI (ci := 6) X V inX6 rfl (by decide) rfl 5 (by decide) rfl (tw_1 41 rfl rfl) rfl dX6_join_63 hp (fun v63_12 hp => ?_)
      obtain ⟨b66_13, e0, hp2⟩ := q_nn_of hp
      clear hp; subst e0; have hp := hp2; clear hp2
      obtain ⟨hk, hp⟩ := q_is_of hp
      obtain ⟨⟨G, u⟩, hq, hp⟩ := q_cl_of hp
      dsimp only at hp
      refine q_gov (cells' := 43) (slots' := 230) (va_runV (As := [.int x2, .int v63_12]) (rest := []) X.1 (cX5_see l E hq) (tw_cwV 2 X.1.2.2.2.2 (tw_2 9 rfl rfl) kX5_see.2.1 kX5_see.2.2.1 kX5_see.2.2.2 kX5_see.1 rfl rfl hX5_see ⟨Nat.le_of_ble_eq_true rfl, Nat.le_of_ble_eq_true rfl⟩) (mm_preV X V rfl (by decide) rfl hk) rfl rfl hl.1 rfl (lv_room (Nat.le_of_ble_eq_true rfl)) dX6_join_66 ⟨by decide, by decide⟩) V ⟨rfl, rfl⟩ (fun H locs V => ?_)
      refine x_aload_n X dX6_join_69 hl 1 rfl rfl ?_
      refine x_aload_n X dX6_join_70 hl 0 rfl rfl ?_
      refine lv_iconst (v := (0 : Int32)) hx hb dX6_join_71 (by decide) ?_
      refine x_iload_n X dX6_join_72 hl 2 rfl rfl ?_
      obtain ⟨hk, hp⟩ := q_is_of hp
      obtain ⟨⟨G, u⟩, hq, hp⟩ := q_cl_of hp
      dsimp only at hp
      refine q_gov (cells' := 43) (slots' := 230) (va_runV (As := [va_rf (some b39_8), .int (0 : Int32), .int x1]) (rest := []) X.1 (cX6_startLookup l E hq) (tw_cwV 3 X.1.2.2.2.2 (tw_2 52 rfl rfl) kX6_startLookup.2.1 kX6_startLookup.2.2.1 kX6_startLookup.2.2.2 kX6_startLookup.1 rfl rfl hX6_startLookup ⟨Nat.le_of_ble_eq_true rfl, Nat.le_of_ble_eq_true rfl⟩) (mm_preV X V rfl (by decide) rfl hk) rfl rfl hl.1 rfl (lv_room (Nat.le_of_ble_eq_true rfl)) dX6_join_73 ⟨by decide, by decide⟩) V ⟨rfl, rfl⟩ (fun H locs V => ?_)
      refine lv_iconst (v := (1 : Int32)) hx hb dX6_join_76 (by decide) ?_
      exact q_zret X V hr rfl ⟨by decide, by decide⟩ dX6_join_77 hp
def pX6_join_0 (N a0 : Nat) (G : mm_M) (x1 : Int32) (x2 : Int32) : Option (mm_M × Int32) :=
  q_cl (pX6_isNumber_0 N G x1) fun G v1_2 =>
  if v1_2 = 0 then
    some (G, (0 : Int32))
  else
    q_is G a0 7 <|
    q_cl (pX6_upPeer_0 N a0 G x1) fun G r9_4 =>
    q_op r9_4 (
      if x2 = (-1 : Int32) then
        pX6_join_32 N a0 G x1 x2
      else
        q_is G a0 7 <|
        q_cl (pX6_upPeer_0 N a0 G x2) fun G r24_17 =>
        q_op r24_17 (
          some (G, (0 : Int32))) fun b27_18 =>
        pX6_join_32 N a0 G x1 x2) fun b12_5 =>
    some (G, (0 : Int32))
set_option maxRecDepth 100000 in
set_option maxHeartbeats 4000000 in
theorem bX6_join_0 {p : Program} {l : Launch} {e : Env} {s : State} {m : MethodId} {args : Array Value} {below : List Frame} {meth : Method} {c : Code} {E : mm_E} {N a0 : Nat} {res : mm_M × Int32} (X : mm_X p s m args meth c prog_1_method_2_code 4 "XorOverlay" tw_T E) (hr : meth.sig.returnType = (Option.some .boolean)) {G : mm_M} {H : Heap} {locs : List Loc} {ls : Array Slot} {x1 : Int32} {x2 : Int32} (V : mm_V E s G H locs) (hl : lx_has ls 4 [(0, .inr (some a0)), (1, .inl x1), (2, .inl x2)]) (hp : pX6_join_0 N a0 G x1 x2 = some res) : W p l e rX6_join s m args below meth c H locs 0 0 (MQ below (mm_Qi E res.1 res.2) args s 43 230 (mm_A E)) (F0 m 0 ls []) := by
  have hx := X.1.1
  have hb := X.1.2.1
  unfold pX6_join_0 at hp
  refine x_iload_n X dX6_join_0 hl 1 rfl rfl ?_
  obtain ⟨⟨G, v1_2⟩, hq, hp⟩ := q_cl_of hp
  dsimp only at hp
  refine q_goi (cells' := 0) (slots' := 0) (va_runS (As := [.int x1]) (rest := []) X.1 (cX6_isNumber l E hq) (tw_cwS 1 X.1.2.2.2.2 (tw_1 62 rfl rfl) kX6_isNumber.2.1 kX6_isNumber.2.2 kX6_isNumber.1 rfl rfl hX6_isNumber ⟨Nat.le_of_ble_eq_true rfl, Nat.le_of_ble_eq_true rfl⟩) (mm_preS X V) rfl rfl hl.1 rfl (lv_room (Nat.le_of_ble_eq_true rfl)) dX6_join_1 ⟨by decide, by decide⟩) V ⟨rfl, rfl⟩ (fun H locs V => ?_)
  refine q_if hp (lv_if_eq (tgt := 15) hx hb dX6_join_4 (by decide)) (fun hp => ?_) (fun hp => ?_)
  · refine lv_iconst (v := (0 : Int32)) hx hb dX6_join_15 (by decide) ?_
    exact q_zret X V hr rfl ⟨by decide, by decide⟩ dX6_join_16 hp
  · refine x_aload_n X dX6_join_7 hl 0 rfl rfl ?_
    refine x_iload_n X dX6_join_8 hl 1 rfl rfl ?_
    obtain ⟨hk, hp⟩ := q_is_of hp
    obtain ⟨⟨G, r9_4⟩, hq, hp⟩ := q_cl_of hp
    dsimp only at hp
    refine q_goq (cells' := 0) (slots' := 0) (va_runV (As := [.int x1]) (rest := []) X.1 (cX6_upPeer l E hq) (tw_cwV 1 X.1.2.2.2.2 (tw_1 65 rfl rfl) kX6_upPeer.2.1 kX6_upPeer.2.2.1 kX6_upPeer.2.2.2 kX6_upPeer.1 rfl rfl hX6_upPeer ⟨Nat.le_of_ble_eq_true rfl, Nat.le_of_ble_eq_true rfl⟩) (mm_preV X V rfl (by decide) rfl hk) rfl rfl hl.1 rfl (lv_room (Nat.le_of_ble_eq_true rfl)) dX6_join_9 ⟨by decide, by decide⟩) V ⟨rfl, rfl⟩ (fun H locs V => ?_)
    refine q_ifnull (tgt := 17) X dX6_join_12 (by decide) hp (fun e0 hp2 => ?_) (fun b12_5 e0 hp2 => ?_)
    · clear hp; subst e0; have hp := hp2; clear hp2
      refine x_iload_n X dX6_join_17 hl 2 rfl rfl ?_
      refine lv_iconst (v := (-1 : Int32)) hx hb dX6_join_18 (by decide) ?_
      refine q_if hp (lv_icmp_eq (tgt := 32) hx hb dX6_join_19 (by decide)) (fun hp => ?_) (fun hp => ?_)
      · exact bX6_join_32 X hr V (lx_sub hl [0, 1, 2] rfl) hp
      · refine x_aload_n X dX6_join_22 hl 0 rfl rfl ?_
        refine x_iload_n X dX6_join_23 hl 2 rfl rfl ?_
        obtain ⟨hk, hp⟩ := q_is_of hp
        obtain ⟨⟨G, r24_17⟩, hq, hp⟩ := q_cl_of hp
        dsimp only at hp
        refine q_goq (cells' := 0) (slots' := 0) (va_runV (As := [.int x2]) (rest := []) X.1 (cX6_upPeer l E hq) (tw_cwV 1 X.1.2.2.2.2 (tw_1 65 rfl rfl) kX6_upPeer.2.1 kX6_upPeer.2.2.1 kX6_upPeer.2.2.2 kX6_upPeer.1 rfl rfl hX6_upPeer ⟨Nat.le_of_ble_eq_true rfl, Nat.le_of_ble_eq_true rfl⟩) (mm_preV X V rfl (by decide) rfl hk) rfl rfl hl.1 rfl (lv_room (Nat.le_of_ble_eq_true rfl)) dX6_join_24 ⟨by decide, by decide⟩) V ⟨rfl, rfl⟩ (fun H locs V => ?_)
        refine q_ifnonnull (tgt := 32) X dX6_join_27 (by decide) hp (fun e0 hp2 => ?_) (fun b27_18 e0 hp2 => ?_)
        · clear hp; subst e0; have hp := hp2; clear hp2
          refine lv_iconst (v := (0 : Int32)) hx hb dX6_join_30 (by decide) ?_
          exact q_zret X V hr rfl ⟨by decide, by decide⟩ dX6_join_31 hp
        · clear hp; subst e0; have hp := hp2; clear hp2
          exact bX6_join_32 X hr V (lx_sub hl [0, 1, 2] rfl) hp
    · clear hp; subst e0; have hp := hp2; clear hp2
      refine lv_iconst (v := (0 : Int32)) hx hb dX6_join_15 (by decide) ?_
      exact q_zret X V hr rfl ⟨by decide, by decide⟩ dX6_join_16 hp
theorem cX6_join (l : Launch) (E : mm_E) {N a0 : Nat} {G : mm_M} {x1 : Int32} {x2 : Int32} {res : mm_M × Int32} (hp : pX6_join_0 N a0 G x1 x2 = some res) : Met l yX6_join (Cond.code yX6_join prog_1_method_2_code 4 (Option.some .boolean) :: tw_T) rX6_join (mm_Pc E G [.ref a0, .int x1, .int x2]) (mm_Qi E res.1 res.2) 43 230 (mm_A E) :=
  mm_met (own := "XorOverlay") E G [.inr (some a0), .inl x1, .inl x2] (by decide) rfl rfl (Nat.le_of_ble_eq_true rfl) (fun p e s m args below meth c ls X hr hi V hl => bX6_join_0 X hr V hl hp)
abbrev yX6_leave : MethodName := ⟨"XorOverlay", "leave", "(I)Z"⟩
abbrev rX6_leave : Room := { frames := 2, cells := 0, slots := 0, locals := 45 }
theorem kX6_leave : Cond.code yX6_leave prog_1_method_3_code 3 (Option.some .boolean) ∈ tw_T ∧ Cond.instanceMethod yX6_leave ∈ tw_T ∧ Cond.selects "XorOverlay" yX6_leave yX6_leave ∈ tw_T ∧ Cond.initialized "XorOverlay" ∈ tw_T := ⟨(tw_2 115 rfl rfl), (tw_2 113 rfl rfl), (tw_2 114 rfl rfl), (tw_1 1 rfl rfl)⟩
theorem hX6_leave : yX6_leave.cls = "XorOverlay" ∧ yX6_leave.cls ≠ "java/lang/invoke/MethodHandle" ∧ yX6_leave.cls ≠ "java/lang/invoke/VarHandle" ∧ (parseMethodDescriptor yX6_leave.desc).map (fun d => d.parameters.length) = some 1 := by decide +kernel
theorem dX6_leave_0 : decode prog_1_method_3_code 0 = .ok (.aload_n 0, 1) := by decide +kernel
theorem dX6_leave_1 : decode prog_1_method_3_code 1 = .ok (.iload_n 1, 1) := by decide +kernel
theorem dX6_leave_2 : decode prog_1_method_3_code 2 = .ok (.invokevirtual 43, 3) := by decide +kernel
theorem dX6_leave_5 : decode prog_1_method_3_code 5 = .ok (.astore_n 2, 1) := by decide +kernel
theorem dX6_leave_6 : decode prog_1_method_3_code 6 = .ok (.aload_n 2, 1) := by decide +kernel
theorem dX6_leave_7 : decode prog_1_method_3_code 7 = .ok (.ifnonnull 5, 3) := by decide +kernel
theorem dX6_leave_10 : decode prog_1_method_3_code 10 = .ok (.iconst 0, 1) := by decide +kernel
theorem dX6_leave_11 : decode prog_1_method_3_code 11 = .ok (.ireturn, 1) := by decide +kernel
theorem dX6_leave_12 : decode prog_1_method_3_code 12 = .ok (.aload_n 2, 1) := by decide +kernel
theorem dX6_leave_13 : decode prog_1_method_3_code 13 = .ok (.iconst 0, 1) := by decide +kernel
theorem dX6_leave_14 : decode prog_1_method_3_code 14 = .ok (.putfield 68, 3) := by decide +kernel
theorem dX6_leave_17 : decode prog_1_method_3_code 17 = .ok (.iconst 1, 1) := by decide +kernel
theorem dX6_leave_18 : decode prog_1_method_3_code 18 = .ok (.ireturn, 1) := by decide +kernel
def pX6_leave_0 (N a0 : Nat) (G : mm_M) (x1 : Int32) : Option (mm_M × Int32) :=
  q_is G a0 7 <|
  q_cl (pX6_upPeer_0 N a0 G x1) fun G r2_2 =>
  q_op r2_2 (
    some (G, (0 : Int32))) fun b7_3 =>
  q_pI G b7_3 5 4 (0 : Int32) fun G =>
  some (G, (1 : Int32))
set_option maxRecDepth 100000 in
set_option maxHeartbeats 4000000 in
theorem bX6_leave_0 {p : Program} {l : Launch} {e : Env} {s : State} {m : MethodId} {args : Array Value} {below : List Frame} {meth : Method} {c : Code} {E : mm_E} {N a0 : Nat} {res : mm_M × Int32} (X : mm_X p s m args meth c prog_1_method_3_code 3 "XorOverlay" tw_T E) (hr : meth.sig.returnType = (Option.some .boolean)) {G : mm_M} {H : Heap} {locs : List Loc} {ls : Array Slot} {x1 : Int32} (V : mm_V E s G H locs) (hl : lx_has ls 3 [(0, .inr (some a0)), (1, .inl x1)]) (hp : pX6_leave_0 N a0 G x1 = some res) : W p l e rX6_leave s m args below meth c H locs 0 0 (MQ below (mm_Qi E res.1 res.2) args s 0 0 (mm_A E)) (F0 m 0 ls []) := by
  have hx := X.1.1
  have hb := X.1.2.1
  unfold pX6_leave_0 at hp
  refine x_aload_n X dX6_leave_0 hl 0 rfl rfl ?_
  refine x_iload_n X dX6_leave_1 hl 1 rfl rfl ?_
  obtain ⟨hk, hp⟩ := q_is_of hp
  obtain ⟨⟨G, r2_2⟩, hq, hp⟩ := q_cl_of hp
  dsimp only at hp
  refine q_goq (cells' := 0) (slots' := 0) (va_runV (As := [.int x1]) (rest := []) X.1 (cX6_upPeer l E hq) (tw_cwV 1 X.1.2.2.2.2 (tw_1 65 rfl rfl) kX6_upPeer.2.1 kX6_upPeer.2.2.1 kX6_upPeer.2.2.2 kX6_upPeer.1 rfl rfl hX6_upPeer ⟨Nat.le_of_ble_eq_true rfl, Nat.le_of_ble_eq_true rfl⟩) (mm_preV X V rfl (by decide) rfl hk) rfl rfl hl.1 rfl (lv_room (Nat.le_of_ble_eq_true rfl)) dX6_leave_2 ⟨by decide, by decide⟩) V ⟨rfl, rfl⟩ (fun H locs V => ?_)
  refine x_astore_n (lst' := [(2, .inr r2_2), (0, .inr (some a0)), (1, .inl x1)]) X dX6_leave_5 hl rfl (by decide) rfl (fun ls hl => ?_)
  refine x_aload_n X dX6_leave_6 hl 0 rfl rfl ?_
  refine q_ifnonnull (tgt := 12) X dX6_leave_7 (by decide) hp (fun e0 hp2 => ?_) (fun b7_3 e0 hp2 => ?_)
  · clear hp; subst e0; have hp := hp2; clear hp2
    refine lv_iconst (v := (0 : Int32)) hx hb dX6_leave_10 (by decide) ?_
    exact q_zret X V hr rfl ⟨by decide, by decide⟩ dX6_leave_11 hp
  · clear hp; subst e0; have hp := hp2; clear hp2
    refine x_aload_n X dX6_leave_12 hl 0 rfl rfl ?_
    refine lv_iconst (v := (0 : Int32)) hx hb dX6_leave_13 (by decide) ?_
    refine q_putI (ci := 4) X V inX4 rfl tyX4 tyX4_ok nmX4 (by decide) rfl 4 (by decide) rfl (tw_1 221 rfl rfl) rfl (Or.inl rfl) .boolean rfl rfl rfl dX6_leave_14 hp (fun G H locs V hp => ?_)
    refine lv_iconst (v := (1 : Int32)) hx hb dX6_leave_17 (by decide) ?_
    exact q_zret X V hr rfl ⟨by decide, by decide⟩ dX6_leave_18 hp
theorem cX6_leave (l : Launch) (E : mm_E) {N a0 : Nat} {G : mm_M} {x1 : Int32} {res : mm_M × Int32} (hp : pX6_leave_0 N a0 G x1 = some res) : Met l yX6_leave (Cond.code yX6_leave prog_1_method_3_code 3 (Option.some .boolean) :: tw_T) rX6_leave (mm_Pc E G [.ref a0, .int x1]) (mm_Qi E res.1 res.2) 0 0 (mm_A E) :=
  mm_met (own := "XorOverlay") E G [.inr (some a0), .inl x1] (by decide) rfl rfl (Nat.le_of_ble_eq_true rfl) (fun p e s m args below meth c ls X hr hi V hl => bX6_leave_0 X hr V hl hp)
abbrev yX3_isRunning : MethodName := ⟨"XorOverlay$Lookup", "isRunning", "()Z"⟩
abbrev rX3_isRunning : Room := { frames := 0, cells := 0, slots := 0, locals := 0 }
theorem kX3_isRunning : Cond.code yX3_isRunning prog_5_method_4_code 1 (Option.some .boolean) ∈ tw_T ∧ Cond.instanceMethod yX3_isRunning ∈ tw_T ∧ Cond.selects "XorOverlay$Lookup" yX3_isRunning yX3_isRunning ∈ tw_T ∧ Cond.initialized "XorOverlay$Lookup" ∈ tw_T := ⟨(tw_2 123 rfl rfl), (tw_2 121 rfl rfl), (tw_2 122 rfl rfl), (tw_1 7 rfl rfl)⟩
theorem hX3_isRunning : yX3_isRunning.cls = "XorOverlay$Lookup" ∧ yX3_isRunning.cls ≠ "java/lang/invoke/MethodHandle" ∧ yX3_isRunning.cls ≠ "java/lang/invoke/VarHandle" ∧ (parseMethodDescriptor yX3_isRunning.desc).map (fun d => d.parameters.length) = some 0 := by decide +kernel
theorem dX3_isRunning_0 : decode prog_5_method_4_code 0 = .ok (.aload_n 0, 1) := by decide +kernel
theorem dX3_isRunning_1 : decode prog_5_method_4_code 1 = .ok (.getfield 27, 3) := by decide +kernel
theorem dX3_isRunning_4 : decode prog_5_method_4_code 4 = .ok (.iconst 1, 1) := by decide +kernel
theorem dX3_isRunning_5 : decode prog_5_method_4_code 5 = .ok (.if_icmp .ne 7, 3) := by decide +kernel
theorem dX3_isRunning_8 : decode prog_5_method_4_code 8 = .ok (.iconst 1, 1) := by decide +kernel
theorem dX3_isRunning_9 : decode prog_5_method_4_code 9 = .ok (.goto 4, 3) := by decide +kernel
theorem dX3_isRunning_12 : decode prog_5_method_4_code 12 = .ok (.iconst 0, 1) := by decide +kernel
theorem dX3_isRunning_13 : decode prog_5_method_4_code 13 = .ok (.ireturn, 1) := by decide +kernel
def pX3_isRunning_0 (N a0 : Nat) (G : mm_M) : Option (mm_M × Int32) :=
  q_gI G a0 4 5 fun v1_1 =>
  if v1_1 = (1 : Int32) then
    some (G, (1 : Int32))
  else
    some (G, (0 : Int32))
set_option maxRecDepth 100000 in
set_option maxHeartbeats 4000000 in
theorem bX3_isRunning_0 {p : Program} {l : Launch} {e : Env} {s : State} {m : MethodId} {args : Array Value} {below : List Frame} {meth : Method} {c : Code} {E : mm_E} {N a0 : Nat} {res : mm_M × Int32} (X : mm_X p s m args meth c prog_5_method_4_code 1 "XorOverlay$Lookup" tw_T E) (hr : meth.sig.returnType = (Option.some .boolean)) {G : mm_M} {H : Heap} {locs : List Loc} {ls : Array Slot} (V : mm_V E s G H locs) (hl : lx_has ls 1 [(0, .inr (some a0))]) (hp : pX3_isRunning_0 N a0 G = some res) : W p l e rX3_isRunning s m args below meth c H locs 0 0 (MQ below (mm_Qi E res.1 res.2) args s 0 0 (mm_A E)) (F0 m 0 ls []) := by
  have hx := X.1.1
  have hb := X.1.2.1
  unfold pX3_isRunning_0 at hp
  refine x_aload_n X dX3_isRunning_0 hl 0 rfl rfl ?_
  refine q_getI (ci := 3) X V inX3 rfl (by decide) rfl 5 (by decide) rfl (tw_1 153 rfl rfl) rfl dX3_isRunning_1 hp (fun v1_1 hp => ?_)
  refine lv_iconst (v := (1 : Int32)) hx hb dX3_isRunning_4 (by decide) ?_
  refine q_ifn hp (lv_icmp_ne (tgt := 12) hx hb dX3_isRunning_5 (by decide)) (fun hp => ?_) (fun hp => ?_)
  · refine lv_iconst (v := (0 : Int32)) hx hb dX3_isRunning_12 (by decide) ?_
    exact q_zret X V hr rfl ⟨by decide, by decide⟩ dX3_isRunning_13 hp
  · refine lv_iconst (v := (1 : Int32)) hx hb dX3_isRunning_8 (by decide) ?_
    refine lv_goto (tgt := 13) hx hb dX3_isRunning_9 (by decide) ?_
    exact q_zret X V hr rfl ⟨by decide, by decide⟩ dX3_isRunning_13 hp
theorem cX3_isRunning (l : Launch) (E : mm_E) {N a0 : Nat} {G : mm_M} {res : mm_M × Int32} (hp : pX3_isRunning_0 N a0 G = some res) : Met l yX3_isRunning (Cond.code yX3_isRunning prog_5_method_4_code 1 (Option.some .boolean) :: tw_T) rX3_isRunning (mm_Pc E G [.ref a0]) (mm_Qi E res.1 res.2) 0 0 (mm_A E) :=
  mm_met (own := "XorOverlay$Lookup") E G [.inr (some a0)] (by decide) rfl rfl (Nat.le_of_ble_eq_true rfl) (fun p e s m args below meth c ls X hr hi V hl => bX3_isRunning_0 X hr V hl hp)
abbrev yX6_begin : MethodName := ⟨"XorOverlay", "begin", "(III)Z"⟩
abbrev rX6_begin : Room := { frames := 5, cells := 0, slots := 0, locals := 124 }
theorem kX6_begin : Cond.code yX6_begin prog_1_method_4_code 5 (Option.some .boolean) ∈ tw_T ∧ Cond.instanceMethod yX6_begin ∈ tw_T ∧ Cond.selects "XorOverlay" yX6_begin yX6_begin ∈ tw_T ∧ Cond.initialized "XorOverlay" ∈ tw_T := ⟨(tw_2 119 rfl rfl), (tw_2 117 rfl rfl), (tw_2 118 rfl rfl), (tw_1 1 rfl rfl)⟩
theorem hX6_begin : yX6_begin.cls = "XorOverlay" ∧ yX6_begin.cls ≠ "java/lang/invoke/MethodHandle" ∧ yX6_begin.cls ≠ "java/lang/invoke/VarHandle" ∧ (parseMethodDescriptor yX6_begin.desc).map (fun d => d.parameters.length) = some 3 := by decide +kernel
theorem dX6_begin_0 : decode prog_1_method_4_code 0 = .ok (.aload_n 0, 1) := by decide +kernel
theorem dX6_begin_1 : decode prog_1_method_4_code 1 = .ok (.iload_n 1, 1) := by decide +kernel
theorem dX6_begin_2 : decode prog_1_method_4_code 2 = .ok (.invokevirtual 43, 3) := by decide +kernel
theorem dX6_begin_5 : decode prog_1_method_4_code 5 = .ok (.astore 4, 2) := by decide +kernel
theorem dX6_begin_7 : decode prog_1_method_4_code 7 = .ok (.aload 4, 2) := by decide +kernel
theorem dX6_begin_9 : decode prog_1_method_4_code 9 = .ok (.ifnull 14, 3) := by decide +kernel
theorem dX6_begin_12 : decode prog_1_method_4_code 12 = .ok (.aload 4, 2) := by decide +kernel
theorem dX6_begin_14 : decode prog_1_method_4_code 14 = .ok (.getfield 72, 3) := by decide +kernel
theorem dX6_begin_17 : decode prog_1_method_4_code 17 = .ok (.invokevirtual 76, 3) := by decide +kernel
theorem dX6_begin_20 : decode prog_1_method_4_code 20 = .ok (.ifCond .eq 5, 3) := by decide +kernel
theorem dX6_begin_23 : decode prog_1_method_4_code 23 = .ok (.iconst 0, 1) := by decide +kernel
theorem dX6_begin_24 : decode prog_1_method_4_code 24 = .ok (.ireturn, 1) := by decide +kernel
theorem dX6_begin_25 : decode prog_1_method_4_code 25 = .ok (.iload_n 2, 1) := by decide +kernel
theorem dX6_begin_26 : decode prog_1_method_4_code 26 = .ok (.ifCond .lt 15, 3) := by decide +kernel
theorem dX6_begin_29 : decode prog_1_method_4_code 29 = .ok (.iload_n 2, 1) := by decide +kernel
theorem dX6_begin_30 : decode prog_1_method_4_code 30 = .ok (.iconst 2, 1) := by decide +kernel
theorem dX6_begin_31 : decode prog_1_method_4_code 31 = .ok (.if_icmp .gt 10, 3) := by decide +kernel
theorem dX6_begin_34 : decode prog_1_method_4_code 34 = .ok (.iload_n 3, 1) := by decide +kernel
theorem dX6_begin_35 : decode prog_1_method_4_code 35 = .ok (.invokestatic 39, 3) := by decide +kernel
theorem dX6_begin_38 : decode prog_1_method_4_code 38 = .ok (.ifCond .ne 5, 3) := by decide +kernel
theorem dX6_begin_41 : decode prog_1_method_4_code 41 = .ok (.iconst 0, 1) := by decide +kernel
theorem dX6_begin_42 : decode prog_1_method_4_code 42 = .ok (.ireturn, 1) := by decide +kernel
theorem dX6_begin_43 : decode prog_1_method_4_code 43 = .ok (.aload_n 0, 1) := by decide +kernel
theorem dX6_begin_44 : decode prog_1_method_4_code 44 = .ok (.aload 4, 2) := by decide +kernel
theorem dX6_begin_46 : decode prog_1_method_4_code 46 = .ok (.iload_n 2, 1) := by decide +kernel
theorem dX6_begin_47 : decode prog_1_method_4_code 47 = .ok (.iload_n 3, 1) := by decide +kernel
theorem dX6_begin_48 : decode prog_1_method_4_code 48 = .ok (.invokevirtual 64, 3) := by decide +kernel
theorem dX6_begin_51 : decode prog_1_method_4_code 51 = .ok (.iconst 1, 1) := by decide +kernel
theorem dX6_begin_52 : decode prog_1_method_4_code 52 = .ok (.ireturn, 1) := by decide +kernel
def pX6_begin_0 (N a0 : Nat) (G : mm_M) (x1 : Int32) (x2 : Int32) (x3 : Int32) : Option (mm_M × Int32) :=
  q_is G a0 7 <|
  q_cl (pX6_upPeer_0 N a0 G x1) fun G r2_2 =>
  q_op r2_2 (
    some (G, (0 : Int32))) fun b9_3 =>
  q_gR G b9_3 5 2 fun r14_4 =>
  q_nn r14_4 fun b17_5 =>
  q_is G b17_5 4 <|
  q_cl (pX3_isRunning_0 N b17_5 G) fun G v17_7 =>
  if v17_7 = 0 then
    if x2 < 0 then
      some (G, (0 : Int32))
    else
      if (2 : Int32) < x2 then
        some (G, (0 : Int32))
      else
        q_cl (pX6_isNumber_0 N G x3) fun G v35_9 =>
        if v35_9 = 0 then
          some (G, (0 : Int32))
        else
          q_is G a0 7 <|
          q_cl (pX6_startLookup_0 N a0 G (some b9_3) x2 x3) fun G _ =>
          some (G, (1 : Int32))
  else
    some (G, (0 : Int32))
set_option maxRecDepth 100000 in
set_option maxHeartbeats 4000000 in
theorem bX6_begin_0 {p : Program} {l : Launch} {e : Env} {s : State} {m : MethodId} {args : Array Value} {below : List Frame} {meth : Method} {c : Code} {E : mm_E} {N a0 : Nat} {res : mm_M × Int32} (X : mm_X p s m args meth c prog_1_method_4_code 5 "XorOverlay" tw_T E) (hr : meth.sig.returnType = (Option.some .boolean)) {G : mm_M} {H : Heap} {locs : List Loc} {ls : Array Slot} {x1 : Int32} {x2 : Int32} {x3 : Int32} (V : mm_V E s G H locs) (hl : lx_has ls 5 [(0, .inr (some a0)), (1, .inl x1), (2, .inl x2), (3, .inl x3)]) (hp : pX6_begin_0 N a0 G x1 x2 x3 = some res) : W p l e rX6_begin s m args below meth c H locs 0 0 (MQ below (mm_Qi E res.1 res.2) args s 0 0 (mm_A E)) (F0 m 0 ls []) := by
  have hx := X.1.1
  have hb := X.1.2.1
  unfold pX6_begin_0 at hp
  refine x_aload_n X dX6_begin_0 hl 0 rfl rfl ?_
  refine x_iload_n X dX6_begin_1 hl 1 rfl rfl ?_
  obtain ⟨hk, hp⟩ := q_is_of hp
  obtain ⟨⟨G, r2_2⟩, hq, hp⟩ := q_cl_of hp
  dsimp only at hp
  refine q_goq (cells' := 0) (slots' := 0) (va_runV (As := [.int x1]) (rest := []) X.1 (cX6_upPeer l E hq) (tw_cwV 1 X.1.2.2.2.2 (tw_1 65 rfl rfl) kX6_upPeer.2.1 kX6_upPeer.2.2.1 kX6_upPeer.2.2.2 kX6_upPeer.1 rfl rfl hX6_upPeer ⟨Nat.le_of_ble_eq_true rfl, Nat.le_of_ble_eq_true rfl⟩) (mm_preV X V rfl (by decide) rfl hk) rfl rfl hl.1 rfl (lv_room (Nat.le_of_ble_eq_true rfl)) dX6_begin_2 ⟨by decide, by decide⟩) V ⟨rfl, rfl⟩ (fun H locs V => ?_)
  refine x_astore (lst' := [(4, .inr r2_2), (0, .inr (some a0)), (1, .inl x1), (2, .inl x2), (3, .inl x3)]) X dX6_begin_5 hl (by decide) rfl (fun ls hl => ?_)
  refine x_aload X dX6_begin_7 hl 0 rfl ?_
  refine q_ifnull (tgt := 23) X dX6_begin_9 (by decide) hp (fun e0 hp2 => ?_) (fun b9_3 e0 hp2 => ?_)
  · clear hp; subst e0; have hp := hp2; clear hp2
    refine lv_iconst (v := (0 : Int32)) hx hb dX6_begin_23 (by decide) ?_
    exact q_zret X V hr rfl ⟨by decide, by decide⟩ dX6_begin_24 hp
  · clear hp; subst e0; have hp := hp2; clear hp2
    refine x_aload X dX6_begin_12 hl 0 rfl ?_
    refine q_getR (ci := 4) X V inX4 rfl (by decide) rfl 2 (by decide) rfl (tw_1 217 rfl rfl) rfl dX6_begin_14 hp (fun r14_4 hp => ?_)
    obtain ⟨b17_5, e0, hp2⟩ := q_nn_of hp
    clear hp; subst e0; have hp := hp2; clear hp2
    obtain ⟨hk, hp⟩ := q_is_of hp
    obtain ⟨⟨G, v17_7⟩, hq, hp⟩ := q_cl_of hp
    dsimp only at hp
    refine q_goi (cells' := 0) (slots' := 0) (va_runV (As := []) (rest := []) X.1 (cX3_isRunning l E hq) (tw_cwV 0 X.1.2.2.2.2 (tw_2 120 rfl rfl) kX3_isRunning.2.1 kX3_isRunning.2.2.1 kX3_isRunning.2.2.2 kX3_isRunning.1 rfl rfl hX3_isRunning ⟨Nat.le_of_ble_eq_true rfl, Nat.le_of_ble_eq_true rfl⟩) (mm_preV X V rfl (by decide) rfl hk) rfl rfl hl.1 rfl (lv_room (Nat.le_of_ble_eq_true rfl)) dX6_begin_17 ⟨by decide, by decide⟩) V ⟨rfl, rfl⟩ (fun H locs V => ?_)
    refine q_if hp (lv_if_eq (tgt := 25) hx hb dX6_begin_20 (by decide)) (fun hp => ?_) (fun hp => ?_)
    · refine x_iload_n X dX6_begin_25 hl 3 rfl rfl ?_
      refine q_if hp (lv_if_lt (tgt := 41) hx hb dX6_begin_26 (by decide)) (fun hp => ?_) (fun hp => ?_)
      · refine lv_iconst (v := (0 : Int32)) hx hb dX6_begin_41 (by decide) ?_
        exact q_zret X V hr rfl ⟨by decide, by decide⟩ dX6_begin_42 hp
      · refine x_iload_n X dX6_begin_29 hl 3 rfl rfl ?_
        refine lv_iconst (v := (2 : Int32)) hx hb dX6_begin_30 (by decide) ?_
        refine q_if hp (lv_icmp_gt (tgt := 41) hx hb dX6_begin_31 (by decide)) (fun hp => ?_) (fun hp => ?_)
        · refine lv_iconst (v := (0 : Int32)) hx hb dX6_begin_41 (by decide) ?_
          exact q_zret X V hr rfl ⟨by decide, by decide⟩ dX6_begin_42 hp
        · refine x_iload_n X dX6_begin_34 hl 4 rfl rfl ?_
          obtain ⟨⟨G, v35_9⟩, hq, hp⟩ := q_cl_of hp
          dsimp only at hp
          refine q_goi (cells' := 0) (slots' := 0) (va_runS (As := [.int x3]) (rest := []) X.1 (cX6_isNumber l E hq) (tw_cwS 1 X.1.2.2.2.2 (tw_1 62 rfl rfl) kX6_isNumber.2.1 kX6_isNumber.2.2 kX6_isNumber.1 rfl rfl hX6_isNumber ⟨Nat.le_of_ble_eq_true rfl, Nat.le_of_ble_eq_true rfl⟩) (mm_preS X V) rfl rfl hl.1 rfl (lv_room (Nat.le_of_ble_eq_true rfl)) dX6_begin_35 ⟨by decide, by decide⟩) V ⟨rfl, rfl⟩ (fun H locs V => ?_)
          refine q_ifn hp (lv_if_ne (tgt := 43) hx hb dX6_begin_38 (by decide)) (fun hp => ?_) (fun hp => ?_)
          · refine x_aload_n X dX6_begin_43 hl 1 rfl rfl ?_
            refine x_aload X dX6_begin_44 hl 0 rfl ?_
            refine x_iload_n X dX6_begin_46 hl 3 rfl rfl ?_
            refine x_iload_n X dX6_begin_47 hl 4 rfl rfl ?_
            obtain ⟨hk, hp⟩ := q_is_of hp
            obtain ⟨⟨G, u⟩, hq, hp⟩ := q_cl_of hp
            dsimp only at hp
            refine q_gov (cells' := 0) (slots' := 0) (va_runV (As := [va_rf (some b9_3), .int x2, .int x3]) (rest := []) X.1 (cX6_startLookup l E hq) (tw_cwV 3 X.1.2.2.2.2 (tw_2 52 rfl rfl) kX6_startLookup.2.1 kX6_startLookup.2.2.1 kX6_startLookup.2.2.2 kX6_startLookup.1 rfl rfl hX6_startLookup ⟨Nat.le_of_ble_eq_true rfl, Nat.le_of_ble_eq_true rfl⟩) (mm_preV X V rfl (by decide) rfl hk) rfl rfl hl.1 rfl (lv_room (Nat.le_of_ble_eq_true rfl)) dX6_begin_48 ⟨by decide, by decide⟩) V ⟨rfl, rfl⟩ (fun H locs V => ?_)
            refine lv_iconst (v := (1 : Int32)) hx hb dX6_begin_51 (by decide) ?_
            exact q_zret X V hr rfl ⟨by decide, by decide⟩ dX6_begin_52 hp
          · refine lv_iconst (v := (0 : Int32)) hx hb dX6_begin_41 (by decide) ?_
            exact q_zret X V hr rfl ⟨by decide, by decide⟩ dX6_begin_42 hp
    · refine lv_iconst (v := (0 : Int32)) hx hb dX6_begin_23 (by decide) ?_
      exact q_zret X V hr rfl ⟨by decide, by decide⟩ dX6_begin_24 hp
theorem cX6_begin (l : Launch) (E : mm_E) {N a0 : Nat} {G : mm_M} {x1 : Int32} {x2 : Int32} {x3 : Int32} {res : mm_M × Int32} (hp : pX6_begin_0 N a0 G x1 x2 x3 = some res) : Met l yX6_begin (Cond.code yX6_begin prog_1_method_4_code 5 (Option.some .boolean) :: tw_T) rX6_begin (mm_Pc E G [.ref a0, .int x1, .int x2, .int x3]) (mm_Qi E res.1 res.2) 0 0 (mm_A E) :=
  mm_met (own := "XorOverlay") E G [.inr (some a0), .inl x1, .inl x2, .inl x3] (by decide) rfl rfl (Nat.le_of_ble_eq_true rfl) (fun p e s m args below meth c ls X hr hi V hl => bX6_begin_0 X hr V hl hp)
abbrev yX5_staleTarget : MethodName := ⟨"XorOverlay$Table", "staleTarget", "(I)I"⟩
abbrev rX5_staleTarget : Room := { frames := 0, cells := 0, slots := 0, locals := 0 }
theorem kX5_staleTarget : Cond.code yX5_staleTarget prog_7_method_7_code 4 (Option.some .int) ∈ tw_T ∧ Cond.instanceMethod yX5_staleTarget ∈ tw_T ∧ Cond.selects "XorOverlay$Table" yX5_staleTarget yX5_staleTarget ∈ tw_T ∧ Cond.initialized "XorOverlay$Table" ∈ tw_T := ⟨(tw_2 131 rfl rfl), (tw_2 129 rfl rfl), (tw_2 130 rfl rfl), (tw_1 5 rfl rfl)⟩
theorem hX5_staleTarget : yX5_staleTarget.cls = "XorOverlay$Table" ∧ yX5_staleTarget.cls ≠ "java/lang/invoke/MethodHandle" ∧ yX5_staleTarget.cls ≠ "java/lang/invoke/VarHandle" ∧ (parseMethodDescriptor yX5_staleTarget.desc).map (fun d => d.parameters.length) = some 1 := by decide +kernel
theorem dX5_staleTarget_0 : decode prog_7_method_7_code 0 = .ok (.iconst 0, 1) := by decide +kernel
theorem dX5_staleTarget_1 : decode prog_7_method_7_code 1 = .ok (.istore_n 2, 1) := by decide +kernel
theorem dX5_staleTarget_2 : decode prog_7_method_7_code 2 = .ok (.iload_n 2, 1) := by decide +kernel
theorem dX5_staleTarget_3 : decode prog_7_method_7_code 3 = .ok (.aload_n 0, 1) := by decide +kernel
theorem dX5_staleTarget_4 : decode prog_7_method_7_code 4 = .ok (.getfield 22, 3) := by decide +kernel
theorem dX5_staleTarget_7 : decode prog_7_method_7_code 7 = .ok (.if_icmp .ge 46, 3) := by decide +kernel
theorem dX5_staleTarget_10 : decode prog_7_method_7_code 10 = .ok (.aload_n 0, 1) := by decide +kernel
theorem dX5_staleTarget_11 : decode prog_7_method_7_code 11 = .ok (.getfield 17, 3) := by decide +kernel
theorem dX5_staleTarget_14 : decode prog_7_method_7_code 14 = .ok (.iload_n 2, 1) := by decide +kernel
theorem dX5_staleTarget_15 : decode prog_7_method_7_code 15 = .ok (.aaload, 1) := by decide +kernel
theorem dX5_staleTarget_16 : decode prog_7_method_7_code 16 = .ok (.astore_n 3, 1) := by decide +kernel
theorem dX5_staleTarget_17 : decode prog_7_method_7_code 17 = .ok (.aload_n 3, 1) := by decide +kernel
theorem dX5_staleTarget_18 : decode prog_7_method_7_code 18 = .ok (.getfield 66, 3) := by decide +kernel
theorem dX5_staleTarget_21 : decode prog_7_method_7_code 21 = .ok (.ifCond .le 26, 3) := by decide +kernel
theorem dX5_staleTarget_24 : decode prog_7_method_7_code 24 = .ok (.iload_n 1, 1) := by decide +kernel
theorem dX5_staleTarget_25 : decode prog_7_method_7_code 25 = .ok (.aload_n 3, 1) := by decide +kernel
theorem dX5_staleTarget_26 : decode prog_7_method_7_code 26 = .ok (.getfield 44, 3) := by decide +kernel
theorem dX5_staleTarget_29 : decode prog_7_method_7_code 29 = .ok (.isub, 1) := by decide +kernel
theorem dX5_staleTarget_30 : decode prog_7_method_7_code 30 = .ok (.bipush 16, 2) := by decide +kernel
theorem dX5_staleTarget_32 : decode prog_7_method_7_code 32 = .ok (.if_icmp .lt 15, 3) := by decide +kernel
theorem dX5_staleTarget_35 : decode prog_7_method_7_code 35 = .ok (.aload_n 3, 1) := by decide +kernel
theorem dX5_staleTarget_36 : decode prog_7_method_7_code 36 = .ok (.getfield 69, 3) := by decide +kernel
theorem dX5_staleTarget_39 : decode prog_7_method_7_code 39 = .ok (.iload_n 1, 1) := by decide +kernel
theorem dX5_staleTarget_40 : decode prog_7_method_7_code 40 = .ok (.aload_n 3, 1) := by decide +kernel
theorem dX5_staleTarget_41 : decode prog_7_method_7_code 41 = .ok (.getfield 66, 3) := by decide +kernel
theorem dX5_staleTarget_44 : decode prog_7_method_7_code 44 = .ok (.irem, 1) := by decide +kernel
theorem dX5_staleTarget_45 : decode prog_7_method_7_code 45 = .ok (.iadd, 1) := by decide +kernel
theorem dX5_staleTarget_46 : decode prog_7_method_7_code 46 = .ok (.ireturn, 1) := by decide +kernel
theorem dX5_staleTarget_47 : decode prog_7_method_7_code 47 = .ok (.iinc 2 1, 3) := by decide +kernel
theorem dX5_staleTarget_50 : decode prog_7_method_7_code 50 = .ok (.goto (-48), 3) := by decide +kernel
theorem dX5_staleTarget_53 : decode prog_7_method_7_code 53 = .ok (.iconst (-1), 1) := by decide +kernel
theorem dX5_staleTarget_54 : decode prog_7_method_7_code 54 = .ok (.ireturn, 1) := by decide +kernel
def pX5_staleTarget_2_b (N a0 : Nat) (kb : mm_M → Int32 → Int32 → Option (mm_M × Int32)) (kx : mm_M → Option (mm_M × Int32)) (G : mm_M) (x1 : Int32) (x2 : Int32) : Option (mm_M × Int32) :=
  q_gI G a0 6 2 fun v4_1 =>
  if v4_1 ≤ x2 then
    kx G
  else
    q_gR G a0 6 1 fun r11_2 =>
    q_nn r11_2 fun b15_3 =>
    q_aR G b15_3 104 x2 fun r15_4 =>
    q_nn r15_4 fun b18_5 =>
    q_gI G b18_5 1 3 fun v18_6 =>
    if v18_6 ≤ 0 then
      kb G x1 (x2 + (1 : Int32))
    else
      q_gI G b18_5 1 4 fun v26_7 =>
      if (x1 - v26_7) < (16 : Int32) then
        kb G x1 (x2 + (1 : Int32))
      else
        q_gI G b18_5 1 2 fun v36_8 =>
        q_gI G b18_5 1 3 fun v41_9 =>
        q_nz v41_9 <|
        some (G, (v36_8 + (x1 - x1 / v41_9 * v41_9)))
def pX5_staleTarget_2 (N a0 : Nat) (kx : mm_M → Option (mm_M × Int32)) : Nat → mm_M → Int32 → Int32 → Option (mm_M × Int32)
  | 0 => fun _ _ _ => none
  | n + 1 => pX5_staleTarget_2_b N a0 (pX5_staleTarget_2 N a0 kx n) kx
set_option maxRecDepth 100000 in
set_option maxHeartbeats 4000000 in
theorem bX5_staleTarget_2 {p : Program} {l : Launch} {e : Env} {s : State} {m : MethodId} {args : Array Value} {below : List Frame} {meth : Method} {c : Code} {E : mm_E} {N a0 : Nat} {res : mm_M × Int32} (X : mm_X p s m args meth c prog_7_method_7_code 4 "XorOverlay$Table" tw_T E) (hr : meth.sig.returnType = (Option.some .int)) {kx : mm_M → Option (mm_M × Int32)} (hkx : ∀ (G : mm_M) (H : Heap) (locs : List Loc) (ls : Array Slot), mm_V E s G H locs → lx_has ls 4 [(0, .inr (some a0))] → kx G = some res → W p l e rX5_staleTarget s m args below meth c H locs 0 0 (MQ below (mm_Qi E res.1 res.2) args s 0 0 (mm_A E)) (F0 m 53 ls [])) :
    ∀ (n : Nat) (G : mm_M) (H : Heap) (locs : List Loc) (ls : Array Slot) (x1 : Int32) (x2 : Int32), mm_V E s G H locs → lx_has ls 4 [(0, .inr (some a0)), (1, .inl x1), (2, .inl x2)] → pX5_staleTarget_2 N a0 kx n G x1 x2 = some res → W p l e rX5_staleTarget s m args below meth c H locs 0 0 (MQ below (mm_Qi E res.1 res.2) args s 0 0 (mm_A E)) (F0 m 2 ls []) := by
  have hx := X.1.1
  have hb := X.1.2.1
  intro n
  induction n with
  | zero =>
    intro G H locs ls x1 x2 V hl hp
    cases hp
  | succ n ih =>
    intro G H locs ls x1 x2 V hl hp
    have hp : pX5_staleTarget_2_b N a0 (pX5_staleTarget_2 N a0 kx n) kx G x1 x2 = some res := hp
    unfold pX5_staleTarget_2_b at hp
    refine x_iload_n X dX5_staleTarget_2 hl 2 rfl rfl ?_
    refine x_aload_n X dX5_staleTarget_3 hl 0 rfl rfl ?_
    refine q_getI (ci := 5) X V inX5 rfl (by decide) rfl 2 (by decide) rfl (tw_1 128 rfl rfl) rfl dX5_staleTarget_4 hp (fun v4_1 hp => ?_)
    refine q_if hp (lv_icmp_ge (tgt := 53) hx hb dX5_staleTarget_7 (by decide)) (fun hp => ?_) (fun hp => ?_)
    · exact hkx _ _ _ _ V (lx_sub hl [0] rfl) hp
    · refine x_aload_n X dX5_staleTarget_10 hl 0 rfl rfl ?_
      refine q_getR (ci := 5) X V inX5 rfl (by decide) rfl 1 (by decide) rfl (tw_1 126 rfl rfl) rfl dX5_staleTarget_11 hp (fun r11_2 hp => ?_)
      refine x_iload_n X dX5_staleTarget_14 hl 2 rfl rfl ?_
      obtain ⟨b15_3, e0, hp2⟩ := q_nn_of hp
      clear hp; subst e0; have hp := hp2; clear hp2
      refine q_aldB X V dX5_staleTarget_15 hp (fun r15_4 hp => ?_)
      refine x_astore_n (lst' := [(3, .inr r15_4), (0, .inr (some a0)), (1, .inl x1), (2, .inl x2)]) X dX5_staleTarget_16 hl rfl (by decide) rfl (fun ls hl => ?_)
      refine x_aload_n X dX5_staleTarget_17 hl 0 rfl rfl ?_
      obtain ⟨b18_5, e0, hp2⟩ := q_nn_of hp
      clear hp; subst e0; have hp := hp2; clear hp2
      refine q_getI (ci := 0) X V inX0 rfl (by decide) rfl 3 (by decide) rfl (tw_1 105 rfl rfl) rfl dX5_staleTarget_18 hp (fun v18_6 hp => ?_)
      refine q_if hp (lv_if_le (tgt := 47) hx hb dX5_staleTarget_21 (by decide)) (fun hp => ?_) (fun hp => ?_)
      · refine x_iinc (v := (1 : Int32)) (lst' := [(2, .inl (x2 + (1 : Int32))), (3, .inr (some b18_5)), (0, .inr (some a0)), (1, .inl x1)]) X dX5_staleTarget_47 hl 3 rfl (by decide) (by decide) rfl (fun ls hl => ?_)
        refine lv_goto (tgt := 2) hx hb dX5_staleTarget_50 (by decide) ?_
        exact ih _ _ _ _ _ _ V (lx_sub hl [2, 3, 0] rfl) hp
      · refine x_iload_n X dX5_staleTarget_24 hl 2 rfl rfl ?_
        refine x_aload_n X dX5_staleTarget_25 hl 0 rfl rfl ?_
        refine q_getI (ci := 0) X V inX0 rfl (by decide) rfl 4 (by decide) rfl (tw_1 107 rfl rfl) rfl dX5_staleTarget_26 hp (fun v26_7 hp => ?_)
        refine lv_isub hx hb dX5_staleTarget_29 ?_
        refine lv_bipush (v := (16 : Int32)) hx hb dX5_staleTarget_30 (by decide) ?_
        refine q_if hp (lv_icmp_lt (tgt := 47) hx hb dX5_staleTarget_32 (by decide)) (fun hp => ?_) (fun hp => ?_)
        · refine x_iinc (v := (1 : Int32)) (lst' := [(2, .inl (x2 + (1 : Int32))), (3, .inr (some b18_5)), (0, .inr (some a0)), (1, .inl x1)]) X dX5_staleTarget_47 hl 3 rfl (by decide) (by decide) rfl (fun ls hl => ?_)
          refine lv_goto (tgt := 2) hx hb dX5_staleTarget_50 (by decide) ?_
          exact ih _ _ _ _ _ _ V (lx_sub hl [2, 3, 0] rfl) hp
        · refine x_aload_n X dX5_staleTarget_35 hl 0 rfl rfl ?_
          refine q_getI (ci := 0) X V inX0 rfl (by decide) rfl 2 (by decide) rfl (tw_1 102 rfl rfl) rfl dX5_staleTarget_36 hp (fun v36_8 hp => ?_)
          refine x_iload_n X dX5_staleTarget_39 hl 2 rfl rfl ?_
          refine x_aload_n X dX5_staleTarget_40 hl 0 rfl rfl ?_
          refine q_getI (ci := 0) X V inX0 rfl (by decide) rfl 3 (by decide) rfl (tw_1 105 rfl rfl) rfl dX5_staleTarget_41 hp (fun v41_9 hp => ?_)
          obtain ⟨hz, hp⟩ := q_nz_of hp
          refine lv_irem hx hb dX5_staleTarget_44 hz ?_
          refine lv_iadd hx hb dX5_staleTarget_45 ?_
          exact q_iret X V hr ⟨by decide, by decide⟩ dX5_staleTarget_46 hp
def pX5_staleTarget_0 (N a0 : Nat) (G : mm_M) (x1 : Int32) : Option (mm_M × Int32) :=
  pX5_staleTarget_2 N a0 (fun (G : mm_M) =>
    some (G, (-1 : Int32))) N G x1 (0 : Int32)
set_option maxRecDepth 100000 in
set_option maxHeartbeats 4000000 in
theorem bX5_staleTarget_0 {p : Program} {l : Launch} {e : Env} {s : State} {m : MethodId} {args : Array Value} {below : List Frame} {meth : Method} {c : Code} {E : mm_E} {N a0 : Nat} {res : mm_M × Int32} (X : mm_X p s m args meth c prog_7_method_7_code 4 "XorOverlay$Table" tw_T E) (hr : meth.sig.returnType = (Option.some .int)) {G : mm_M} {H : Heap} {locs : List Loc} {ls : Array Slot} {x1 : Int32} (V : mm_V E s G H locs) (hl : lx_has ls 4 [(0, .inr (some a0)), (1, .inl x1)]) (hp : pX5_staleTarget_0 N a0 G x1 = some res) : W p l e rX5_staleTarget s m args below meth c H locs 0 0 (MQ below (mm_Qi E res.1 res.2) args s 0 0 (mm_A E)) (F0 m 0 ls []) := by
  have hx := X.1.1
  have hb := X.1.2.1
  unfold pX5_staleTarget_0 at hp
  refine lv_iconst (v := (0 : Int32)) hx hb dX5_staleTarget_0 (by decide) ?_
  refine x_istore_n (lst' := [(2, .inl (0 : Int32)), (0, .inr (some a0)), (1, .inl x1)]) X dX5_staleTarget_1 hl rfl (by decide) rfl (fun ls hl => ?_)
  refine bX5_staleTarget_2 X hr (fun G H locs ls V hl hp => ?_) _ _ _ _ _ _ _ V (lx_sub hl [1, 2, 0] rfl) hp
  refine lv_iconst (v := (-1 : Int32)) hx hb dX5_staleTarget_53 (by decide) ?_
  exact q_iret X V hr ⟨by decide, by decide⟩ dX5_staleTarget_54 hp
theorem cX5_staleTarget (l : Launch) (E : mm_E) {N a0 : Nat} {G : mm_M} {x1 : Int32} {res : mm_M × Int32} (hp : pX5_staleTarget_0 N a0 G x1 = some res) : Met l yX5_staleTarget (Cond.code yX5_staleTarget prog_7_method_7_code 4 (Option.some .int) :: tw_T) rX5_staleTarget (mm_Pc E G [.ref a0, .int x1]) (mm_Qi E res.1 res.2) 0 0 (mm_A E) :=
  mm_met (own := "XorOverlay$Table") E G [.inr (some a0), .inl x1] (by decide) rfl rfl (Nat.le_of_ble_eq_true rfl) (fun p e s m args below meth c ls X hr hi V hl => bX5_staleTarget_0 X hr V hl hp)
abbrev yX6_refresh : MethodName := ⟨"XorOverlay", "refresh", "(I)I"⟩
abbrev rX6_refresh : Room := { frames := 5, cells := 0, slots := 0, locals := 124 }
theorem kX6_refresh : Cond.code yX6_refresh prog_1_method_5_code 4 (Option.some .int) ∈ tw_T ∧ Cond.instanceMethod yX6_refresh ∈ tw_T ∧ Cond.selects "XorOverlay" yX6_refresh yX6_refresh ∈ tw_T ∧ Cond.initialized "XorOverlay" ∈ tw_T := ⟨(tw_2 127 rfl rfl), (tw_2 125 rfl rfl), (tw_2 126 rfl rfl), (tw_1 1 rfl rfl)⟩
theorem hX6_refresh : yX6_refresh.cls = "XorOverlay" ∧ yX6_refresh.cls ≠ "java/lang/invoke/MethodHandle" ∧ yX6_refresh.cls ≠ "java/lang/invoke/VarHandle" ∧ (parseMethodDescriptor yX6_refresh.desc).map (fun d => d.parameters.length) = some 1 := by decide +kernel
theorem dX6_refresh_0 : decode prog_1_method_5_code 0 = .ok (.aload_n 0, 1) := by decide +kernel
theorem dX6_refresh_1 : decode prog_1_method_5_code 1 = .ok (.iload_n 1, 1) := by decide +kernel
theorem dX6_refresh_2 : decode prog_1_method_5_code 2 = .ok (.invokevirtual 43, 3) := by decide +kernel
theorem dX6_refresh_5 : decode prog_1_method_5_code 5 = .ok (.astore_n 2, 1) := by decide +kernel
theorem dX6_refresh_6 : decode prog_1_method_5_code 6 = .ok (.aload_n 2, 1) := by decide +kernel
theorem dX6_refresh_7 : decode prog_1_method_5_code 7 = .ok (.ifnull 13, 3) := by decide +kernel
theorem dX6_refresh_10 : decode prog_1_method_5_code 10 = .ok (.aload_n 2, 1) := by decide +kernel
theorem dX6_refresh_11 : decode prog_1_method_5_code 11 = .ok (.getfield 72, 3) := by decide +kernel
theorem dX6_refresh_14 : decode prog_1_method_5_code 14 = .ok (.invokevirtual 76, 3) := by decide +kernel
theorem dX6_refresh_17 : decode prog_1_method_5_code 17 = .ok (.ifCond .eq 5, 3) := by decide +kernel
theorem dX6_refresh_20 : decode prog_1_method_5_code 20 = .ok (.iconst (-1), 1) := by decide +kernel
theorem dX6_refresh_21 : decode prog_1_method_5_code 21 = .ok (.ireturn, 1) := by decide +kernel
theorem dX6_refresh_22 : decode prog_1_method_5_code 22 = .ok (.aload_n 2, 1) := by decide +kernel
theorem dX6_refresh_23 : decode prog_1_method_5_code 23 = .ok (.getfield 54, 3) := by decide +kernel
theorem dX6_refresh_26 : decode prog_1_method_5_code 26 = .ok (.aload_n 0, 1) := by decide +kernel
theorem dX6_refresh_27 : decode prog_1_method_5_code 27 = .ok (.getfield 33, 3) := by decide +kernel
theorem dX6_refresh_30 : decode prog_1_method_5_code 30 = .ok (.invokevirtual 82, 3) := by decide +kernel
theorem dX6_refresh_33 : decode prog_1_method_5_code 33 = .ok (.istore_n 3, 1) := by decide +kernel
theorem dX6_refresh_34 : decode prog_1_method_5_code 34 = .ok (.iload_n 3, 1) := by decide +kernel
theorem dX6_refresh_35 : decode prog_1_method_5_code 35 = .ok (.iconst (-1), 1) := by decide +kernel
theorem dX6_refresh_36 : decode prog_1_method_5_code 36 = .ok (.if_icmp .eq 10, 3) := by decide +kernel
theorem dX6_refresh_39 : decode prog_1_method_5_code 39 = .ok (.aload_n 0, 1) := by decide +kernel
theorem dX6_refresh_40 : decode prog_1_method_5_code 40 = .ok (.aload_n 2, 1) := by decide +kernel
theorem dX6_refresh_41 : decode prog_1_method_5_code 41 = .ok (.iconst 0, 1) := by decide +kernel
theorem dX6_refresh_42 : decode prog_1_method_5_code 42 = .ok (.iload_n 3, 1) := by decide +kernel
theorem dX6_refresh_43 : decode prog_1_method_5_code 43 = .ok (.invokevirtual 64, 3) := by decide +kernel
theorem dX6_refresh_46 : decode prog_1_method_5_code 46 = .ok (.iload_n 3, 1) := by decide +kernel
theorem dX6_refresh_47 : decode prog_1_method_5_code 47 = .ok (.ireturn, 1) := by decide +kernel
def pX6_refresh_0 (N a0 : Nat) (G : mm_M) (x1 : Int32) : Option (mm_M × Int32) :=
  q_is G a0 7 <|
  q_cl (pX6_upPeer_0 N a0 G x1) fun G r2_2 =>
  q_op r2_2 (
    some (G, (-1 : Int32))) fun b7_3 =>
  q_gR G b7_3 5 2 fun r11_4 =>
  q_nn r11_4 fun b14_5 =>
  q_is G b14_5 4 <|
  q_cl (pX3_isRunning_0 N b14_5 G) fun G v14_7 =>
  if v14_7 = 0 then
    q_gR G b7_3 5 1 fun r23_8 =>
    q_gI G a0 7 5 fun v27_9 =>
    q_nn r23_8 fun b30_10 =>
    q_is G b30_10 6 <|
    q_cl (pX5_staleTarget_0 N b30_10 G v27_9) fun G v30_12 =>
    if v30_12 = (-1 : Int32) then
      some (G, v30_12)
    else
      q_is G a0 7 <|
      q_cl (pX6_startLookup_0 N a0 G (some b7_3) (0 : Int32) v30_12) fun G _ =>
      some (G, v30_12)
  else
    some (G, (-1 : Int32))
set_option maxRecDepth 100000 in
set_option maxHeartbeats 4000000 in
theorem bX6_refresh_0 {p : Program} {l : Launch} {e : Env} {s : State} {m : MethodId} {args : Array Value} {below : List Frame} {meth : Method} {c : Code} {E : mm_E} {N a0 : Nat} {res : mm_M × Int32} (X : mm_X p s m args meth c prog_1_method_5_code 4 "XorOverlay" tw_T E) (hr : meth.sig.returnType = (Option.some .int)) {G : mm_M} {H : Heap} {locs : List Loc} {ls : Array Slot} {x1 : Int32} (V : mm_V E s G H locs) (hl : lx_has ls 4 [(0, .inr (some a0)), (1, .inl x1)]) (hp : pX6_refresh_0 N a0 G x1 = some res) : W p l e rX6_refresh s m args below meth c H locs 0 0 (MQ below (mm_Qi E res.1 res.2) args s 0 0 (mm_A E)) (F0 m 0 ls []) := by
  have hx := X.1.1
  have hb := X.1.2.1
  unfold pX6_refresh_0 at hp
  refine x_aload_n X dX6_refresh_0 hl 0 rfl rfl ?_
  refine x_iload_n X dX6_refresh_1 hl 1 rfl rfl ?_
  obtain ⟨hk, hp⟩ := q_is_of hp
  obtain ⟨⟨G, r2_2⟩, hq, hp⟩ := q_cl_of hp
  dsimp only at hp
  refine q_goq (cells' := 0) (slots' := 0) (va_runV (As := [.int x1]) (rest := []) X.1 (cX6_upPeer l E hq) (tw_cwV 1 X.1.2.2.2.2 (tw_1 65 rfl rfl) kX6_upPeer.2.1 kX6_upPeer.2.2.1 kX6_upPeer.2.2.2 kX6_upPeer.1 rfl rfl hX6_upPeer ⟨Nat.le_of_ble_eq_true rfl, Nat.le_of_ble_eq_true rfl⟩) (mm_preV X V rfl (by decide) rfl hk) rfl rfl hl.1 rfl (lv_room (Nat.le_of_ble_eq_true rfl)) dX6_refresh_2 ⟨by decide, by decide⟩) V ⟨rfl, rfl⟩ (fun H locs V => ?_)
  refine x_astore_n (lst' := [(2, .inr r2_2), (0, .inr (some a0)), (1, .inl x1)]) X dX6_refresh_5 hl rfl (by decide) rfl (fun ls hl => ?_)
  refine x_aload_n X dX6_refresh_6 hl 0 rfl rfl ?_
  refine q_ifnull (tgt := 20) X dX6_refresh_7 (by decide) hp (fun e0 hp2 => ?_) (fun b7_3 e0 hp2 => ?_)
  · clear hp; subst e0; have hp := hp2; clear hp2
    refine lv_iconst (v := (-1 : Int32)) hx hb dX6_refresh_20 (by decide) ?_
    exact q_iret X V hr ⟨by decide, by decide⟩ dX6_refresh_21 hp
  · clear hp; subst e0; have hp := hp2; clear hp2
    refine x_aload_n X dX6_refresh_10 hl 0 rfl rfl ?_
    refine q_getR (ci := 4) X V inX4 rfl (by decide) rfl 2 (by decide) rfl (tw_1 217 rfl rfl) rfl dX6_refresh_11 hp (fun r11_4 hp => ?_)
    obtain ⟨b14_5, e0, hp2⟩ := q_nn_of hp
    clear hp; subst e0; have hp := hp2; clear hp2
    obtain ⟨hk, hp⟩ := q_is_of hp
    obtain ⟨⟨G, v14_7⟩, hq, hp⟩ := q_cl_of hp
    dsimp only at hp
    refine q_goi (cells' := 0) (slots' := 0) (va_runV (As := []) (rest := []) X.1 (cX3_isRunning l E hq) (tw_cwV 0 X.1.2.2.2.2 (tw_2 120 rfl rfl) kX3_isRunning.2.1 kX3_isRunning.2.2.1 kX3_isRunning.2.2.2 kX3_isRunning.1 rfl rfl hX3_isRunning ⟨Nat.le_of_ble_eq_true rfl, Nat.le_of_ble_eq_true rfl⟩) (mm_preV X V rfl (by decide) rfl hk) rfl rfl hl.1 rfl (lv_room (Nat.le_of_ble_eq_true rfl)) dX6_refresh_14 ⟨by decide, by decide⟩) V ⟨rfl, rfl⟩ (fun H locs V => ?_)
    refine q_if hp (lv_if_eq (tgt := 22) hx hb dX6_refresh_17 (by decide)) (fun hp => ?_) (fun hp => ?_)
    · refine x_aload_n X dX6_refresh_22 hl 0 rfl rfl ?_
      refine q_getR (ci := 4) X V inX4 rfl (by decide) rfl 1 (by decide) rfl (tw_1 215 rfl rfl) rfl dX6_refresh_23 hp (fun r23_8 hp => ?_)
      refine x_aload_n X dX6_refresh_26 hl 1 rfl rfl ?_
      refine q_getI (ci := 6) X V inX6 rfl (by decide) rfl 5 (by decide) rfl (tw_1 41 rfl rfl) rfl dX6_refresh_27 hp (fun v27_9 hp => ?_)
      obtain ⟨b30_10, e0, hp2⟩ := q_nn_of hp
      clear hp; subst e0; have hp := hp2; clear hp2
      obtain ⟨hk, hp⟩ := q_is_of hp
      obtain ⟨⟨G, v30_12⟩, hq, hp⟩ := q_cl_of hp
      dsimp only at hp
      refine q_goi (cells' := 0) (slots' := 0) (va_runV (As := [.int v27_9]) (rest := []) X.1 (cX5_staleTarget l E hq) (tw_cwV 1 X.1.2.2.2.2 (tw_2 128 rfl rfl) kX5_staleTarget.2.1 kX5_staleTarget.2.2.1 kX5_staleTarget.2.2.2 kX5_staleTarget.1 rfl rfl hX5_staleTarget ⟨Nat.le_of_ble_eq_true rfl, Nat.le_of_ble_eq_true rfl⟩) (mm_preV X V rfl (by decide) rfl hk) rfl rfl hl.1 rfl (lv_room (Nat.le_of_ble_eq_true rfl)) dX6_refresh_30 ⟨by decide, by decide⟩) V ⟨rfl, rfl⟩ (fun H locs V => ?_)
      refine x_istore_n (lst' := [(3, .inl v30_12), (2, .inr (some b7_3)), (0, .inr (some a0)), (1, .inl x1)]) X dX6_refresh_33 hl rfl (by decide) rfl (fun ls hl => ?_)
      refine x_iload_n X dX6_refresh_34 hl 0 rfl rfl ?_
      refine lv_iconst (v := (-1 : Int32)) hx hb dX6_refresh_35 (by decide) ?_
      refine q_if hp (lv_icmp_eq (tgt := 46) hx hb dX6_refresh_36 (by decide)) (fun hp => ?_) (fun hp => ?_)
      · refine x_iload_n X dX6_refresh_46 hl 0 rfl rfl ?_
        exact q_iret X V hr ⟨by decide, by decide⟩ dX6_refresh_47 hp
      · refine x_aload_n X dX6_refresh_39 hl 2 rfl rfl ?_
        refine x_aload_n X dX6_refresh_40 hl 1 rfl rfl ?_
        refine lv_iconst (v := (0 : Int32)) hx hb dX6_refresh_41 (by decide) ?_
        refine x_iload_n X dX6_refresh_42 hl 0 rfl rfl ?_
        obtain ⟨hk, hp⟩ := q_is_of hp
        obtain ⟨⟨G, u⟩, hq, hp⟩ := q_cl_of hp
        dsimp only at hp
        refine q_gov (cells' := 0) (slots' := 0) (va_runV (As := [va_rf (some b7_3), .int (0 : Int32), .int v30_12]) (rest := []) X.1 (cX6_startLookup l E hq) (tw_cwV 3 X.1.2.2.2.2 (tw_2 52 rfl rfl) kX6_startLookup.2.1 kX6_startLookup.2.2.1 kX6_startLookup.2.2.2 kX6_startLookup.1 rfl rfl hX6_startLookup ⟨Nat.le_of_ble_eq_true rfl, Nat.le_of_ble_eq_true rfl⟩) (mm_preV X V rfl (by decide) rfl hk) rfl rfl hl.1 rfl (lv_room (Nat.le_of_ble_eq_true rfl)) dX6_refresh_43 ⟨by decide, by decide⟩) V ⟨rfl, rfl⟩ (fun H locs V => ?_)
        refine x_iload_n X dX6_refresh_46 hl 0 rfl rfl ?_
        exact q_iret X V hr ⟨by decide, by decide⟩ dX6_refresh_47 hp
    · refine lv_iconst (v := (-1 : Int32)) hx hb dX6_refresh_20 (by decide) ?_
      exact q_iret X V hr ⟨by decide, by decide⟩ dX6_refresh_21 hp
theorem cX6_refresh (l : Launch) (E : mm_E) {N a0 : Nat} {G : mm_M} {x1 : Int32} {res : mm_M × Int32} (hp : pX6_refresh_0 N a0 G x1 = some res) : Met l yX6_refresh (Cond.code yX6_refresh prog_1_method_5_code 4 (Option.some .int) :: tw_T) rX6_refresh (mm_Pc E G [.ref a0, .int x1]) (mm_Qi E res.1 res.2) 0 0 (mm_A E) :=
  mm_met (own := "XorOverlay") E G [.inr (some a0), .inl x1] (by decide) rfl rfl (Nat.le_of_ble_eq_true rfl) (fun p e s m args below meth c ls X hr hi V hl => bX6_refresh_0 X hr V hl hp)
abbrev yX1_put : MethodName := ⟨"XorOverlay$Entries", "put", "(III)V"⟩
abbrev rX1_put : Room := { frames := 0, cells := 0, slots := 0, locals := 0 }
theorem kX1_put : Cond.code yX1_put prog_3_method_4_code 4 none ∈ tw_T ∧ Cond.instanceMethod yX1_put ∈ tw_T ∧ Cond.selects "XorOverlay$Entries" yX1_put yX1_put ∈ tw_T ∧ Cond.initialized "XorOverlay$Entries" ∈ tw_T := ⟨(tw_2 143 rfl rfl), (tw_2 142 rfl rfl), (tw_s 10 rfl rfl), (tw_1 8 rfl rfl)⟩
theorem hX1_put : yX1_put.cls = "XorOverlay$Entries" ∧ yX1_put.cls ≠ "java/lang/invoke/MethodHandle" ∧ yX1_put.cls ≠ "java/lang/invoke/VarHandle" ∧ (parseMethodDescriptor yX1_put.desc).map (fun d => d.parameters.length) = some 3 := by decide +kernel
theorem dX1_put_0 : decode prog_3_method_4_code 0 = .ok (.aload_n 0, 1) := by decide +kernel
theorem dX1_put_1 : decode prog_3_method_4_code 1 = .ok (.getfield 19, 3) := by decide +kernel
theorem dX1_put_4 : decode prog_3_method_4_code 4 = .ok (.bipush 6, 2) := by decide +kernel
theorem dX1_put_6 : decode prog_3_method_4_code 6 = .ok (.if_icmp .ge 43, 3) := by decide +kernel
theorem dX1_put_9 : decode prog_3_method_4_code 9 = .ok (.aload_n 0, 1) := by decide +kernel
theorem dX1_put_10 : decode prog_3_method_4_code 10 = .ok (.getfield 9, 3) := by decide +kernel
theorem dX1_put_13 : decode prog_3_method_4_code 13 = .ok (.aload_n 0, 1) := by decide +kernel
theorem dX1_put_14 : decode prog_3_method_4_code 14 = .ok (.getfield 19, 3) := by decide +kernel
theorem dX1_put_17 : decode prog_3_method_4_code 17 = .ok (.iload_n 1, 1) := by decide +kernel
theorem dX1_put_18 : decode prog_3_method_4_code 18 = .ok (.iastore, 1) := by decide +kernel
theorem dX1_put_19 : decode prog_3_method_4_code 19 = .ok (.aload_n 0, 1) := by decide +kernel
theorem dX1_put_20 : decode prog_3_method_4_code 20 = .ok (.getfield 13, 3) := by decide +kernel
theorem dX1_put_23 : decode prog_3_method_4_code 23 = .ok (.aload_n 0, 1) := by decide +kernel
theorem dX1_put_24 : decode prog_3_method_4_code 24 = .ok (.getfield 19, 3) := by decide +kernel
theorem dX1_put_27 : decode prog_3_method_4_code 27 = .ok (.iload_n 2, 1) := by decide +kernel
theorem dX1_put_28 : decode prog_3_method_4_code 28 = .ok (.iastore, 1) := by decide +kernel
theorem dX1_put_29 : decode prog_3_method_4_code 29 = .ok (.aload_n 0, 1) := by decide +kernel
theorem dX1_put_30 : decode prog_3_method_4_code 30 = .ok (.getfield 16, 3) := by decide +kernel
theorem dX1_put_33 : decode prog_3_method_4_code 33 = .ok (.aload_n 0, 1) := by decide +kernel
theorem dX1_put_34 : decode prog_3_method_4_code 34 = .ok (.getfield 19, 3) := by decide +kernel
theorem dX1_put_37 : decode prog_3_method_4_code 37 = .ok (.iload_n 3, 1) := by decide +kernel
theorem dX1_put_38 : decode prog_3_method_4_code 38 = .ok (.iastore, 1) := by decide +kernel
theorem dX1_put_39 : decode prog_3_method_4_code 39 = .ok (.aload_n 0, 1) := by decide +kernel
theorem dX1_put_40 : decode prog_3_method_4_code 40 = .ok (.dup, 1) := by decide +kernel
theorem dX1_put_41 : decode prog_3_method_4_code 41 = .ok (.getfield 19, 3) := by decide +kernel
theorem dX1_put_44 : decode prog_3_method_4_code 44 = .ok (.iconst 1, 1) := by decide +kernel
theorem dX1_put_45 : decode prog_3_method_4_code 45 = .ok (.iadd, 1) := by decide +kernel
theorem dX1_put_46 : decode prog_3_method_4_code 46 = .ok (.putfield 19, 3) := by decide +kernel
theorem dX1_put_49 : decode prog_3_method_4_code 49 = .ok (.return_, 1) := by decide +kernel
def pX1_put_0 (N a0 : Nat) (G : mm_M) (x1 : Int32) (x2 : Int32) (x3 : Int32) : Option (mm_M × Unit) :=
  q_gI G a0 2 3 fun v1_1 =>
  if (6 : Int32) ≤ v1_1 then
    some (G, ())
  else
    q_gR G a0 2 0 fun r10_2 =>
    q_gI G a0 2 3 fun v14_3 =>
    q_nn r10_2 fun b18_4 =>
    q_sI G b18_4 101 v14_3 x1 fun G =>
    q_gR G a0 2 1 fun r20_5 =>
    q_gI G a0 2 3 fun v24_6 =>
    q_nn r20_5 fun b28_7 =>
    q_sI G b28_7 101 v24_6 x2 fun G =>
    q_gR G a0 2 2 fun r30_8 =>
    q_gI G a0 2 3 fun v34_9 =>
    q_nn r30_8 fun b38_10 =>
    q_sI G b38_10 101 v34_9 x3 fun G =>
    q_gI G a0 2 3 fun v41_11 =>
    q_pI G a0 2 3 (v41_11 + (1 : Int32)) fun G =>
    some (G, ())
set_option maxRecDepth 100000 in
set_option maxHeartbeats 4000000 in
theorem bX1_put_0 {p : Program} {l : Launch} {e : Env} {s : State} {m : MethodId} {args : Array Value} {below : List Frame} {meth : Method} {c : Code} {E : mm_E} {N a0 : Nat} {res : mm_M × Unit} (X : mm_X p s m args meth c prog_3_method_4_code 4 "XorOverlay$Entries" tw_T E) (hr : meth.sig.returnType = none) {G : mm_M} {H : Heap} {locs : List Loc} {ls : Array Slot} {x1 : Int32} {x2 : Int32} {x3 : Int32} (V : mm_V E s G H locs) (hl : lx_has ls 4 [(0, .inr (some a0)), (1, .inl x1), (2, .inl x2), (3, .inl x3)]) (hp : pX1_put_0 N a0 G x1 x2 x3 = some res) : W p l e rX1_put s m args below meth c H locs 0 0 (MQ below (mm_Qv E res.1) args s 0 0 (mm_A E)) (F0 m 0 ls []) := by
  have hx := X.1.1
  have hb := X.1.2.1
  unfold pX1_put_0 at hp
  refine x_aload_n X dX1_put_0 hl 0 rfl rfl ?_
  refine q_getI (ci := 1) X V inX1 rfl (by decide) rfl 3 (by decide) rfl (tw_1 200 rfl rfl) rfl dX1_put_1 hp (fun v1_1 hp => ?_)
  refine lv_bipush (v := (6 : Int32)) hx hb dX1_put_4 (by decide) ?_
  refine q_if hp (lv_icmp_ge (tgt := 49) hx hb dX1_put_6 (by decide)) (fun hp => ?_) (fun hp => ?_)
  · exact q_vret X V hr ⟨by decide, by decide⟩ dX1_put_49 hp
  · refine x_aload_n X dX1_put_9 hl 0 rfl rfl ?_
    refine q_getR (ci := 1) X V inX1 rfl (by decide) rfl 0 (by decide) rfl (tw_1 194 rfl rfl) rfl dX1_put_10 hp (fun r10_2 hp => ?_)
    refine x_aload_n X dX1_put_13 hl 0 rfl rfl ?_
    refine q_getI (ci := 1) X V inX1 rfl (by decide) rfl 3 (by decide) rfl (tw_1 200 rfl rfl) rfl dX1_put_14 hp (fun v14_3 hp => ?_)
    refine x_iload_n X dX1_put_17 hl 1 rfl rfl ?_
    obtain ⟨b18_4, e0, hp2⟩ := q_nn_of hp
    clear hp; subst e0; have hp := hp2; clear hp2
    refine q_iast X V dX1_put_18 hp (fun G H locs V hp => ?_)
    refine x_aload_n X dX1_put_19 hl 0 rfl rfl ?_
    refine q_getR (ci := 1) X V inX1 rfl (by decide) rfl 1 (by decide) rfl (tw_1 196 rfl rfl) rfl dX1_put_20 hp (fun r20_5 hp => ?_)
    refine x_aload_n X dX1_put_23 hl 0 rfl rfl ?_
    refine q_getI (ci := 1) X V inX1 rfl (by decide) rfl 3 (by decide) rfl (tw_1 200 rfl rfl) rfl dX1_put_24 hp (fun v24_6 hp => ?_)
    refine x_iload_n X dX1_put_27 hl 2 rfl rfl ?_
    obtain ⟨b28_7, e0, hp2⟩ := q_nn_of hp
    clear hp; subst e0; have hp := hp2; clear hp2
    refine q_iast X V dX1_put_28 hp (fun G H locs V hp => ?_)
    refine x_aload_n X dX1_put_29 hl 0 rfl rfl ?_
    refine q_getR (ci := 1) X V inX1 rfl (by decide) rfl 2 (by decide) rfl (tw_1 198 rfl rfl) rfl dX1_put_30 hp (fun r30_8 hp => ?_)
    refine x_aload_n X dX1_put_33 hl 0 rfl rfl ?_
    refine q_getI (ci := 1) X V inX1 rfl (by decide) rfl 3 (by decide) rfl (tw_1 200 rfl rfl) rfl dX1_put_34 hp (fun v34_9 hp => ?_)
    refine x_iload_n X dX1_put_37 hl 3 rfl rfl ?_
    obtain ⟨b38_10, e0, hp2⟩ := q_nn_of hp
    clear hp; subst e0; have hp := hp2; clear hp2
    refine q_iast X V dX1_put_38 hp (fun G H locs V hp => ?_)
    refine x_aload_n X dX1_put_39 hl 0 rfl rfl ?_
    refine lv_dup hx hb dX1_put_40 (va_rf_cat _) ?_
    refine q_getI (ci := 1) X V inX1 rfl (by decide) rfl 3 (by decide) rfl (tw_1 200 rfl rfl) rfl dX1_put_41 hp (fun v41_11 hp => ?_)
    refine lv_iconst (v := (1 : Int32)) hx hb dX1_put_44 (by decide) ?_
    refine lv_iadd hx hb dX1_put_45 ?_
    refine q_putI (ci := 1) X V inX1 rfl tyX1 tyX1_ok nmX1 (by decide) rfl 3 (by decide) rfl (tw_1 200 rfl rfl) rfl (Or.inl rfl) .int rfl rfl rfl dX1_put_46 hp (fun G H locs V hp => ?_)
    exact q_vret X V hr ⟨by decide, by decide⟩ dX1_put_49 hp
theorem cX1_put (l : Launch) (E : mm_E) {N a0 : Nat} {G : mm_M} {x1 : Int32} {x2 : Int32} {x3 : Int32} {res : mm_M × Unit} (hp : pX1_put_0 N a0 G x1 x2 x3 = some res) : Met l yX1_put (Cond.code yX1_put prog_3_method_4_code 4 none :: tw_T) rX1_put (mm_Pc E G [.ref a0, .int x1, .int x2, .int x3]) (mm_Qv E res.1) 0 0 (mm_A E) :=
  mm_met (own := "XorOverlay$Entries") E G [.inr (some a0), .inl x1, .inl x2, .inl x3] (by decide) rfl rfl (Nat.le_of_ble_eq_true rfl) (fun p e s m args below meth c ls X hr hi V hl => bX1_put_0 X hr V hl hp)
abbrev yX1_removeEnded : MethodName := ⟨"XorOverlay$Entries", "removeEnded", "(I)V"⟩
abbrev rX1_removeEnded : Room := { frames := 1, cells := 0, slots := 0, locals := 23 }
theorem kX1_removeEnded : Cond.code yX1_removeEnded prog_3_method_3_code 4 none ∈ tw_T ∧ Cond.instanceMethod yX1_removeEnded ∈ tw_T ∧ Cond.selects "XorOverlay$Entries" yX1_removeEnded yX1_removeEnded ∈ tw_T ∧ Cond.initialized "XorOverlay$Entries" ∈ tw_T := ⟨(tw_2 139 rfl rfl), (tw_2 137 rfl rfl), (tw_2 138 rfl rfl), (tw_1 8 rfl rfl)⟩
theorem hX1_removeEnded : yX1_removeEnded.cls = "XorOverlay$Entries" ∧ yX1_removeEnded.cls ≠ "java/lang/invoke/MethodHandle" ∧ yX1_removeEnded.cls ≠ "java/lang/invoke/VarHandle" ∧ (parseMethodDescriptor yX1_removeEnded.desc).map (fun d => d.parameters.length) = some 1 := by decide +kernel
theorem dX1_removeEnded_0 : decode prog_3_method_3_code 0 = .ok (.aload_n 0, 1) := by decide +kernel
theorem dX1_removeEnded_1 : decode prog_3_method_3_code 1 = .ok (.getfield 19, 3) := by decide +kernel
theorem dX1_removeEnded_4 : decode prog_3_method_3_code 4 = .ok (.istore_n 2, 1) := by decide +kernel
theorem dX1_removeEnded_5 : decode prog_3_method_3_code 5 = .ok (.aload_n 0, 1) := by decide +kernel
theorem dX1_removeEnded_6 : decode prog_3_method_3_code 6 = .ok (.iconst 0, 1) := by decide +kernel
theorem dX1_removeEnded_7 : decode prog_3_method_3_code 7 = .ok (.putfield 19, 3) := by decide +kernel
theorem dX1_removeEnded_10 : decode prog_3_method_3_code 10 = .ok (.iconst 0, 1) := by decide +kernel
theorem dX1_removeEnded_11 : decode prog_3_method_3_code 11 = .ok (.istore_n 3, 1) := by decide +kernel
theorem dX1_removeEnded_12 : decode prog_3_method_3_code 12 = .ok (.iload_n 3, 1) := by decide +kernel
theorem dX1_removeEnded_13 : decode prog_3_method_3_code 13 = .ok (.iload_n 2, 1) := by decide +kernel
theorem dX1_removeEnded_14 : decode prog_3_method_3_code 14 = .ok (.if_icmp .ge 41, 3) := by decide +kernel
theorem dX1_removeEnded_17 : decode prog_3_method_3_code 17 = .ok (.aload_n 0, 1) := by decide +kernel
theorem dX1_removeEnded_18 : decode prog_3_method_3_code 18 = .ok (.getfield 16, 3) := by decide +kernel
theorem dX1_removeEnded_21 : decode prog_3_method_3_code 21 = .ok (.iload_n 3, 1) := by decide +kernel
theorem dX1_removeEnded_22 : decode prog_3_method_3_code 22 = .ok (.iaload, 1) := by decide +kernel
theorem dX1_removeEnded_23 : decode prog_3_method_3_code 23 = .ok (.iload_n 1, 1) := by decide +kernel
theorem dX1_removeEnded_24 : decode prog_3_method_3_code 24 = .ok (.if_icmp .le 25, 3) := by decide +kernel
theorem dX1_removeEnded_27 : decode prog_3_method_3_code 27 = .ok (.aload_n 0, 1) := by decide +kernel
theorem dX1_removeEnded_28 : decode prog_3_method_3_code 28 = .ok (.aload_n 0, 1) := by decide +kernel
theorem dX1_removeEnded_29 : decode prog_3_method_3_code 29 = .ok (.getfield 9, 3) := by decide +kernel
theorem dX1_removeEnded_32 : decode prog_3_method_3_code 32 = .ok (.iload_n 3, 1) := by decide +kernel
theorem dX1_removeEnded_33 : decode prog_3_method_3_code 33 = .ok (.iaload, 1) := by decide +kernel
theorem dX1_removeEnded_34 : decode prog_3_method_3_code 34 = .ok (.aload_n 0, 1) := by decide +kernel
theorem dX1_removeEnded_35 : decode prog_3_method_3_code 35 = .ok (.getfield 13, 3) := by decide +kernel
theorem dX1_removeEnded_38 : decode prog_3_method_3_code 38 = .ok (.iload_n 3, 1) := by decide +kernel
theorem dX1_removeEnded_39 : decode prog_3_method_3_code 39 = .ok (.iaload, 1) := by decide +kernel
theorem dX1_removeEnded_40 : decode prog_3_method_3_code 40 = .ok (.aload_n 0, 1) := by decide +kernel
theorem dX1_removeEnded_41 : decode prog_3_method_3_code 41 = .ok (.getfield 16, 3) := by decide +kernel
theorem dX1_removeEnded_44 : decode prog_3_method_3_code 44 = .ok (.iload_n 3, 1) := by decide +kernel
theorem dX1_removeEnded_45 : decode prog_3_method_3_code 45 = .ok (.iaload, 1) := by decide +kernel
theorem dX1_removeEnded_46 : decode prog_3_method_3_code 46 = .ok (.invokevirtual 23, 3) := by decide +kernel
theorem dX1_removeEnded_49 : decode prog_3_method_3_code 49 = .ok (.iinc 3 1, 3) := by decide +kernel
theorem dX1_removeEnded_52 : decode prog_3_method_3_code 52 = .ok (.goto (-40), 3) := by decide +kernel
theorem dX1_removeEnded_55 : decode prog_3_method_3_code 55 = .ok (.return_, 1) := by decide +kernel
def pX1_removeEnded_12_b (N a0 : Nat) (kb : mm_M → Int32 → Int32 → Int32 → Option (mm_M × Unit)) (kx : mm_M → Option (mm_M × Unit)) (G : mm_M) (x1 : Int32) (x2 : Int32) (x3 : Int32) : Option (mm_M × Unit) :=
  if x2 ≤ x3 then
    kx G
  else
    q_gR G a0 2 2 fun r18_2 =>
    q_nn r18_2 fun b22_3 =>
    q_aI G b22_3 101 x3 fun v22_4 =>
    if v22_4 ≤ x1 then
      kb G x1 x2 (x3 + (1 : Int32))
    else
      q_gR G a0 2 0 fun r29_5 =>
      q_nn r29_5 fun b33_6 =>
      q_aI G b33_6 101 x3 fun v33_7 =>
      q_gR G a0 2 1 fun r35_8 =>
      q_nn r35_8 fun b39_9 =>
      q_aI G b39_9 101 x3 fun v39_10 =>
      q_gR G a0 2 2 fun r41_11 =>
      q_nn r41_11 fun b45_12 =>
      q_aI G b45_12 101 x3 fun v45_13 =>
      q_is G a0 2 <|
      q_cl (pX1_put_0 N a0 G v33_7 v39_10 v45_13) fun G _ =>
      kb G x1 x2 (x3 + (1 : Int32))
def pX1_removeEnded_12 (N a0 : Nat) (kx : mm_M → Option (mm_M × Unit)) : Nat → mm_M → Int32 → Int32 → Int32 → Option (mm_M × Unit)
  | 0 => fun _ _ _ _ => none
  | n + 1 => pX1_removeEnded_12_b N a0 (pX1_removeEnded_12 N a0 kx n) kx
set_option maxRecDepth 100000 in
set_option maxHeartbeats 4000000 in
theorem bX1_removeEnded_12 {p : Program} {l : Launch} {e : Env} {s : State} {m : MethodId} {args : Array Value} {below : List Frame} {meth : Method} {c : Code} {E : mm_E} {N a0 : Nat} {res : mm_M × Unit} (X : mm_X p s m args meth c prog_3_method_3_code 4 "XorOverlay$Entries" tw_T E) (hr : meth.sig.returnType = none) {kx : mm_M → Option (mm_M × Unit)} (hkx : ∀ (G : mm_M) (H : Heap) (locs : List Loc) (ls : Array Slot), mm_V E s G H locs → lx_has ls 4 [(0, .inr (some a0))] → kx G = some res → W p l e rX1_removeEnded s m args below meth c H locs 0 0 (MQ below (mm_Qv E res.1) args s 0 0 (mm_A E)) (F0 m 55 ls [])) :
    ∀ (n : Nat) (G : mm_M) (H : Heap) (locs : List Loc) (ls : Array Slot) (x1 : Int32) (x2 : Int32) (x3 : Int32), mm_V E s G H locs → lx_has ls 4 [(0, .inr (some a0)), (1, .inl x1), (2, .inl x2), (3, .inl x3)] → pX1_removeEnded_12 N a0 kx n G x1 x2 x3 = some res → W p l e rX1_removeEnded s m args below meth c H locs 0 0 (MQ below (mm_Qv E res.1) args s 0 0 (mm_A E)) (F0 m 12 ls []) := by
  have hx := X.1.1
  have hb := X.1.2.1
  intro n
  induction n with
  | zero =>
    intro G H locs ls x1 x2 x3 V hl hp
    cases hp
  | succ n ih =>
    intro G H locs ls x1 x2 x3 V hl hp
    have hp : pX1_removeEnded_12_b N a0 (pX1_removeEnded_12 N a0 kx n) kx G x1 x2 x3 = some res := hp
    unfold pX1_removeEnded_12_b at hp
    refine x_iload_n X dX1_removeEnded_12 hl 3 rfl rfl ?_
    refine x_iload_n X dX1_removeEnded_13 hl 2 rfl rfl ?_
    refine q_if hp (lv_icmp_ge (tgt := 55) hx hb dX1_removeEnded_14 (by decide)) (fun hp => ?_) (fun hp => ?_)
    · exact hkx _ _ _ _ V (lx_sub hl [0] rfl) hp
    · refine x_aload_n X dX1_removeEnded_17 hl 0 rfl rfl ?_
      refine q_getR (ci := 1) X V inX1 rfl (by decide) rfl 2 (by decide) rfl (tw_1 198 rfl rfl) rfl dX1_removeEnded_18 hp (fun r18_2 hp => ?_)
      refine x_iload_n X dX1_removeEnded_21 hl 3 rfl rfl ?_
      obtain ⟨b22_3, e0, hp2⟩ := q_nn_of hp
      clear hp; subst e0; have hp := hp2; clear hp2
      refine q_iald X V dX1_removeEnded_22 hp (fun v22_4 hp => ?_)
      refine x_iload_n X dX1_removeEnded_23 hl 1 rfl rfl ?_
      refine q_if hp (lv_icmp_le (tgt := 49) hx hb dX1_removeEnded_24 (by decide)) (fun hp => ?_) (fun hp => ?_)
      · refine x_iinc (v := (1 : Int32)) (lst' := [(3, .inl (x3 + (1 : Int32))), (0, .inr (some a0)), (1, .inl x1), (2, .inl x2)]) X dX1_removeEnded_49 hl 3 rfl (by decide) (by decide) rfl (fun ls hl => ?_)
        refine lv_goto (tgt := 12) hx hb dX1_removeEnded_52 (by decide) ?_
        exact ih _ _ _ _ _ _ _ V (lx_sub hl [1, 2, 3, 0] rfl) hp
      · refine x_aload_n X dX1_removeEnded_27 hl 0 rfl rfl ?_
        refine x_aload_n X dX1_removeEnded_28 hl 0 rfl rfl ?_
        refine q_getR (ci := 1) X V inX1 rfl (by decide) rfl 0 (by decide) rfl (tw_1 194 rfl rfl) rfl dX1_removeEnded_29 hp (fun r29_5 hp => ?_)
        refine x_iload_n X dX1_removeEnded_32 hl 3 rfl rfl ?_
        obtain ⟨b33_6, e0, hp2⟩ := q_nn_of hp
        clear hp; subst e0; have hp := hp2; clear hp2
        refine q_iald X V dX1_removeEnded_33 hp (fun v33_7 hp => ?_)
        refine x_aload_n X dX1_removeEnded_34 hl 0 rfl rfl ?_
        refine q_getR (ci := 1) X V inX1 rfl (by decide) rfl 1 (by decide) rfl (tw_1 196 rfl rfl) rfl dX1_removeEnded_35 hp (fun r35_8 hp => ?_)
        refine x_iload_n X dX1_removeEnded_38 hl 3 rfl rfl ?_
        obtain ⟨b39_9, e0, hp2⟩ := q_nn_of hp
        clear hp; subst e0; have hp := hp2; clear hp2
        refine q_iald X V dX1_removeEnded_39 hp (fun v39_10 hp => ?_)
        refine x_aload_n X dX1_removeEnded_40 hl 0 rfl rfl ?_
        refine q_getR (ci := 1) X V inX1 rfl (by decide) rfl 2 (by decide) rfl (tw_1 198 rfl rfl) rfl dX1_removeEnded_41 hp (fun r41_11 hp => ?_)
        refine x_iload_n X dX1_removeEnded_44 hl 3 rfl rfl ?_
        obtain ⟨b45_12, e0, hp2⟩ := q_nn_of hp
        clear hp; subst e0; have hp := hp2; clear hp2
        refine q_iald X V dX1_removeEnded_45 hp (fun v45_13 hp => ?_)
        obtain ⟨hk, hp⟩ := q_is_of hp
        obtain ⟨⟨G, u⟩, hq, hp⟩ := q_cl_of hp
        dsimp only at hp
        refine q_gov (cells' := 0) (slots' := 0) (va_runV (As := [.int v33_7, .int v39_10, .int v45_13]) (rest := []) X.1 (cX1_put l E hq) (tw_cwV 3 X.1.2.2.2.2 (tw_2 140 rfl rfl) kX1_put.2.1 kX1_put.2.2.1 kX1_put.2.2.2 kX1_put.1 rfl rfl hX1_put ⟨Nat.le_of_ble_eq_true rfl, Nat.le_of_ble_eq_true rfl⟩) (mm_preV X V rfl (by decide) rfl hk) rfl rfl hl.1 rfl (lv_room (Nat.le_of_ble_eq_true rfl)) dX1_removeEnded_46 ⟨by decide, by decide⟩) V ⟨rfl, rfl⟩ (fun H locs V => ?_)
        refine x_iinc (v := (1 : Int32)) (lst' := [(3, .inl (x3 + (1 : Int32))), (0, .inr (some a0)), (1, .inl x1), (2, .inl x2)]) X dX1_removeEnded_49 hl 3 rfl (by decide) (by decide) rfl (fun ls hl => ?_)
        refine lv_goto (tgt := 12) hx hb dX1_removeEnded_52 (by decide) ?_
        exact ih _ _ _ _ _ _ _ V (lx_sub hl [1, 2, 3, 0] rfl) hp
def pX1_removeEnded_0 (N a0 : Nat) (G : mm_M) (x1 : Int32) : Option (mm_M × Unit) :=
  q_gI G a0 2 3 fun v1_1 =>
  q_pI G a0 2 3 (0 : Int32) fun G =>
  pX1_removeEnded_12 N a0 (fun (G : mm_M) =>
    some (G, ())) N G x1 v1_1 (0 : Int32)
set_option maxRecDepth 100000 in
set_option maxHeartbeats 4000000 in
theorem bX1_removeEnded_0 {p : Program} {l : Launch} {e : Env} {s : State} {m : MethodId} {args : Array Value} {below : List Frame} {meth : Method} {c : Code} {E : mm_E} {N a0 : Nat} {res : mm_M × Unit} (X : mm_X p s m args meth c prog_3_method_3_code 4 "XorOverlay$Entries" tw_T E) (hr : meth.sig.returnType = none) {G : mm_M} {H : Heap} {locs : List Loc} {ls : Array Slot} {x1 : Int32} (V : mm_V E s G H locs) (hl : lx_has ls 4 [(0, .inr (some a0)), (1, .inl x1)]) (hp : pX1_removeEnded_0 N a0 G x1 = some res) : W p l e rX1_removeEnded s m args below meth c H locs 0 0 (MQ below (mm_Qv E res.1) args s 0 0 (mm_A E)) (F0 m 0 ls []) := by
  have hx := X.1.1
  have hb := X.1.2.1
  unfold pX1_removeEnded_0 at hp
  refine x_aload_n X dX1_removeEnded_0 hl 0 rfl rfl ?_
  refine q_getI (ci := 1) X V inX1 rfl (by decide) rfl 3 (by decide) rfl (tw_1 200 rfl rfl) rfl dX1_removeEnded_1 hp (fun v1_1 hp => ?_)
  refine x_istore_n (lst' := [(2, .inl v1_1), (0, .inr (some a0)), (1, .inl x1)]) X dX1_removeEnded_4 hl rfl (by decide) rfl (fun ls hl => ?_)
  refine x_aload_n X dX1_removeEnded_5 hl 1 rfl rfl ?_
  refine lv_iconst (v := (0 : Int32)) hx hb dX1_removeEnded_6 (by decide) ?_
  refine q_putI (ci := 1) X V inX1 rfl tyX1 tyX1_ok nmX1 (by decide) rfl 3 (by decide) rfl (tw_1 200 rfl rfl) rfl (Or.inl rfl) .int rfl rfl rfl dX1_removeEnded_7 hp (fun G H locs V hp => ?_)
  refine lv_iconst (v := (0 : Int32)) hx hb dX1_removeEnded_10 (by decide) ?_
  refine x_istore_n (lst' := [(3, .inl (0 : Int32)), (2, .inl v1_1), (0, .inr (some a0)), (1, .inl x1)]) X dX1_removeEnded_11 hl rfl (by decide) rfl (fun ls hl => ?_)
  refine bX1_removeEnded_12 X hr (fun G H locs ls V hl hp => ?_) _ _ _ _ _ _ _ _ V (lx_sub hl [2, 3, 1, 0] rfl) hp
  exact q_vret X V hr ⟨by decide, by decide⟩ dX1_removeEnded_55 hp
theorem cX1_removeEnded (l : Launch) (E : mm_E) {N a0 : Nat} {G : mm_M} {x1 : Int32} {res : mm_M × Unit} (hp : pX1_removeEnded_0 N a0 G x1 = some res) : Met l yX1_removeEnded (Cond.code yX1_removeEnded prog_3_method_3_code 4 none :: tw_T) rX1_removeEnded (mm_Pc E G [.ref a0, .int x1]) (mm_Qv E res.1) 0 0 (mm_A E) :=
  mm_met (own := "XorOverlay$Entries") E G [.inr (some a0), .inl x1] (by decide) rfl rfl (Nat.le_of_ble_eq_true rfl) (fun p e s m args below meth c ls X hr hi V hl => bX1_removeEnded_0 X hr V hl hp)
abbrev yX5_addMiss : MethodName := ⟨"XorOverlay$Table", "addMiss", "(I)V"⟩
abbrev rX5_addMiss : Room := { frames := 1, cells := 0, slots := 0, locals := 22 }
theorem kX5_addMiss : Cond.code yX5_addMiss prog_7_method_5_code 4 none ∈ tw_T ∧ Cond.instanceMethod yX5_addMiss ∈ tw_T ∧ Cond.selects "XorOverlay$Table" yX5_addMiss yX5_addMiss ∈ tw_T ∧ Cond.initialized "XorOverlay$Table" ∈ tw_T := ⟨(tw_2 151 rfl rfl), (tw_2 149 rfl rfl), (tw_2 150 rfl rfl), (tw_1 5 rfl rfl)⟩
theorem hX5_addMiss : yX5_addMiss.cls = "XorOverlay$Table" ∧ yX5_addMiss.cls ≠ "java/lang/invoke/MethodHandle" ∧ yX5_addMiss.cls ≠ "java/lang/invoke/VarHandle" ∧ (parseMethodDescriptor yX5_addMiss.desc).map (fun d => d.parameters.length) = some 1 := by decide +kernel
theorem dX5_addMiss_0 : decode prog_7_method_5_code 0 = .ok (.aload_n 0, 1) := by decide +kernel
theorem dX5_addMiss_1 : decode prog_7_method_5_code 1 = .ok (.getfield 17, 3) := by decide +kernel
theorem dX5_addMiss_4 : decode prog_7_method_5_code 4 = .ok (.aload_n 0, 1) := by decide +kernel
theorem dX5_addMiss_5 : decode prog_7_method_5_code 5 = .ok (.iload_n 1, 1) := by decide +kernel
theorem dX5_addMiss_6 : decode prog_7_method_5_code 6 = .ok (.invokevirtual 29, 3) := by decide +kernel
theorem dX5_addMiss_9 : decode prog_7_method_5_code 9 = .ok (.aaload, 1) := by decide +kernel
theorem dX5_addMiss_10 : decode prog_7_method_5_code 10 = .ok (.astore_n 2, 1) := by decide +kernel
theorem dX5_addMiss_11 : decode prog_7_method_5_code 11 = .ok (.aload_n 2, 1) := by decide +kernel
theorem dX5_addMiss_12 : decode prog_7_method_5_code 12 = .ok (.iload_n 1, 1) := by decide +kernel
theorem dX5_addMiss_13 : decode prog_7_method_5_code 13 = .ok (.invokevirtual 33, 3) := by decide +kernel
theorem dX5_addMiss_16 : decode prog_7_method_5_code 16 = .ok (.istore_n 3, 1) := by decide +kernel
theorem dX5_addMiss_17 : decode prog_7_method_5_code 17 = .ok (.iload_n 3, 1) := by decide +kernel
theorem dX5_addMiss_18 : decode prog_7_method_5_code 18 = .ok (.iconst (-1), 1) := by decide +kernel
theorem dX5_addMiss_19 : decode prog_7_method_5_code 19 = .ok (.if_icmp .eq 13, 3) := by decide +kernel
theorem dX5_addMiss_22 : decode prog_7_method_5_code 22 = .ok (.aload_n 2, 1) := by decide +kernel
theorem dX5_addMiss_23 : decode prog_7_method_5_code 23 = .ok (.getfield 58, 3) := by decide +kernel
theorem dX5_addMiss_26 : decode prog_7_method_5_code 26 = .ok (.iload_n 3, 1) := by decide +kernel
theorem dX5_addMiss_27 : decode prog_7_method_5_code 27 = .ok (.dup2, 1) := by decide +kernel
theorem dX5_addMiss_28 : decode prog_7_method_5_code 28 = .ok (.iaload, 1) := by decide +kernel
theorem dX5_addMiss_29 : decode prog_7_method_5_code 29 = .ok (.iconst 1, 1) := by decide +kernel
theorem dX5_addMiss_30 : decode prog_7_method_5_code 30 = .ok (.iadd, 1) := by decide +kernel
theorem dX5_addMiss_31 : decode prog_7_method_5_code 31 = .ok (.iastore, 1) := by decide +kernel
theorem dX5_addMiss_32 : decode prog_7_method_5_code 32 = .ok (.return_, 1) := by decide +kernel
def pX5_addMiss_0 (N a0 : Nat) (G : mm_M) (x1 : Int32) : Option (mm_M × Unit) :=
  q_gR G a0 6 1 fun r1_1 =>
  q_is G a0 6 <|
  q_cl (pX5_rangeOf_0 N a0 G x1) fun G v6_3 =>
  q_nn r1_1 fun b9_4 =>
  q_aR G b9_4 104 v6_3 fun r9_5 =>
  q_nn r9_5 fun b13_6 =>
  q_is G b13_6 1 <|
  q_cl (pX0_placeOf_0 N b13_6 G x1) fun G v13_8 =>
  if v13_8 = (-1 : Int32) then
    some (G, ())
  else
    q_gR G b13_6 1 1 fun r23_9 =>
    q_nn r23_9 fun b28_10 =>
    q_aI G b28_10 101 v13_8 fun v28_11 =>
    q_sI G b28_10 101 v13_8 (v28_11 + (1 : Int32)) fun G =>
    some (G, ())
set_option maxRecDepth 100000 in
set_option maxHeartbeats 4000000 in
theorem bX5_addMiss_0 {p : Program} {l : Launch} {e : Env} {s : State} {m : MethodId} {args : Array Value} {below : List Frame} {meth : Method} {c : Code} {E : mm_E} {N a0 : Nat} {res : mm_M × Unit} (X : mm_X p s m args meth c prog_7_method_5_code 4 "XorOverlay$Table" tw_T E) (hr : meth.sig.returnType = none) {G : mm_M} {H : Heap} {locs : List Loc} {ls : Array Slot} {x1 : Int32} (V : mm_V E s G H locs) (hl : lx_has ls 4 [(0, .inr (some a0)), (1, .inl x1)]) (hp : pX5_addMiss_0 N a0 G x1 = some res) : W p l e rX5_addMiss s m args below meth c H locs 0 0 (MQ below (mm_Qv E res.1) args s 0 0 (mm_A E)) (F0 m 0 ls []) := by
  have hx := X.1.1
  have hb := X.1.2.1
  unfold pX5_addMiss_0 at hp
  refine x_aload_n X dX5_addMiss_0 hl 0 rfl rfl ?_
  refine q_getR (ci := 5) X V inX5 rfl (by decide) rfl 1 (by decide) rfl (tw_1 126 rfl rfl) rfl dX5_addMiss_1 hp (fun r1_1 hp => ?_)
  refine x_aload_n X dX5_addMiss_4 hl 0 rfl rfl ?_
  refine x_iload_n X dX5_addMiss_5 hl 1 rfl rfl ?_
  obtain ⟨hk, hp⟩ := q_is_of hp
  obtain ⟨⟨G, v6_3⟩, hq, hp⟩ := q_cl_of hp
  dsimp only at hp
  refine q_goi (cells' := 0) (slots' := 0) (va_runV (As := [.int x1]) (rest := [va_rf r1_1]) X.1 (cX5_rangeOf l E hq) (tw_cwV 1 X.1.2.2.2.2 (tw_2 13 rfl rfl) kX5_rangeOf.2.1 kX5_rangeOf.2.2.1 kX5_rangeOf.2.2.2 kX5_rangeOf.1 rfl rfl hX5_rangeOf ⟨Nat.le_of_ble_eq_true rfl, Nat.le_of_ble_eq_true rfl⟩) (mm_preV X V rfl (by decide) rfl hk) rfl rfl hl.1 rfl (lv_room (by simp [va_rf_cat, va_int_cat])) dX5_addMiss_6 ⟨by decide, by decide⟩) V ⟨rfl, rfl⟩ (fun H locs V => ?_)
  obtain ⟨b9_4, e0, hp2⟩ := q_nn_of hp
  clear hp; subst e0; have hp := hp2; clear hp2
  refine q_aldB X V dX5_addMiss_9 hp (fun r9_5 hp => ?_)
  refine x_astore_n (lst' := [(2, .inr r9_5), (0, .inr (some a0)), (1, .inl x1)]) X dX5_addMiss_10 hl rfl (by decide) rfl (fun ls hl => ?_)
  refine x_aload_n X dX5_addMiss_11 hl 0 rfl rfl ?_
  refine x_iload_n X dX5_addMiss_12 hl 2 rfl rfl ?_
  obtain ⟨b13_6, e0, hp2⟩ := q_nn_of hp
  clear hp; subst e0; have hp := hp2; clear hp2
  obtain ⟨hk, hp⟩ := q_is_of hp
  obtain ⟨⟨G, v13_8⟩, hq, hp⟩ := q_cl_of hp
  dsimp only at hp
  refine q_goi (cells' := 0) (slots' := 0) (va_runV (As := [.int x1]) (rest := []) X.1 (cX0_placeOf l E hq) (tw_cwV 1 X.1.2.2.2.2 (tw_2 17 rfl rfl) kX0_placeOf.2.1 kX0_placeOf.2.2.1 kX0_placeOf.2.2.2 kX0_placeOf.1 rfl rfl hX0_placeOf ⟨Nat.le_of_ble_eq_true rfl, Nat.le_of_ble_eq_true rfl⟩) (mm_preV X V rfl (by decide) rfl hk) rfl rfl hl.1 rfl (lv_room (Nat.le_of_ble_eq_true rfl)) dX5_addMiss_13 ⟨by decide, by decide⟩) V ⟨rfl, rfl⟩ (fun H locs V => ?_)
  refine x_istore_n (lst' := [(3, .inl v13_8), (2, .inr (some b13_6)), (0, .inr (some a0)), (1, .inl x1)]) X dX5_addMiss_16 hl rfl (by decide) rfl (fun ls hl => ?_)
  refine x_iload_n X dX5_addMiss_17 hl 0 rfl rfl ?_
  refine lv_iconst (v := (-1 : Int32)) hx hb dX5_addMiss_18 (by decide) ?_
  refine q_if hp (lv_icmp_eq (tgt := 32) hx hb dX5_addMiss_19 (by decide)) (fun hp => ?_) (fun hp => ?_)
  · exact q_vret X V hr ⟨by decide, by decide⟩ dX5_addMiss_32 hp
  · refine x_aload_n X dX5_addMiss_22 hl 1 rfl rfl ?_
    refine q_getR (ci := 0) X V inX0 rfl (by decide) rfl 1 (by decide) rfl (tw_1 99 rfl rfl) rfl dX5_addMiss_23 hp (fun r23_9 hp => ?_)
    refine x_iload_n X dX5_addMiss_26 hl 0 rfl rfl ?_
    refine lv_dup2_11 hx hb dX5_addMiss_27 rfl (va_rf_cat _) ?_
    obtain ⟨b28_10, e0, hp2⟩ := q_nn_of hp
    clear hp; subst e0; have hp := hp2; clear hp2
    refine q_iald X V dX5_addMiss_28 hp (fun v28_11 hp => ?_)
    refine lv_iconst (v := (1 : Int32)) hx hb dX5_addMiss_29 (by decide) ?_
    refine lv_iadd hx hb dX5_addMiss_30 ?_
    refine q_iast X V dX5_addMiss_31 hp (fun G H locs V hp => ?_)
    exact q_vret X V hr ⟨by decide, by decide⟩ dX5_addMiss_32 hp
theorem cX5_addMiss (l : Launch) (E : mm_E) {N a0 : Nat} {G : mm_M} {x1 : Int32} {res : mm_M × Unit} (hp : pX5_addMiss_0 N a0 G x1 = some res) : Met l yX5_addMiss (Cond.code yX5_addMiss prog_7_method_5_code 4 none :: tw_T) rX5_addMiss (mm_Pc E G [.ref a0, .int x1]) (mm_Qv E res.1) 0 0 (mm_A E) :=
  mm_met (own := "XorOverlay$Table") E G [.inr (some a0), .inl x1] (by decide) rfl rfl (Nat.le_of_ble_eq_true rfl) (fun p e s m args below meth c ls X hr hi V hl => bX5_addMiss_0 X hr V hl hp)
abbrev yX6_giveUpOnSilent : MethodName := ⟨"XorOverlay", "giveUpOnSilent", "(LXorOverlay$Peer;)I"⟩
abbrev rX6_giveUpOnSilent : Room := { frames := 4, cells := 0, slots := 0, locals := 99 }
theorem kX6_giveUpOnSilent : Cond.code yX6_giveUpOnSilent prog_1_method_36_code 5 (Option.some .int) ∈ tw_T ∧ Cond.instanceMethod yX6_giveUpOnSilent ∈ tw_T ∧ Cond.selects "XorOverlay" yX6_giveUpOnSilent yX6_giveUpOnSilent ∈ tw_T ∧ Cond.initialized "XorOverlay" ∈ tw_T := ⟨(tw_2 147 rfl rfl), (tw_2 146 rfl rfl), (tw_s 11 rfl rfl), (tw_1 1 rfl rfl)⟩
theorem hX6_giveUpOnSilent : yX6_giveUpOnSilent.cls = "XorOverlay" ∧ yX6_giveUpOnSilent.cls ≠ "java/lang/invoke/MethodHandle" ∧ yX6_giveUpOnSilent.cls ≠ "java/lang/invoke/VarHandle" ∧ (parseMethodDescriptor yX6_giveUpOnSilent.desc).map (fun d => d.parameters.length) = some 1 := by decide +kernel
theorem dX6_giveUpOnSilent_0 : decode prog_1_method_36_code 0 = .ok (.aload_n 1, 1) := by decide +kernel
theorem dX6_giveUpOnSilent_1 : decode prog_1_method_36_code 1 = .ok (.getfield 72, 3) := by decide +kernel
theorem dX6_giveUpOnSilent_4 : decode prog_1_method_36_code 4 = .ok (.astore_n 2, 1) := by decide +kernel
theorem dX6_giveUpOnSilent_5 : decode prog_1_method_36_code 5 = .ok (.aload_n 2, 1) := by decide +kernel
theorem dX6_giveUpOnSilent_6 : decode prog_1_method_36_code 6 = .ok (.invokevirtual 76, 3) := by decide +kernel
theorem dX6_giveUpOnSilent_9 : decode prog_1_method_36_code 9 = .ok (.ifCond .ne 5, 3) := by decide +kernel
theorem dX6_giveUpOnSilent_12 : decode prog_1_method_36_code 12 = .ok (.iconst 0, 1) := by decide +kernel
theorem dX6_giveUpOnSilent_13 : decode prog_1_method_36_code 13 = .ok (.ireturn, 1) := by decide +kernel
theorem dX6_giveUpOnSilent_14 : decode prog_1_method_36_code 14 = .ok (.iconst 0, 1) := by decide +kernel
theorem dX6_giveUpOnSilent_15 : decode prog_1_method_36_code 15 = .ok (.istore_n 3, 1) := by decide +kernel
theorem dX6_giveUpOnSilent_16 : decode prog_1_method_36_code 16 = .ok (.iconst 0, 1) := by decide +kernel
theorem dX6_giveUpOnSilent_17 : decode prog_1_method_36_code 17 = .ok (.istore 4, 2) := by decide +kernel
theorem dX6_giveUpOnSilent_19 : decode prog_1_method_36_code 19 = .ok (.iload 4, 2) := by decide +kernel
theorem dX6_giveUpOnSilent_21 : decode prog_1_method_36_code 21 = .ok (.aload_n 2, 1) := by decide +kernel
theorem dX6_giveUpOnSilent_22 : decode prog_1_method_36_code 22 = .ok (.getfield 236, 3) := by decide +kernel
theorem dX6_giveUpOnSilent_25 : decode prog_1_method_36_code 25 = .ok (.if_icmp .ge 61, 3) := by decide +kernel
theorem dX6_giveUpOnSilent_28 : decode prog_1_method_36_code 28 = .ok (.aload_n 2, 1) := by decide +kernel
theorem dX6_giveUpOnSilent_29 : decode prog_1_method_36_code 29 = .ok (.getfield 135, 3) := by decide +kernel
theorem dX6_giveUpOnSilent_32 : decode prog_1_method_36_code 32 = .ok (.iload 4, 2) := by decide +kernel
theorem dX6_giveUpOnSilent_34 : decode prog_1_method_36_code 34 = .ok (.iaload, 1) := by decide +kernel
theorem dX6_giveUpOnSilent_35 : decode prog_1_method_36_code 35 = .ok (.iconst 1, 1) := by decide +kernel
theorem dX6_giveUpOnSilent_36 : decode prog_1_method_36_code 36 = .ok (.if_icmp .ne 44, 3) := by decide +kernel
theorem dX6_giveUpOnSilent_39 : decode prog_1_method_36_code 39 = .ok (.aload_n 0, 1) := by decide +kernel
theorem dX6_giveUpOnSilent_40 : decode prog_1_method_36_code 40 = .ok (.getfield 33, 3) := by decide +kernel
theorem dX6_giveUpOnSilent_43 : decode prog_1_method_36_code 43 = .ok (.aload_n 2, 1) := by decide +kernel
theorem dX6_giveUpOnSilent_44 : decode prog_1_method_36_code 44 = .ok (.getfield 219, 3) := by decide +kernel
theorem dX6_giveUpOnSilent_47 : decode prog_1_method_36_code 47 = .ok (.iload 4, 2) := by decide +kernel
theorem dX6_giveUpOnSilent_49 : decode prog_1_method_36_code 49 = .ok (.iaload, 1) := by decide +kernel
theorem dX6_giveUpOnSilent_50 : decode prog_1_method_36_code 50 = .ok (.isub, 1) := by decide +kernel
theorem dX6_giveUpOnSilent_51 : decode prog_1_method_36_code 51 = .ok (.iconst 4, 1) := by decide +kernel
theorem dX6_giveUpOnSilent_52 : decode prog_1_method_36_code 52 = .ok (.if_icmp .lt 28, 3) := by decide +kernel
theorem dX6_giveUpOnSilent_55 : decode prog_1_method_36_code 55 = .ok (.aload_n 2, 1) := by decide +kernel
theorem dX6_giveUpOnSilent_56 : decode prog_1_method_36_code 56 = .ok (.getfield 135, 3) := by decide +kernel
theorem dX6_giveUpOnSilent_59 : decode prog_1_method_36_code 59 = .ok (.iload 4, 2) := by decide +kernel
theorem dX6_giveUpOnSilent_61 : decode prog_1_method_36_code 61 = .ok (.iconst 3, 1) := by decide +kernel
theorem dX6_giveUpOnSilent_62 : decode prog_1_method_36_code 62 = .ok (.iastore, 1) := by decide +kernel
theorem dX6_giveUpOnSilent_63 : decode prog_1_method_36_code 63 = .ok (.aload_n 1, 1) := by decide +kernel
theorem dX6_giveUpOnSilent_64 : decode prog_1_method_36_code 64 = .ok (.getfield 54, 3) := by decide +kernel
theorem dX6_giveUpOnSilent_67 : decode prog_1_method_36_code 67 = .ok (.aload_n 2, 1) := by decide +kernel
theorem dX6_giveUpOnSilent_68 : decode prog_1_method_36_code 68 = .ok (.getfield 132, 3) := by decide +kernel
theorem dX6_giveUpOnSilent_71 : decode prog_1_method_36_code 71 = .ok (.iload 4, 2) := by decide +kernel
theorem dX6_giveUpOnSilent_73 : decode prog_1_method_36_code 73 = .ok (.iaload, 1) := by decide +kernel
theorem dX6_giveUpOnSilent_74 : decode prog_1_method_36_code 74 = .ok (.invokevirtual 265, 3) := by decide +kernel
theorem dX6_giveUpOnSilent_77 : decode prog_1_method_36_code 77 = .ok (.iinc 3 1, 3) := by decide +kernel
theorem dX6_giveUpOnSilent_80 : decode prog_1_method_36_code 80 = .ok (.iinc 4 1, 3) := by decide +kernel
theorem dX6_giveUpOnSilent_83 : decode prog_1_method_36_code 83 = .ok (.goto (-64), 3) := by decide +kernel
theorem dX6_giveUpOnSilent_86 : decode prog_1_method_36_code 86 = .ok (.aload_n 0, 1) := by decide +kernel
theorem dX6_giveUpOnSilent_87 : decode prog_1_method_36_code 87 = .ok (.aload_n 1, 1) := by decide +kernel
theorem dX6_giveUpOnSilent_88 : decode prog_1_method_36_code 88 = .ok (.invokevirtual 199, 3) := by decide +kernel
theorem dX6_giveUpOnSilent_91 : decode prog_1_method_36_code 91 = .ok (.iload_n 3, 1) := by decide +kernel
theorem dX6_giveUpOnSilent_92 : decode prog_1_method_36_code 92 = .ok (.ireturn, 1) := by decide +kernel
def pX6_giveUpOnSilent_19_b (N a0 : Nat) (kb : mm_M → Option Nat → Option Nat → Int32 → Int32 → Option (mm_M × Int32)) (kx : mm_M → Option Nat → Int32 → Option (mm_M × Int32)) (G : mm_M) (x1 : Option Nat) (x2 : Option Nat) (x3 : Int32) (x4 : Int32) : Option (mm_M × Int32) :=
  q_nn x2 fun b22_6 =>
  q_gI G b22_6 4 9 fun v22_7 =>
  if v22_7 ≤ x4 then
    kx G x1 x3
  else
    q_gR G b22_6 4 1 fun r29_8 =>
    q_nn r29_8 fun b34_9 =>
    q_aI G b34_9 101 x4 fun v34_10 =>
    if v34_10 = (1 : Int32) then
      q_gI G a0 7 5 fun v40_11 =>
      q_gR G b22_6 4 2 fun r44_12 =>
      q_nn r44_12 fun b49_13 =>
      q_aI G b49_13 101 x4 fun v49_14 =>
      if (v40_11 - v49_14) < (4 : Int32) then
        kb G x1 (some b22_6) x3 (x4 + (1 : Int32))
      else
        q_gR G b22_6 4 1 fun r56_15 =>
        q_nn r56_15 fun b62_16 =>
        q_sI G b62_16 101 x4 (3 : Int32) fun G =>
        q_nn x1 fun b64_17 =>
        q_gR G b64_17 5 1 fun r64_18 =>
        q_gR G b22_6 4 0 fun r68_19 =>
        q_nn r68_19 fun b73_20 =>
        q_aI G b73_20 101 x4 fun v73_21 =>
        q_nn r64_18 fun b74_22 =>
        q_is G b74_22 6 <|
        q_cl (pX5_addMiss_0 N b74_22 G v73_21) fun G _ =>
        kb G (some b64_17) (some b22_6) (x3 + (1 : Int32)) (x4 + (1 : Int32))
    else
      kb G x1 (some b22_6) x3 (x4 + (1 : Int32))
def pX6_giveUpOnSilent_19 (N a0 : Nat) (kx : mm_M → Option Nat → Int32 → Option (mm_M × Int32)) : Nat → mm_M → Option Nat → Option Nat → Int32 → Int32 → Option (mm_M × Int32)
  | 0 => fun _ _ _ _ _ => none
  | n + 1 => pX6_giveUpOnSilent_19_b N a0 (pX6_giveUpOnSilent_19 N a0 kx n) kx
set_option maxRecDepth 100000 in
set_option maxHeartbeats 4000000 in
theorem bX6_giveUpOnSilent_19 {p : Program} {l : Launch} {e : Env} {s : State} {m : MethodId} {args : Array Value} {below : List Frame} {meth : Method} {c : Code} {E : mm_E} {N a0 : Nat} {res : mm_M × Int32} (X : mm_X p s m args meth c prog_1_method_36_code 5 "XorOverlay" tw_T E) (hr : meth.sig.returnType = (Option.some .int)) {kx : mm_M → Option Nat → Int32 → Option (mm_M × Int32)} (hkx : ∀ (G : mm_M) (H : Heap) (locs : List Loc) (ls : Array Slot) (x1 : Option Nat) (x3 : Int32), mm_V E s G H locs → lx_has ls 5 [(0, .inr (some a0)), (1, .inr x1), (3, .inl x3)] → kx G x1 x3 = some res → W p l e rX6_giveUpOnSilent s m args below meth c H locs 0 0 (MQ below (mm_Qi E res.1 res.2) args s 0 0 (mm_A E)) (F0 m 86 ls [])) :
    ∀ (n : Nat) (G : mm_M) (H : Heap) (locs : List Loc) (ls : Array Slot) (x1 : Option Nat) (x2 : Option Nat) (x3 : Int32) (x4 : Int32), mm_V E s G H locs → lx_has ls 5 [(0, .inr (some a0)), (1, .inr x1), (2, .inr x2), (3, .inl x3), (4, .inl x4)] → pX6_giveUpOnSilent_19 N a0 kx n G x1 x2 x3 x4 = some res → W p l e rX6_giveUpOnSilent s m args below meth c H locs 0 0 (MQ below (mm_Qi E res.1 res.2) args s 0 0 (mm_A E)) (F0 m 19 ls []) := by
  have hx := X.1.1
  have hb := X.1.2.1
  intro n
  induction n with
  | zero =>
    intro G H locs ls x1 x2 x3 x4 V hl hp
    cases hp
  | succ n ih =>
    intro G H locs ls x1 x2 x3 x4 V hl hp
    have hp : pX6_giveUpOnSilent_19_b N a0 (pX6_giveUpOnSilent_19 N a0 kx n) kx G x1 x2 x3 x4 = some res := hp
    unfold pX6_giveUpOnSilent_19_b at hp
    refine x_iload X dX6_giveUpOnSilent_19 hl 4 rfl ?_
    refine x_aload_n X dX6_giveUpOnSilent_21 hl 2 rfl rfl ?_
    obtain ⟨b22_6, e0, hp2⟩ := q_nn_of hp
    clear hp; subst e0; have hp := hp2; clear hp2
    refine q_getI (ci := 3) X V inX3 rfl (by decide) rfl 9 (by decide) rfl (tw_1 162 rfl rfl) rfl dX6_giveUpOnSilent_22 hp (fun v22_7 hp => ?_)
    refine q_if hp (lv_icmp_ge (tgt := 86) hx hb dX6_giveUpOnSilent_25 (by decide)) (fun hp => ?_) (fun hp => ?_)
    · exact hkx _ _ _ _ _ _ V (lx_sub hl [0, 1, 3] rfl) hp
    · refine x_aload_n X dX6_giveUpOnSilent_28 hl 2 rfl rfl ?_
      refine q_getR (ci := 3) X V inX3 rfl (by decide) rfl 1 (by decide) rfl (tw_1 146 rfl rfl) rfl dX6_giveUpOnSilent_29 hp (fun r29_8 hp => ?_)
      refine x_iload X dX6_giveUpOnSilent_32 hl 4 rfl ?_
      obtain ⟨b34_9, e0, hp2⟩ := q_nn_of hp
      clear hp; subst e0; have hp := hp2; clear hp2
      refine q_iald X V dX6_giveUpOnSilent_34 hp (fun v34_10 hp => ?_)
      refine lv_iconst (v := (1 : Int32)) hx hb dX6_giveUpOnSilent_35 (by decide) ?_
      refine q_ifn hp (lv_icmp_ne (tgt := 80) hx hb dX6_giveUpOnSilent_36 (by decide)) (fun hp => ?_) (fun hp => ?_)
      · refine x_iinc (v := (1 : Int32)) (lst' := [(4, .inl (x4 + (1 : Int32))), (0, .inr (some a0)), (1, .inr x1), (2, .inr (some b22_6)), (3, .inl x3)]) X dX6_giveUpOnSilent_80 hl 4 rfl (by decide) (by decide) rfl (fun ls hl => ?_)
        refine lv_goto (tgt := 19) hx hb dX6_giveUpOnSilent_83 (by decide) ?_
        exact ih _ _ _ _ _ _ _ _ V (lx_sub hl [1, 2, 3, 4, 0] rfl) hp
      · refine x_aload_n X dX6_giveUpOnSilent_39 hl 0 rfl rfl ?_
        refine q_getI (ci := 6) X V inX6 rfl (by decide) rfl 5 (by decide) rfl (tw_1 41 rfl rfl) rfl dX6_giveUpOnSilent_40 hp (fun v40_11 hp => ?_)
        refine x_aload_n X dX6_giveUpOnSilent_43 hl 2 rfl rfl ?_
        refine q_getR (ci := 3) X V inX3 rfl (by decide) rfl 2 (by decide) rfl (tw_1 148 rfl rfl) rfl dX6_giveUpOnSilent_44 hp (fun r44_12 hp => ?_)
        refine x_iload X dX6_giveUpOnSilent_47 hl 4 rfl ?_
        obtain ⟨b49_13, e0, hp2⟩ := q_nn_of hp
        clear hp; subst e0; have hp := hp2; clear hp2
        refine q_iald X V dX6_giveUpOnSilent_49 hp (fun v49_14 hp => ?_)
        refine lv_isub hx hb dX6_giveUpOnSilent_50 ?_
        refine lv_iconst (v := (4 : Int32)) hx hb dX6_giveUpOnSilent_51 (by decide) ?_
        refine q_if hp (lv_icmp_lt (tgt := 80) hx hb dX6_giveUpOnSilent_52 (by decide)) (fun hp => ?_) (fun hp => ?_)
        · refine x_iinc (v := (1 : Int32)) (lst' := [(4, .inl (x4 + (1 : Int32))), (0, .inr (some a0)), (1, .inr x1), (2, .inr (some b22_6)), (3, .inl x3)]) X dX6_giveUpOnSilent_80 hl 4 rfl (by decide) (by decide) rfl (fun ls hl => ?_)
          refine lv_goto (tgt := 19) hx hb dX6_giveUpOnSilent_83 (by decide) ?_
          exact ih _ _ _ _ _ _ _ _ V (lx_sub hl [1, 2, 3, 4, 0] rfl) hp
        · refine x_aload_n X dX6_giveUpOnSilent_55 hl 2 rfl rfl ?_
          refine q_getR (ci := 3) X V inX3 rfl (by decide) rfl 1 (by decide) rfl (tw_1 146 rfl rfl) rfl dX6_giveUpOnSilent_56 hp (fun r56_15 hp => ?_)
          refine x_iload X dX6_giveUpOnSilent_59 hl 4 rfl ?_
          refine lv_iconst (v := (3 : Int32)) hx hb dX6_giveUpOnSilent_61 (by decide) ?_
          obtain ⟨b62_16, e0, hp2⟩ := q_nn_of hp
          clear hp; subst e0; have hp := hp2; clear hp2
          refine q_iast X V dX6_giveUpOnSilent_62 hp (fun G H locs V hp => ?_)
          refine x_aload_n X dX6_giveUpOnSilent_63 hl 1 rfl rfl ?_
          obtain ⟨b64_17, e0, hp2⟩ := q_nn_of hp
          clear hp; subst e0; have hp := hp2; clear hp2
          refine q_getR (ci := 4) X V inX4 rfl (by decide) rfl 1 (by decide) rfl (tw_1 215 rfl rfl) rfl dX6_giveUpOnSilent_64 hp (fun r64_18 hp => ?_)
          refine x_aload_n X dX6_giveUpOnSilent_67 hl 2 rfl rfl ?_
          refine q_getR (ci := 3) X V inX3 rfl (by decide) rfl 0 (by decide) rfl (tw_1 144 rfl rfl) rfl dX6_giveUpOnSilent_68 hp (fun r68_19 hp => ?_)
          refine x_iload X dX6_giveUpOnSilent_71 hl 4 rfl ?_
          obtain ⟨b73_20, e0, hp2⟩ := q_nn_of hp
          clear hp; subst e0; have hp := hp2; clear hp2
          refine q_iald X V dX6_giveUpOnSilent_73 hp (fun v73_21 hp => ?_)
          obtain ⟨b74_22, e0, hp2⟩ := q_nn_of hp
          clear hp; subst e0; have hp := hp2; clear hp2
          obtain ⟨hk, hp⟩ := q_is_of hp
          obtain ⟨⟨G, u⟩, hq, hp⟩ := q_cl_of hp
          dsimp only at hp
          refine q_gov (cells' := 0) (slots' := 0) (va_runV (As := [.int v73_21]) (rest := []) X.1 (cX5_addMiss l E hq) (tw_cwV 1 X.1.2.2.2.2 (tw_2 148 rfl rfl) kX5_addMiss.2.1 kX5_addMiss.2.2.1 kX5_addMiss.2.2.2 kX5_addMiss.1 rfl rfl hX5_addMiss ⟨Nat.le_of_ble_eq_true rfl, Nat.le_of_ble_eq_true rfl⟩) (mm_preV X V rfl (by decide) rfl hk) rfl rfl hl.1 rfl (lv_room (Nat.le_of_ble_eq_true rfl)) dX6_giveUpOnSilent_74 ⟨by decide, by decide⟩) V ⟨rfl, rfl⟩ (fun H locs V => ?_)
          refine x_iinc (v := (1 : Int32)) (lst' := [(3, .inl (x3 + (1 : Int32))), (0, .inr (some a0)), (1, .inr (some b64_17)), (2, .inr (some b22_6)), (4, .inl x4)]) X dX6_giveUpOnSilent_77 hl 3 rfl (by decide) (by decide) rfl (fun ls hl => ?_)
          refine x_iinc (v := (1 : Int32)) (lst' := [(4, .inl (x4 + (1 : Int32))), (3, .inl (x3 + (1 : Int32))), (0, .inr (some a0)), (1, .inr (some b64_17)), (2, .inr (some b22_6))]) X dX6_giveUpOnSilent_80 hl 4 rfl (by decide) (by decide) rfl (fun ls hl => ?_)
          refine lv_goto (tgt := 19) hx hb dX6_giveUpOnSilent_83 (by decide) ?_
          exact ih _ _ _ _ _ _ _ _ V (lx_sub hl [2, 3, 4, 1, 0] rfl) hp
def pX6_giveUpOnSilent_0 (N a0 : Nat) (G : mm_M) (x1 : Option Nat) : Option (mm_M × Int32) :=
  q_nn x1 fun b1_1 =>
  q_gR G b1_1 5 2 fun r1_2 =>
  q_nn r1_2 fun b6_3 =>
  q_is G b6_3 4 <|
  q_cl (pX3_isRunning_0 N b6_3 G) fun G v6_5 =>
  if v6_5 = 0 then
    some (G, (0 : Int32))
  else
    pX6_giveUpOnSilent_19 N a0 (fun (G : mm_M) (x1 : Option Nat) (x3 : Int32) =>
      q_is G a0 7 <|
      q_cl (pX6_goOn_0 N a0 G x1) fun G _ =>
      some (G, x3)) N G (some b1_1) (some b6_3) (0 : Int32) (0 : Int32)
set_option maxRecDepth 100000 in
set_option maxHeartbeats 4000000 in
theorem bX6_giveUpOnSilent_0 {p : Program} {l : Launch} {e : Env} {s : State} {m : MethodId} {args : Array Value} {below : List Frame} {meth : Method} {c : Code} {E : mm_E} {N a0 : Nat} {res : mm_M × Int32} (X : mm_X p s m args meth c prog_1_method_36_code 5 "XorOverlay" tw_T E) (hr : meth.sig.returnType = (Option.some .int)) {G : mm_M} {H : Heap} {locs : List Loc} {ls : Array Slot} {x1 : Option Nat} (V : mm_V E s G H locs) (hl : lx_has ls 5 [(0, .inr (some a0)), (1, .inr x1)]) (hp : pX6_giveUpOnSilent_0 N a0 G x1 = some res) : W p l e rX6_giveUpOnSilent s m args below meth c H locs 0 0 (MQ below (mm_Qi E res.1 res.2) args s 0 0 (mm_A E)) (F0 m 0 ls []) := by
  have hx := X.1.1
  have hb := X.1.2.1
  unfold pX6_giveUpOnSilent_0 at hp
  refine x_aload_n X dX6_giveUpOnSilent_0 hl 1 rfl rfl ?_
  obtain ⟨b1_1, e0, hp2⟩ := q_nn_of hp
  clear hp; subst e0; have hp := hp2; clear hp2
  refine q_getR (ci := 4) X V inX4 rfl (by decide) rfl 2 (by decide) rfl (tw_1 217 rfl rfl) rfl dX6_giveUpOnSilent_1 hp (fun r1_2 hp => ?_)
  refine x_astore_n (lst' := [(2, .inr r1_2), (0, .inr (some a0)), (1, .inr (some b1_1))]) X dX6_giveUpOnSilent_4 hl rfl (by decide) rfl (fun ls hl => ?_)
  refine x_aload_n X dX6_giveUpOnSilent_5 hl 0 rfl rfl ?_
  obtain ⟨b6_3, e0, hp2⟩ := q_nn_of hp
  clear hp; subst e0; have hp := hp2; clear hp2
  obtain ⟨hk, hp⟩ := q_is_of hp
  obtain ⟨⟨G, v6_5⟩, hq, hp⟩ := q_cl_of hp
  dsimp only at hp
  refine q_goi (cells' := 0) (slots' := 0) (va_runV (As := []) (rest := []) X.1 (cX3_isRunning l E hq) (tw_cwV 0 X.1.2.2.2.2 (tw_2 120 rfl rfl) kX3_isRunning.2.1 kX3_isRunning.2.2.1 kX3_isRunning.2.2.2 kX3_isRunning.1 rfl rfl hX3_isRunning ⟨Nat.le_of_ble_eq_true rfl, Nat.le_of_ble_eq_true rfl⟩) (mm_preV X V rfl (by decide) rfl hk) rfl rfl hl.1 rfl (lv_room (Nat.le_of_ble_eq_true rfl)) dX6_giveUpOnSilent_6 ⟨by decide, by decide⟩) V ⟨rfl, rfl⟩ (fun H locs V => ?_)
  refine q_ifn hp (lv_if_ne (tgt := 14) hx hb dX6_giveUpOnSilent_9 (by decide)) (fun hp => ?_) (fun hp => ?_)
  · refine lv_iconst (v := (0 : Int32)) hx hb dX6_giveUpOnSilent_14 (by decide) ?_
    refine x_istore_n (lst' := [(3, .inl (0 : Int32)), (2, .inr (some b6_3)), (0, .inr (some a0)), (1, .inr (some b1_1))]) X dX6_giveUpOnSilent_15 hl rfl (by decide) rfl (fun ls hl => ?_)
    refine lv_iconst (v := (0 : Int32)) hx hb dX6_giveUpOnSilent_16 (by decide) ?_
    refine x_istore (lst' := [(4, .inl (0 : Int32)), (3, .inl (0 : Int32)), (2, .inr (some b6_3)), (0, .inr (some a0)), (1, .inr (some b1_1))]) X dX6_giveUpOnSilent_17 hl (by decide) rfl (fun ls hl => ?_)
    refine bX6_giveUpOnSilent_19 X hr (fun G H locs ls x1 x3 V hl hp => ?_) _ _ _ _ _ _ _ _ _ V (lx_sub hl [3, 4, 2, 1, 0] rfl) hp
    refine x_aload_n X dX6_giveUpOnSilent_86 hl 0 rfl rfl ?_
    refine x_aload_n X dX6_giveUpOnSilent_87 hl 1 rfl rfl ?_
    obtain ⟨hk, hp⟩ := q_is_of hp
    obtain ⟨⟨G, u⟩, hq, hp⟩ := q_cl_of hp
    dsimp only at hp
    refine q_gov (cells' := 0) (slots' := 0) (va_runV (As := [va_rf x1]) (rest := []) X.1 (cX6_goOn l E hq) (tw_cwV 1 X.1.2.2.2.2 (tw_2 77 rfl rfl) kX6_goOn.2.1 kX6_goOn.2.2.1 kX6_goOn.2.2.2 kX6_goOn.1 rfl rfl hX6_goOn ⟨Nat.le_of_ble_eq_true rfl, Nat.le_of_ble_eq_true rfl⟩) (mm_preV X V rfl (by decide) rfl hk) rfl rfl hl.1 rfl (lv_room (Nat.le_of_ble_eq_true rfl)) dX6_giveUpOnSilent_88 ⟨by decide, by decide⟩) V ⟨rfl, rfl⟩ (fun H locs V => ?_)
    refine x_iload_n X dX6_giveUpOnSilent_91 hl 2 rfl rfl ?_
    exact q_iret X V hr ⟨by decide, by decide⟩ dX6_giveUpOnSilent_92 hp
  · refine lv_iconst (v := (0 : Int32)) hx hb dX6_giveUpOnSilent_12 (by decide) ?_
    exact q_iret X V hr ⟨by decide, by decide⟩ dX6_giveUpOnSilent_13 hp
theorem cX6_giveUpOnSilent (l : Launch) (E : mm_E) {N a0 : Nat} {G : mm_M} {x1 : Option Nat} {res : mm_M × Int32} (hp : pX6_giveUpOnSilent_0 N a0 G x1 = some res) : Met l yX6_giveUpOnSilent (Cond.code yX6_giveUpOnSilent prog_1_method_36_code 5 (Option.some .int) :: tw_T) rX6_giveUpOnSilent (mm_Pc E G [.ref a0, va_rf x1]) (mm_Qi E res.1 res.2) 0 0 (mm_A E) :=
  mm_met (own := "XorOverlay") E G [.inr (some a0), .inr x1] (by decide) rfl rfl (Nat.le_of_ble_eq_true rfl) (fun p e s m args below meth c ls X hr hi V hl => bX6_giveUpOnSilent_0 X hr V hl hp)
abbrev yX6_tick : MethodName := ⟨"XorOverlay", "tick", "()I"⟩
abbrev rX6_tick : Room := { frames := 5, cells := 0, slots := 0, locals := 123 }
theorem kX6_tick : Cond.code yX6_tick prog_1_method_6_code 4 (Option.some .int) ∈ tw_T ∧ Cond.instanceMethod yX6_tick ∈ tw_T ∧ Cond.selects "XorOverlay" yX6_tick yX6_tick ∈ tw_T ∧ Cond.initialized "XorOverlay" ∈ tw_T := ⟨(tw_2 135 rfl rfl), (tw_2 133 rfl rfl), (tw_2 134 rfl rfl), (tw_1 1 rfl rfl)⟩
theorem hX6_tick : yX6_tick.cls = "XorOverlay" ∧ yX6_tick.cls ≠ "java/lang/invoke/MethodHandle" ∧ yX6_tick.cls ≠ "java/lang/invoke/VarHandle" ∧ (parseMethodDescriptor yX6_tick.desc).map (fun d => d.parameters.length) = some 0 := by decide +kernel
theorem dX6_tick_0 : decode prog_1_method_6_code 0 = .ok (.aload_n 0, 1) := by decide +kernel
theorem dX6_tick_1 : decode prog_1_method_6_code 1 = .ok (.dup, 1) := by decide +kernel
theorem dX6_tick_2 : decode prog_1_method_6_code 2 = .ok (.getfield 33, 3) := by decide +kernel
theorem dX6_tick_5 : decode prog_1_method_6_code 5 = .ok (.iconst 1, 1) := by decide +kernel
theorem dX6_tick_6 : decode prog_1_method_6_code 6 = .ok (.iadd, 1) := by decide +kernel
theorem dX6_tick_7 : decode prog_1_method_6_code 7 = .ok (.putfield 33, 3) := by decide +kernel
theorem dX6_tick_10 : decode prog_1_method_6_code 10 = .ok (.iconst 0, 1) := by decide +kernel
theorem dX6_tick_11 : decode prog_1_method_6_code 11 = .ok (.istore_n 1, 1) := by decide +kernel
theorem dX6_tick_12 : decode prog_1_method_6_code 12 = .ok (.iconst 0, 1) := by decide +kernel
theorem dX6_tick_13 : decode prog_1_method_6_code 13 = .ok (.istore_n 2, 1) := by decide +kernel
theorem dX6_tick_14 : decode prog_1_method_6_code 14 = .ok (.iload_n 2, 1) := by decide +kernel
theorem dX6_tick_15 : decode prog_1_method_6_code 15 = .ok (.aload_n 0, 1) := by decide +kernel
theorem dX6_tick_16 : decode prog_1_method_6_code 16 = .ok (.getfield 29, 3) := by decide +kernel
theorem dX6_tick_19 : decode prog_1_method_6_code 19 = .ok (.if_icmp .ge 46, 3) := by decide +kernel
theorem dX6_tick_22 : decode prog_1_method_6_code 22 = .ok (.aload_n 0, 1) := by decide +kernel
theorem dX6_tick_23 : decode prog_1_method_6_code 23 = .ok (.getfield 11, 3) := by decide +kernel
theorem dX6_tick_26 : decode prog_1_method_6_code 26 = .ok (.iload_n 2, 1) := by decide +kernel
theorem dX6_tick_27 : decode prog_1_method_6_code 27 = .ok (.aaload, 1) := by decide +kernel
theorem dX6_tick_28 : decode prog_1_method_6_code 28 = .ok (.astore_n 3, 1) := by decide +kernel
theorem dX6_tick_29 : decode prog_1_method_6_code 29 = .ok (.aload_n 3, 1) := by decide +kernel
theorem dX6_tick_30 : decode prog_1_method_6_code 30 = .ok (.ifnull 29, 3) := by decide +kernel
theorem dX6_tick_33 : decode prog_1_method_6_code 33 = .ok (.aload_n 3, 1) := by decide +kernel
theorem dX6_tick_34 : decode prog_1_method_6_code 34 = .ok (.getfield 68, 3) := by decide +kernel
theorem dX6_tick_37 : decode prog_1_method_6_code 37 = .ok (.ifCond .eq 22, 3) := by decide +kernel
theorem dX6_tick_40 : decode prog_1_method_6_code 40 = .ok (.aload_n 3, 1) := by decide +kernel
theorem dX6_tick_41 : decode prog_1_method_6_code 41 = .ok (.getfield 86, 3) := by decide +kernel
theorem dX6_tick_44 : decode prog_1_method_6_code 44 = .ok (.aload_n 0, 1) := by decide +kernel
theorem dX6_tick_45 : decode prog_1_method_6_code 45 = .ok (.getfield 33, 3) := by decide +kernel
theorem dX6_tick_48 : decode prog_1_method_6_code 48 = .ok (.invokevirtual 90, 3) := by decide +kernel
theorem dX6_tick_51 : decode prog_1_method_6_code 51 = .ok (.iload_n 1, 1) := by decide +kernel
theorem dX6_tick_52 : decode prog_1_method_6_code 52 = .ok (.aload_n 0, 1) := by decide +kernel
theorem dX6_tick_53 : decode prog_1_method_6_code 53 = .ok (.aload_n 3, 1) := by decide +kernel
theorem dX6_tick_54 : decode prog_1_method_6_code 54 = .ok (.invokevirtual 95, 3) := by decide +kernel
theorem dX6_tick_57 : decode prog_1_method_6_code 57 = .ok (.iadd, 1) := by decide +kernel
theorem dX6_tick_58 : decode prog_1_method_6_code 58 = .ok (.istore_n 1, 1) := by decide +kernel
theorem dX6_tick_59 : decode prog_1_method_6_code 59 = .ok (.iinc 2 1, 3) := by decide +kernel
theorem dX6_tick_62 : decode prog_1_method_6_code 62 = .ok (.goto (-48), 3) := by decide +kernel
theorem dX6_tick_65 : decode prog_1_method_6_code 65 = .ok (.iload_n 1, 1) := by decide +kernel
theorem dX6_tick_66 : decode prog_1_method_6_code 66 = .ok (.ireturn, 1) := by decide +kernel
def pX6_tick_14_b (N a0 : Nat) (kb : mm_M → Int32 → Int32 → Option (mm_M × Int32)) (kx : mm_M → Int32 → Option (mm_M × Int32)) (G : mm_M) (x1 : Int32) (x2 : Int32) : Option (mm_M × Int32) :=
  q_gI G a0 7 4 fun v16_2 =>
  if v16_2 ≤ x2 then
    kx G x1
  else
    q_gR G a0 7 0 fun r23_3 =>
    q_nn r23_3 fun b27_4 =>
    q_aR G b27_4 103 x2 fun r27_5 =>
    q_op r27_5 (
      kb G x1 (x2 + (1 : Int32))) fun b30_6 =>
    q_gI G b30_6 5 4 fun v34_7 =>
    if v34_7 = 0 then
      kb G x1 (x2 + (1 : Int32))
    else
      q_gR G b30_6 5 3 fun r41_8 =>
      q_gI G a0 7 5 fun v45_9 =>
      q_nn r41_8 fun b48_10 =>
      q_is G b48_10 2 <|
      q_cl (pX1_removeEnded_0 N b48_10 G v45_9) fun G _ =>
      q_is G a0 7 <|
      q_cl (pX6_giveUpOnSilent_0 N a0 G (some b30_6)) fun G v54_13 =>
      kb G (x1 + v54_13) (x2 + (1 : Int32))
def pX6_tick_14 (N a0 : Nat) (kx : mm_M → Int32 → Option (mm_M × Int32)) : Nat → mm_M → Int32 → Int32 → Option (mm_M × Int32)
  | 0 => fun _ _ _ => none
  | n + 1 => pX6_tick_14_b N a0 (pX6_tick_14 N a0 kx n) kx
set_option maxRecDepth 100000 in
set_option maxHeartbeats 4000000 in
theorem bX6_tick_14 {p : Program} {l : Launch} {e : Env} {s : State} {m : MethodId} {args : Array Value} {below : List Frame} {meth : Method} {c : Code} {E : mm_E} {N a0 : Nat} {res : mm_M × Int32} (X : mm_X p s m args meth c prog_1_method_6_code 4 "XorOverlay" tw_T E) (hr : meth.sig.returnType = (Option.some .int)) {kx : mm_M → Int32 → Option (mm_M × Int32)} (hkx : ∀ (G : mm_M) (H : Heap) (locs : List Loc) (ls : Array Slot) (x1 : Int32), mm_V E s G H locs → lx_has ls 4 [(0, .inr (some a0)), (1, .inl x1)] → kx G x1 = some res → W p l e rX6_tick s m args below meth c H locs 0 0 (MQ below (mm_Qi E res.1 res.2) args s 0 0 (mm_A E)) (F0 m 65 ls [])) :
    ∀ (n : Nat) (G : mm_M) (H : Heap) (locs : List Loc) (ls : Array Slot) (x1 : Int32) (x2 : Int32), mm_V E s G H locs → lx_has ls 4 [(0, .inr (some a0)), (1, .inl x1), (2, .inl x2)] → pX6_tick_14 N a0 kx n G x1 x2 = some res → W p l e rX6_tick s m args below meth c H locs 0 0 (MQ below (mm_Qi E res.1 res.2) args s 0 0 (mm_A E)) (F0 m 14 ls []) := by
  have hx := X.1.1
  have hb := X.1.2.1
  intro n
  induction n with
  | zero =>
    intro G H locs ls x1 x2 V hl hp
    cases hp
  | succ n ih =>
    intro G H locs ls x1 x2 V hl hp
    have hp : pX6_tick_14_b N a0 (pX6_tick_14 N a0 kx n) kx G x1 x2 = some res := hp
    unfold pX6_tick_14_b at hp
    refine x_iload_n X dX6_tick_14 hl 2 rfl rfl ?_
    refine x_aload_n X dX6_tick_15 hl 0 rfl rfl ?_
    refine q_getI (ci := 6) X V inX6 rfl (by decide) rfl 4 (by decide) rfl (tw_1 40 rfl rfl) rfl dX6_tick_16 hp (fun v16_2 hp => ?_)
    refine q_if hp (lv_icmp_ge (tgt := 65) hx hb dX6_tick_19 (by decide)) (fun hp => ?_) (fun hp => ?_)
    · exact hkx _ _ _ _ _ V (lx_sub hl [0, 1] rfl) hp
    · refine x_aload_n X dX6_tick_22 hl 0 rfl rfl ?_
      refine q_getR (ci := 6) X V inX6 rfl (by decide) rfl 0 (by decide) rfl (tw_1 36 rfl rfl) rfl dX6_tick_23 hp (fun r23_3 hp => ?_)
      refine x_iload_n X dX6_tick_26 hl 2 rfl rfl ?_
      obtain ⟨b27_4, e0, hp2⟩ := q_nn_of hp
      clear hp; subst e0; have hp := hp2; clear hp2
      refine q_aldP X V dX6_tick_27 hp (fun r27_5 hp => ?_)
      refine x_astore_n (lst' := [(3, .inr r27_5), (0, .inr (some a0)), (1, .inl x1), (2, .inl x2)]) X dX6_tick_28 hl rfl (by decide) rfl (fun ls hl => ?_)
      refine x_aload_n X dX6_tick_29 hl 0 rfl rfl ?_
      refine q_ifnull (tgt := 59) X dX6_tick_30 (by decide) hp (fun e0 hp2 => ?_) (fun b30_6 e0 hp2 => ?_)
      · clear hp; subst e0; have hp := hp2; clear hp2
        refine x_iinc (v := (1 : Int32)) (lst' := [(2, .inl (x2 + (1 : Int32))), (3, .inr none), (0, .inr (some a0)), (1, .inl x1)]) X dX6_tick_59 hl 3 rfl (by decide) (by decide) rfl (fun ls hl => ?_)
        refine lv_goto (tgt := 14) hx hb dX6_tick_62 (by decide) ?_
        exact ih _ _ _ _ _ _ V (lx_sub hl [2, 3, 0] rfl) hp
      · clear hp; subst e0; have hp := hp2; clear hp2
        refine x_aload_n X dX6_tick_33 hl 0 rfl rfl ?_
        refine q_getI (ci := 4) X V inX4 rfl (by decide) rfl 4 (by decide) rfl (tw_1 221 rfl rfl) rfl dX6_tick_34 hp (fun v34_7 hp => ?_)
        refine q_if hp (lv_if_eq (tgt := 59) hx hb dX6_tick_37 (by decide)) (fun hp => ?_) (fun hp => ?_)
        · refine x_iinc (v := (1 : Int32)) (lst' := [(2, .inl (x2 + (1 : Int32))), (3, .inr (some b30_6)), (0, .inr (some a0)), (1, .inl x1)]) X dX6_tick_59 hl 3 rfl (by decide) (by decide) rfl (fun ls hl => ?_)
          refine lv_goto (tgt := 14) hx hb dX6_tick_62 (by decide) ?_
          exact ih _ _ _ _ _ _ V (lx_sub hl [2, 3, 0] rfl) hp
        · refine x_aload_n X dX6_tick_40 hl 0 rfl rfl ?_
          refine q_getR (ci := 4) X V inX4 rfl (by decide) rfl 3 (by decide) rfl (tw_1 219 rfl rfl) rfl dX6_tick_41 hp (fun r41_8 hp => ?_)
          refine x_aload_n X dX6_tick_44 hl 1 rfl rfl ?_
          refine q_getI (ci := 6) X V inX6 rfl (by decide) rfl 5 (by decide) rfl (tw_1 41 rfl rfl) rfl dX6_tick_45 hp (fun v45_9 hp => ?_)
          obtain ⟨b48_10, e0, hp2⟩ := q_nn_of hp
          clear hp; subst e0; have hp := hp2; clear hp2
          obtain ⟨hk, hp⟩ := q_is_of hp
          obtain ⟨⟨G, u⟩, hq, hp⟩ := q_cl_of hp
          dsimp only at hp
          refine q_gov (cells' := 0) (slots' := 0) (va_runV (As := [.int v45_9]) (rest := []) X.1 (cX1_removeEnded l E hq) (tw_cwV 1 X.1.2.2.2.2 (tw_2 136 rfl rfl) kX1_removeEnded.2.1 kX1_removeEnded.2.2.1 kX1_removeEnded.2.2.2 kX1_removeEnded.1 rfl rfl hX1_removeEnded ⟨Nat.le_of_ble_eq_true rfl, Nat.le_of_ble_eq_true rfl⟩) (mm_preV X V rfl (by decide) rfl hk) rfl rfl hl.1 rfl (lv_room (Nat.le_of_ble_eq_true rfl)) dX6_tick_48 ⟨by decide, by decide⟩) V ⟨rfl, rfl⟩ (fun H locs V => ?_)
          refine x_iload_n X dX6_tick_51 hl 2 rfl rfl ?_
          refine x_aload_n X dX6_tick_52 hl 1 rfl rfl ?_
          refine x_aload_n X dX6_tick_53 hl 0 rfl rfl ?_
          obtain ⟨hk, hp⟩ := q_is_of hp
          obtain ⟨⟨G, v54_13⟩, hq, hp⟩ := q_cl_of hp
          dsimp only at hp
          refine q_goi (cells' := 0) (slots' := 0) (va_runV (As := [va_rf (some b30_6)]) (rest := [.int x1]) X.1 (cX6_giveUpOnSilent l E hq) (tw_cwV 1 X.1.2.2.2.2 (tw_2 144 rfl rfl) kX6_giveUpOnSilent.2.1 kX6_giveUpOnSilent.2.2.1 kX6_giveUpOnSilent.2.2.2 kX6_giveUpOnSilent.1 rfl rfl hX6_giveUpOnSilent ⟨Nat.le_of_ble_eq_true rfl, Nat.le_of_ble_eq_true rfl⟩) (mm_preV X V rfl (by decide) rfl hk) rfl rfl hl.1 rfl (lv_room (Nat.le_of_ble_eq_true rfl)) dX6_tick_54 ⟨by decide, by decide⟩) V ⟨rfl, rfl⟩ (fun H locs V => ?_)
          refine lv_iadd hx hb dX6_tick_57 ?_
          refine x_istore_n (lst' := [(1, .inl (x1 + v54_13)), (3, .inr (some b30_6)), (0, .inr (some a0)), (2, .inl x2)]) X dX6_tick_58 hl rfl (by decide) rfl (fun ls hl => ?_)
          refine x_iinc (v := (1 : Int32)) (lst' := [(2, .inl (x2 + (1 : Int32))), (1, .inl (x1 + v54_13)), (3, .inr (some b30_6)), (0, .inr (some a0))]) X dX6_tick_59 hl 3 rfl (by decide) (by decide) rfl (fun ls hl => ?_)
          refine lv_goto (tgt := 14) hx hb dX6_tick_62 (by decide) ?_
          exact ih _ _ _ _ _ _ V (lx_sub hl [3, 1, 0] rfl) hp
def pX6_tick_0 (N a0 : Nat) (G : mm_M) : Option (mm_M × Int32) :=
  q_gI G a0 7 5 fun v2_1 =>
  q_pI G a0 7 5 (v2_1 + (1 : Int32)) fun G =>
  pX6_tick_14 N a0 (fun (G : mm_M) (x1 : Int32) =>
    some (G, x1)) N G (0 : Int32) (0 : Int32)
set_option maxRecDepth 100000 in
set_option maxHeartbeats 4000000 in
theorem bX6_tick_0 {p : Program} {l : Launch} {e : Env} {s : State} {m : MethodId} {args : Array Value} {below : List Frame} {meth : Method} {c : Code} {E : mm_E} {N a0 : Nat} {res : mm_M × Int32} (X : mm_X p s m args meth c prog_1_method_6_code 4 "XorOverlay" tw_T E) (hr : meth.sig.returnType = (Option.some .int)) {G : mm_M} {H : Heap} {locs : List Loc} {ls : Array Slot} (V : mm_V E s G H locs) (hl : lx_has ls 4 [(0, .inr (some a0))]) (hp : pX6_tick_0 N a0 G = some res) : W p l e rX6_tick s m args below meth c H locs 0 0 (MQ below (mm_Qi E res.1 res.2) args s 0 0 (mm_A E)) (F0 m 0 ls []) := by
  have hx := X.1.1
  have hb := X.1.2.1
  unfold pX6_tick_0 at hp
  refine x_aload_n X dX6_tick_0 hl 0 rfl rfl ?_
  refine lv_dup hx hb dX6_tick_1 (va_rf_cat _) ?_
  refine q_getI (ci := 6) X V inX6 rfl (by decide) rfl 5 (by decide) rfl (tw_1 41 rfl rfl) rfl dX6_tick_2 hp (fun v2_1 hp => ?_)
  refine lv_iconst (v := (1 : Int32)) hx hb dX6_tick_5 (by decide) ?_
  refine lv_iadd hx hb dX6_tick_6 ?_
  refine q_putI (ci := 6) X V inX6 rfl tyX6 tyX6_ok nmX6 (by decide) rfl 5 (by decide) rfl (tw_1 41 rfl rfl) rfl (Or.inl rfl) .int rfl rfl rfl dX6_tick_7 hp (fun G H locs V hp => ?_)
  refine lv_iconst (v := (0 : Int32)) hx hb dX6_tick_10 (by decide) ?_
  refine x_istore_n (lst' := [(1, .inl (0 : Int32)), (0, .inr (some a0))]) X dX6_tick_11 hl rfl (by decide) rfl (fun ls hl => ?_)
  refine lv_iconst (v := (0 : Int32)) hx hb dX6_tick_12 (by decide) ?_
  refine x_istore_n (lst' := [(2, .inl (0 : Int32)), (1, .inl (0 : Int32)), (0, .inr (some a0))]) X dX6_tick_13 hl rfl (by decide) rfl (fun ls hl => ?_)
  refine bX6_tick_14 X hr (fun G H locs ls x1 V hl hp => ?_) _ _ _ _ _ _ _ V (lx_sub hl [2, 1, 0] rfl) hp
  refine x_iload_n X dX6_tick_65 hl 1 rfl rfl ?_
  exact q_iret X V hr ⟨by decide, by decide⟩ dX6_tick_66 hp
theorem cX6_tick (l : Launch) (E : mm_E) {N a0 : Nat} {G : mm_M} {res : mm_M × Int32} (hp : pX6_tick_0 N a0 G = some res) : Met l yX6_tick (Cond.code yX6_tick prog_1_method_6_code 4 (Option.some .int) :: tw_T) rX6_tick (mm_Pc E G [.ref a0]) (mm_Qi E res.1 res.2) 0 0 (mm_A E) :=
  mm_met (own := "XorOverlay") E G [.inr (some a0)] (by decide) rfl rfl (Nat.le_of_ble_eq_true rfl) (fun p e s m args below meth c ls X hr hi V hl => bX6_tick_0 X hr V hl hp)
abbrev yX6_clock : MethodName := ⟨"XorOverlay", "clock", "()I"⟩
abbrev rX6_clock : Room := { frames := 0, cells := 0, slots := 0, locals := 0 }
theorem kX6_clock : Cond.code yX6_clock prog_1_method_7_code 1 (Option.some .int) ∈ tw_T ∧ Cond.instanceMethod yX6_clock ∈ tw_T ∧ Cond.selects "XorOverlay" yX6_clock yX6_clock ∈ tw_T ∧ Cond.initialized "XorOverlay" ∈ tw_T := ⟨(tw_2 155 rfl rfl), (tw_2 153 rfl rfl), (tw_2 154 rfl rfl), (tw_1 1 rfl rfl)⟩
theorem hX6_clock : yX6_clock.cls = "XorOverlay" ∧ yX6_clock.cls ≠ "java/lang/invoke/MethodHandle" ∧ yX6_clock.cls ≠ "java/lang/invoke/VarHandle" ∧ (parseMethodDescriptor yX6_clock.desc).map (fun d => d.parameters.length) = some 0 := by decide +kernel
theorem dX6_clock_0 : decode prog_1_method_7_code 0 = .ok (.aload_n 0, 1) := by decide +kernel
theorem dX6_clock_1 : decode prog_1_method_7_code 1 = .ok (.getfield 33, 3) := by decide +kernel
theorem dX6_clock_4 : decode prog_1_method_7_code 4 = .ok (.ireturn, 1) := by decide +kernel
def pX6_clock_0 (N a0 : Nat) (G : mm_M) : Option (mm_M × Int32) :=
  q_gI G a0 7 5 fun v1_1 =>
  some (G, v1_1)
set_option maxRecDepth 100000 in
set_option maxHeartbeats 4000000 in
theorem bX6_clock_0 {p : Program} {l : Launch} {e : Env} {s : State} {m : MethodId} {args : Array Value} {below : List Frame} {meth : Method} {c : Code} {E : mm_E} {N a0 : Nat} {res : mm_M × Int32} (X : mm_X p s m args meth c prog_1_method_7_code 1 "XorOverlay" tw_T E) (hr : meth.sig.returnType = (Option.some .int)) {G : mm_M} {H : Heap} {locs : List Loc} {ls : Array Slot} (V : mm_V E s G H locs) (hl : lx_has ls 1 [(0, .inr (some a0))]) (hp : pX6_clock_0 N a0 G = some res) : W p l e rX6_clock s m args below meth c H locs 0 0 (MQ below (mm_Qi E res.1 res.2) args s 0 0 (mm_A E)) (F0 m 0 ls []) := by
  have hx := X.1.1
  have hb := X.1.2.1
  unfold pX6_clock_0 at hp
  refine x_aload_n X dX6_clock_0 hl 0 rfl rfl ?_
  refine q_getI (ci := 6) X V inX6 rfl (by decide) rfl 5 (by decide) rfl (tw_1 41 rfl rfl) rfl dX6_clock_1 hp (fun v1_1 hp => ?_)
  exact q_iret X V hr ⟨by decide, by decide⟩ dX6_clock_4 hp
theorem cX6_clock (l : Launch) (E : mm_E) {N a0 : Nat} {G : mm_M} {res : mm_M × Int32} (hp : pX6_clock_0 N a0 G = some res) : Met l yX6_clock (Cond.code yX6_clock prog_1_method_7_code 1 (Option.some .int) :: tw_T) rX6_clock (mm_Pc E G [.ref a0]) (mm_Qi E res.1 res.2) 0 0 (mm_A E) :=
  mm_met (own := "XorOverlay") E G [.inr (some a0)] (by decide) rfl rfl (Nat.le_of_ble_eq_true rfl) (fun p e s m args below meth c ls X hr hi V hl => bX6_clock_0 X hr V hl hp)
abbrev yX6_waiting : MethodName := ⟨"XorOverlay", "waiting", "()I"⟩
abbrev rX6_waiting : Room := { frames := 0, cells := 0, slots := 0, locals := 0 }
theorem kX6_waiting : Cond.code yX6_waiting prog_1_method_8_code 1 (Option.some .int) ∈ tw_T ∧ Cond.instanceMethod yX6_waiting ∈ tw_T ∧ Cond.selects "XorOverlay" yX6_waiting yX6_waiting ∈ tw_T ∧ Cond.initialized "XorOverlay" ∈ tw_T := ⟨(tw_2 159 rfl rfl), (tw_2 157 rfl rfl), (tw_2 158 rfl rfl), (tw_1 1 rfl rfl)⟩
theorem hX6_waiting : yX6_waiting.cls = "XorOverlay" ∧ yX6_waiting.cls ≠ "java/lang/invoke/MethodHandle" ∧ yX6_waiting.cls ≠ "java/lang/invoke/VarHandle" ∧ (parseMethodDescriptor yX6_waiting.desc).map (fun d => d.parameters.length) = some 0 := by decide +kernel
theorem dX6_waiting_0 : decode prog_1_method_8_code 0 = .ok (.aload_n 0, 1) := by decide +kernel
theorem dX6_waiting_1 : decode prog_1_method_8_code 1 = .ok (.getfield 18, 3) := by decide +kernel
theorem dX6_waiting_4 : decode prog_1_method_8_code 4 = .ok (.getfield 99, 3) := by decide +kernel
theorem dX6_waiting_7 : decode prog_1_method_8_code 7 = .ok (.ireturn, 1) := by decide +kernel
def pX6_waiting_0 (N a0 : Nat) (G : mm_M) : Option (mm_M × Int32) :=
  q_gR G a0 7 1 fun r1_1 =>
  q_nn r1_1 fun b4_2 =>
  q_gI G b4_2 3 1 fun v4_3 =>
  some (G, v4_3)
set_option maxRecDepth 100000 in
set_option maxHeartbeats 4000000 in
theorem bX6_waiting_0 {p : Program} {l : Launch} {e : Env} {s : State} {m : MethodId} {args : Array Value} {below : List Frame} {meth : Method} {c : Code} {E : mm_E} {N a0 : Nat} {res : mm_M × Int32} (X : mm_X p s m args meth c prog_1_method_8_code 1 "XorOverlay" tw_T E) (hr : meth.sig.returnType = (Option.some .int)) {G : mm_M} {H : Heap} {locs : List Loc} {ls : Array Slot} (V : mm_V E s G H locs) (hl : lx_has ls 1 [(0, .inr (some a0))]) (hp : pX6_waiting_0 N a0 G = some res) : W p l e rX6_waiting s m args below meth c H locs 0 0 (MQ below (mm_Qi E res.1 res.2) args s 0 0 (mm_A E)) (F0 m 0 ls []) := by
  have hx := X.1.1
  have hb := X.1.2.1
  unfold pX6_waiting_0 at hp
  refine x_aload_n X dX6_waiting_0 hl 0 rfl rfl ?_
  refine q_getR (ci := 6) X V inX6 rfl (by decide) rfl 1 (by decide) rfl (tw_1 37 rfl rfl) rfl dX6_waiting_1 hp (fun r1_1 hp => ?_)
  obtain ⟨b4_2, e0, hp2⟩ := q_nn_of hp
  clear hp; subst e0; have hp := hp2; clear hp2
  refine q_getI (ci := 2) X V inX2 rfl (by decide) rfl 1 (by decide) rfl (tw_1 29 rfl rfl) rfl dX6_waiting_4 hp (fun v4_3 hp => ?_)
  exact q_iret X V hr ⟨by decide, by decide⟩ dX6_waiting_7 hp
theorem cX6_waiting (l : Launch) (E : mm_E) {N a0 : Nat} {G : mm_M} {res : mm_M × Int32} (hp : pX6_waiting_0 N a0 G = some res) : Met l yX6_waiting (Cond.code yX6_waiting prog_1_method_8_code 1 (Option.some .int) :: tw_T) rX6_waiting (mm_Pc E G [.ref a0]) (mm_Qi E res.1 res.2) 0 0 (mm_A E) :=
  mm_met (own := "XorOverlay") E G [.inr (some a0)] (by decide) rfl rfl (Nat.le_of_ble_eq_true rfl) (fun p e s m args below meth c ls X hr hi V hl => bX6_waiting_0 X hr V hl hp)
abbrev yX2_has : MethodName := ⟨"XorOverlay$Line", "has", "(I)Z"⟩
abbrev rX2_has : Room := { frames := 0, cells := 0, slots := 0, locals := 0 }
theorem kX2_has : Cond.code yX2_has prog_4_method_2_code 2 (Option.some .boolean) ∈ tw_T ∧ Cond.instanceMethod yX2_has ∈ tw_T ∧ Cond.selects "XorOverlay$Line" yX2_has yX2_has ∈ tw_T ∧ Cond.initialized "XorOverlay$Line" ∈ tw_T := ⟨(tw_2 167 rfl rfl), (tw_2 165 rfl rfl), (tw_2 166 rfl rfl), (tw_1 2 rfl rfl)⟩
theorem hX2_has : yX2_has.cls = "XorOverlay$Line" ∧ yX2_has.cls ≠ "java/lang/invoke/MethodHandle" ∧ yX2_has.cls ≠ "java/lang/invoke/VarHandle" ∧ (parseMethodDescriptor yX2_has.desc).map (fun d => d.parameters.length) = some 1 := by decide +kernel
theorem dX2_has_0 : decode prog_4_method_2_code 0 = .ok (.iload_n 1, 1) := by decide +kernel
theorem dX2_has_1 : decode prog_4_method_2_code 1 = .ok (.ifCond .lt 15, 3) := by decide +kernel
theorem dX2_has_4 : decode prog_4_method_2_code 4 = .ok (.iload_n 1, 1) := by decide +kernel
theorem dX2_has_5 : decode prog_4_method_2_code 5 = .ok (.aload_n 0, 1) := by decide +kernel
theorem dX2_has_6 : decode prog_4_method_2_code 6 = .ok (.getfield 15, 3) := by decide +kernel
theorem dX2_has_9 : decode prog_4_method_2_code 9 = .ok (.if_icmp .ge 7, 3) := by decide +kernel
theorem dX2_has_12 : decode prog_4_method_2_code 12 = .ok (.iconst 1, 1) := by decide +kernel
theorem dX2_has_13 : decode prog_4_method_2_code 13 = .ok (.goto 4, 3) := by decide +kernel
theorem dX2_has_16 : decode prog_4_method_2_code 16 = .ok (.iconst 0, 1) := by decide +kernel
theorem dX2_has_17 : decode prog_4_method_2_code 17 = .ok (.ireturn, 1) := by decide +kernel
def pX2_has_0 (N a0 : Nat) (G : mm_M) (x1 : Int32) : Option (mm_M × Int32) :=
  if x1 < 0 then
    some (G, (0 : Int32))
  else
    q_gI G a0 3 1 fun v6_1 =>
    if v6_1 ≤ x1 then
      some (G, (0 : Int32))
    else
      some (G, (1 : Int32))
set_option maxRecDepth 100000 in
set_option maxHeartbeats 4000000 in
theorem bX2_has_0 {p : Program} {l : Launch} {e : Env} {s : State} {m : MethodId} {args : Array Value} {below : List Frame} {meth : Method} {c : Code} {E : mm_E} {N a0 : Nat} {res : mm_M × Int32} (X : mm_X p s m args meth c prog_4_method_2_code 2 "XorOverlay$Line" tw_T E) (hr : meth.sig.returnType = (Option.some .boolean)) {G : mm_M} {H : Heap} {locs : List Loc} {ls : Array Slot} {x1 : Int32} (V : mm_V E s G H locs) (hl : lx_has ls 2 [(0, .inr (some a0)), (1, .inl x1)]) (hp : pX2_has_0 N a0 G x1 = some res) : W p l e rX2_has s m args below meth c H locs 0 0 (MQ below (mm_Qi E res.1 res.2) args s 0 0 (mm_A E)) (F0 m 0 ls []) := by
  have hx := X.1.1
  have hb := X.1.2.1
  unfold pX2_has_0 at hp
  refine x_iload_n X dX2_has_0 hl 1 rfl rfl ?_
  refine q_if hp (lv_if_lt (tgt := 16) hx hb dX2_has_1 (by decide)) (fun hp => ?_) (fun hp => ?_)
  · refine lv_iconst (v := (0 : Int32)) hx hb dX2_has_16 (by decide) ?_
    exact q_zret X V hr rfl ⟨by decide, by decide⟩ dX2_has_17 hp
  · refine x_iload_n X dX2_has_4 hl 1 rfl rfl ?_
    refine x_aload_n X dX2_has_5 hl 0 rfl rfl ?_
    refine q_getI (ci := 2) X V inX2 rfl (by decide) rfl 1 (by decide) rfl (tw_1 28 rfl rfl) rfl dX2_has_6 hp (fun v6_1 hp => ?_)
    refine q_if hp (lv_icmp_ge (tgt := 16) hx hb dX2_has_9 (by decide)) (fun hp => ?_) (fun hp => ?_)
    · refine lv_iconst (v := (0 : Int32)) hx hb dX2_has_16 (by decide) ?_
      exact q_zret X V hr rfl ⟨by decide, by decide⟩ dX2_has_17 hp
    · refine lv_iconst (v := (1 : Int32)) hx hb dX2_has_12 (by decide) ?_
      refine lv_goto (tgt := 17) hx hb dX2_has_13 (by decide) ?_
      exact q_zret X V hr rfl ⟨by decide, by decide⟩ dX2_has_17 hp
theorem cX2_has (l : Launch) (E : mm_E) {N a0 : Nat} {G : mm_M} {x1 : Int32} {res : mm_M × Int32} (hp : pX2_has_0 N a0 G x1 = some res) : Met l yX2_has (Cond.code yX2_has prog_4_method_2_code 2 (Option.some .boolean) :: tw_T) rX2_has (mm_Pc E G [.ref a0, .int x1]) (mm_Qi E res.1 res.2) 0 0 (mm_A E) :=
  mm_met (own := "XorOverlay$Line") E G [.inr (some a0), .inl x1] (by decide) rfl rfl (Nat.le_of_ble_eq_true rfl) (fun p e s m args below meth c ls X hr hi V hl => bX2_has_0 X hr V hl hp)
abbrev yX2_cell : MethodName := ⟨"XorOverlay$Line", "cell", "(II)I"⟩
abbrev rX2_cell : Room := { frames := 0, cells := 0, slots := 0, locals := 0 }
theorem kX2_cell : Cond.code yX2_cell prog_4_method_3_code 3 (Option.some .int) ∈ tw_T ∧ Cond.instanceMethod yX2_cell ∈ tw_T ∧ Cond.selects "XorOverlay$Line" yX2_cell yX2_cell ∈ tw_T ∧ Cond.initialized "XorOverlay$Line" ∈ tw_T := ⟨(tw_2 171 rfl rfl), (tw_2 169 rfl rfl), (tw_2 170 rfl rfl), (tw_1 2 rfl rfl)⟩
theorem hX2_cell : yX2_cell.cls = "XorOverlay$Line" ∧ yX2_cell.cls ≠ "java/lang/invoke/MethodHandle" ∧ yX2_cell.cls ≠ "java/lang/invoke/VarHandle" ∧ (parseMethodDescriptor yX2_cell.desc).map (fun d => d.parameters.length) = some 2 := by decide +kernel
theorem dX2_cell_0 : decode prog_4_method_3_code 0 = .ok (.aload_n 0, 1) := by decide +kernel
theorem dX2_cell_1 : decode prog_4_method_3_code 1 = .ok (.getfield 11, 3) := by decide +kernel
theorem dX2_cell_4 : decode prog_4_method_3_code 4 = .ok (.iload_n 1, 1) := by decide +kernel
theorem dX2_cell_5 : decode prog_4_method_3_code 5 = .ok (.bipush 12, 2) := by decide +kernel
theorem dX2_cell_7 : decode prog_4_method_3_code 7 = .ok (.imul, 1) := by decide +kernel
theorem dX2_cell_8 : decode prog_4_method_3_code 8 = .ok (.iload_n 2, 1) := by decide +kernel
theorem dX2_cell_9 : decode prog_4_method_3_code 9 = .ok (.iadd, 1) := by decide +kernel
theorem dX2_cell_10 : decode prog_4_method_3_code 10 = .ok (.iaload, 1) := by decide +kernel
theorem dX2_cell_11 : decode prog_4_method_3_code 11 = .ok (.ireturn, 1) := by decide +kernel
def pX2_cell_0 (N a0 : Nat) (G : mm_M) (x1 : Int32) (x2 : Int32) : Option (mm_M × Int32) :=
  q_gR G a0 3 0 fun r1_1 =>
  q_nn r1_1 fun b10_2 =>
  q_aI G b10_2 101 ((x1 * (12 : Int32)) + x2) fun v10_3 =>
  some (G, v10_3)
set_option maxRecDepth 100000 in
set_option maxHeartbeats 4000000 in
theorem bX2_cell_0 {p : Program} {l : Launch} {e : Env} {s : State} {m : MethodId} {args : Array Value} {below : List Frame} {meth : Method} {c : Code} {E : mm_E} {N a0 : Nat} {res : mm_M × Int32} (X : mm_X p s m args meth c prog_4_method_3_code 3 "XorOverlay$Line" tw_T E) (hr : meth.sig.returnType = (Option.some .int)) {G : mm_M} {H : Heap} {locs : List Loc} {ls : Array Slot} {x1 : Int32} {x2 : Int32} (V : mm_V E s G H locs) (hl : lx_has ls 3 [(0, .inr (some a0)), (1, .inl x1), (2, .inl x2)]) (hp : pX2_cell_0 N a0 G x1 x2 = some res) : W p l e rX2_cell s m args below meth c H locs 0 0 (MQ below (mm_Qi E res.1 res.2) args s 0 0 (mm_A E)) (F0 m 0 ls []) := by
  have hx := X.1.1
  have hb := X.1.2.1
  unfold pX2_cell_0 at hp
  refine x_aload_n X dX2_cell_0 hl 0 rfl rfl ?_
  refine q_getR (ci := 2) X V inX2 rfl (by decide) rfl 0 (by decide) rfl (tw_1 27 rfl rfl) rfl dX2_cell_1 hp (fun r1_1 hp => ?_)
  refine x_iload_n X dX2_cell_4 hl 1 rfl rfl ?_
  refine lv_bipush (v := (12 : Int32)) hx hb dX2_cell_5 (by decide) ?_
  refine lv_imul hx hb dX2_cell_7 ?_
  refine x_iload_n X dX2_cell_8 hl 2 rfl rfl ?_
  refine lv_iadd hx hb dX2_cell_9 ?_
  obtain ⟨b10_2, e0, hp2⟩ := q_nn_of hp
  clear hp; subst e0; have hp := hp2; clear hp2
  refine q_iald X V dX2_cell_10 hp (fun v10_3 hp => ?_)
  exact q_iret X V hr ⟨by decide, by decide⟩ dX2_cell_11 hp
theorem cX2_cell (l : Launch) (E : mm_E) {N a0 : Nat} {G : mm_M} {x1 : Int32} {x2 : Int32} {res : mm_M × Int32} (hp : pX2_cell_0 N a0 G x1 x2 = some res) : Met l yX2_cell (Cond.code yX2_cell prog_4_method_3_code 3 (Option.some .int) :: tw_T) rX2_cell (mm_Pc E G [.ref a0, .int x1, .int x2]) (mm_Qi E res.1 res.2) 0 0 (mm_A E) :=
  mm_met (own := "XorOverlay$Line") E G [.inr (some a0), .inl x1, .inl x2] (by decide) rfl rfl (Nat.le_of_ble_eq_true rfl) (fun p e s m args below meth c ls X hr hi V hl => bX2_cell_0 X hr V hl hp)
abbrev yX6_datagram : MethodName := ⟨"XorOverlay", "datagram", "(II)I"⟩
abbrev rX6_datagram : Room := { frames := 1, cells := 0, slots := 0, locals := 22 }
theorem kX6_datagram : Cond.code yX6_datagram prog_1_method_9_code 3 (Option.some .int) ∈ tw_T ∧ Cond.instanceMethod yX6_datagram ∈ tw_T ∧ Cond.selects "XorOverlay" yX6_datagram yX6_datagram ∈ tw_T ∧ Cond.initialized "XorOverlay" ∈ tw_T := ⟨(tw_2 163 rfl rfl), (tw_2 161 rfl rfl), (tw_2 162 rfl rfl), (tw_1 1 rfl rfl)⟩
theorem hX6_datagram : yX6_datagram.cls = "XorOverlay" ∧ yX6_datagram.cls ≠ "java/lang/invoke/MethodHandle" ∧ yX6_datagram.cls ≠ "java/lang/invoke/VarHandle" ∧ (parseMethodDescriptor yX6_datagram.desc).map (fun d => d.parameters.length) = some 2 := by decide +kernel
theorem dX6_datagram_0 : decode prog_1_method_9_code 0 = .ok (.aload_n 0, 1) := by decide +kernel
theorem dX6_datagram_1 : decode prog_1_method_9_code 1 = .ok (.getfield 18, 3) := by decide +kernel
theorem dX6_datagram_4 : decode prog_1_method_9_code 4 = .ok (.iload_n 1, 1) := by decide +kernel
theorem dX6_datagram_5 : decode prog_1_method_9_code 5 = .ok (.invokevirtual 102, 3) := by decide +kernel
theorem dX6_datagram_8 : decode prog_1_method_9_code 8 = .ok (.ifCond .eq 13, 3) := by decide +kernel
theorem dX6_datagram_11 : decode prog_1_method_9_code 11 = .ok (.iload_n 2, 1) := by decide +kernel
theorem dX6_datagram_12 : decode prog_1_method_9_code 12 = .ok (.ifCond .lt 9, 3) := by decide +kernel
theorem dX6_datagram_15 : decode prog_1_method_9_code 15 = .ok (.iload_n 2, 1) := by decide +kernel
theorem dX6_datagram_16 : decode prog_1_method_9_code 16 = .ok (.bipush 12, 2) := by decide +kernel
theorem dX6_datagram_18 : decode prog_1_method_9_code 18 = .ok (.if_icmp .lt 5, 3) := by decide +kernel
theorem dX6_datagram_21 : decode prog_1_method_9_code 21 = .ok (.iconst (-1), 1) := by decide +kernel
theorem dX6_datagram_22 : decode prog_1_method_9_code 22 = .ok (.ireturn, 1) := by decide +kernel
theorem dX6_datagram_23 : decode prog_1_method_9_code 23 = .ok (.aload_n 0, 1) := by decide +kernel
theorem dX6_datagram_24 : decode prog_1_method_9_code 24 = .ok (.getfield 18, 3) := by decide +kernel
theorem dX6_datagram_27 : decode prog_1_method_9_code 27 = .ok (.iload_n 1, 1) := by decide +kernel
theorem dX6_datagram_28 : decode prog_1_method_9_code 28 = .ok (.iload_n 2, 1) := by decide +kernel
theorem dX6_datagram_29 : decode prog_1_method_9_code 29 = .ok (.invokevirtual 105, 3) := by decide +kernel
theorem dX6_datagram_32 : decode prog_1_method_9_code 32 = .ok (.ireturn, 1) := by decide +kernel
def pX6_datagram_0 (N a0 : Nat) (G : mm_M) (x1 : Int32) (x2 : Int32) : Option (mm_M × Int32) :=
  q_gR G a0 7 1 fun r1_1 =>
  q_nn r1_1 fun b5_2 =>
  q_is G b5_2 3 <|
  q_cl (pX2_has_0 N b5_2 G x1) fun G v5_4 =>
  if v5_4 = 0 then
    some (G, (-1 : Int32))
  else
    if x2 < 0 then
      some (G, (-1 : Int32))
    else
      if x2 < (12 : Int32) then
        q_gR G a0 7 1 fun r24_5 =>
        q_nn r24_5 fun b29_6 =>
        q_is G b29_6 3 <|
        q_cl (pX2_cell_0 N b29_6 G x1 x2) fun G v29_8 =>
        some (G, v29_8)
      else
        some (G, (-1 : Int32))
set_option maxRecDepth 100000 in
set_option maxHeartbeats 4000000 in
theorem bX6_datagram_0 {p : Program} {l : Launch} {e : Env} {s : State} {m : MethodId} {args : Array Value} {below : List Frame} {meth : Method} {c : Code} {E : mm_E} {N a0 : Nat} {res : mm_M × Int32} (X : mm_X p s m args meth c prog_1_method_9_code 3 "XorOverlay" tw_T E) (hr : meth.sig.returnType = (Option.some .int)) {G : mm_M} {H : Heap} {locs : List Loc} {ls : Array Slot} {x1 : Int32} {x2 : Int32} (V : mm_V E s G H locs) (hl : lx_has ls 3 [(0, .inr (some a0)), (1, .inl x1), (2, .inl x2)]) (hp : pX6_datagram_0 N a0 G x1 x2 = some res) : W p l e rX6_datagram s m args below meth c H locs 0 0 (MQ below (mm_Qi E res.1 res.2) args s 0 0 (mm_A E)) (F0 m 0 ls []) := by
  have hx := X.1.1
  have hb := X.1.2.1
  unfold pX6_datagram_0 at hp
  refine x_aload_n X dX6_datagram_0 hl 0 rfl rfl ?_
  refine q_getR (ci := 6) X V inX6 rfl (by decide) rfl 1 (by decide) rfl (tw_1 37 rfl rfl) rfl dX6_datagram_1 hp (fun r1_1 hp => ?_)
  refine x_iload_n X dX6_datagram_4 hl 1 rfl rfl ?_
  obtain ⟨b5_2, e0, hp2⟩ := q_nn_of hp
  clear hp; subst e0; have hp := hp2; clear hp2
  obtain ⟨hk, hp⟩ := q_is_of hp
  obtain ⟨⟨G, v5_4⟩, hq, hp⟩ := q_cl_of hp
  dsimp only at hp
  refine q_goi (cells' := 0) (slots' := 0) (va_runV (As := [.int x1]) (rest := []) X.1 (cX2_has l E hq) (tw_cwV 1 X.1.2.2.2.2 (tw_2 164 rfl rfl) kX2_has.2.1 kX2_has.2.2.1 kX2_has.2.2.2 kX2_has.1 rfl rfl hX2_has ⟨Nat.le_of_ble_eq_true rfl, Nat.le_of_ble_eq_true rfl⟩) (mm_preV X V rfl (by decide) rfl hk) rfl rfl hl.1 rfl (lv_room (Nat.le_of_ble_eq_true rfl)) dX6_datagram_5 ⟨by decide, by decide⟩) V ⟨rfl, rfl⟩ (fun H locs V => ?_)
  refine q_if hp (lv_if_eq (tgt := 21) hx hb dX6_datagram_8 (by decide)) (fun hp => ?_) (fun hp => ?_)
  · refine lv_iconst (v := (-1 : Int32)) hx hb dX6_datagram_21 (by decide) ?_
    exact q_iret X V hr ⟨by decide, by decide⟩ dX6_datagram_22 hp
  · refine x_iload_n X dX6_datagram_11 hl 2 rfl rfl ?_
    refine q_if hp (lv_if_lt (tgt := 21) hx hb dX6_datagram_12 (by decide)) (fun hp => ?_) (fun hp => ?_)
    · refine lv_iconst (v := (-1 : Int32)) hx hb dX6_datagram_21 (by decide) ?_
      exact q_iret X V hr ⟨by decide, by decide⟩ dX6_datagram_22 hp
    · refine x_iload_n X dX6_datagram_15 hl 2 rfl rfl ?_
      refine lv_bipush (v := (12 : Int32)) hx hb dX6_datagram_16 (by decide) ?_
      refine q_if hp (lv_icmp_lt (tgt := 23) hx hb dX6_datagram_18 (by decide)) (fun hp => ?_) (fun hp => ?_)
      · refine x_aload_n X dX6_datagram_23 hl 0 rfl rfl ?_
        refine q_getR (ci := 6) X V inX6 rfl (by decide) rfl 1 (by decide) rfl (tw_1 37 rfl rfl) rfl dX6_datagram_24 hp (fun r24_5 hp => ?_)
        refine x_iload_n X dX6_datagram_27 hl 1 rfl rfl ?_
        refine x_iload_n X dX6_datagram_28 hl 2 rfl rfl ?_
        obtain ⟨b29_6, e0, hp2⟩ := q_nn_of hp
        clear hp; subst e0; have hp := hp2; clear hp2
        obtain ⟨hk, hp⟩ := q_is_of hp
        obtain ⟨⟨G, v29_8⟩, hq, hp⟩ := q_cl_of hp
        dsimp only at hp
        refine q_goi (cells' := 0) (slots' := 0) (va_runV (As := [.int x1, .int x2]) (rest := []) X.1 (cX2_cell l E hq) (tw_cwV 2 X.1.2.2.2.2 (tw_2 168 rfl rfl) kX2_cell.2.1 kX2_cell.2.2.1 kX2_cell.2.2.2 kX2_cell.1 rfl rfl hX2_cell ⟨Nat.le_of_ble_eq_true rfl, Nat.le_of_ble_eq_true rfl⟩) (mm_preV X V rfl (by decide) rfl hk) rfl rfl hl.1 rfl (lv_room (Nat.le_of_ble_eq_true rfl)) dX6_datagram_29 ⟨by decide, by decide⟩) V ⟨rfl, rfl⟩ (fun H locs V => ?_)
        exact q_iret X V hr ⟨by decide, by decide⟩ dX6_datagram_32 hp
      · refine lv_iconst (v := (-1 : Int32)) hx hb dX6_datagram_21 (by decide) ?_
        exact q_iret X V hr ⟨by decide, by decide⟩ dX6_datagram_22 hp
theorem cX6_datagram (l : Launch) (E : mm_E) {N a0 : Nat} {G : mm_M} {x1 : Int32} {x2 : Int32} {res : mm_M × Int32} (hp : pX6_datagram_0 N a0 G x1 x2 = some res) : Met l yX6_datagram (Cond.code yX6_datagram prog_1_method_9_code 3 (Option.some .int) :: tw_T) rX6_datagram (mm_Pc E G [.ref a0, .int x1, .int x2]) (mm_Qi E res.1 res.2) 0 0 (mm_A E) :=
  mm_met (own := "XorOverlay") E G [.inr (some a0), .inl x1, .inl x2] (by decide) rfl rfl (Nat.le_of_ble_eq_true rfl) (fun p e s m args below meth c ls X hr hi V hl => bX6_datagram_0 X hr V hl hp)
abbrev yX2_copyOut : MethodName := ⟨"XorOverlay$Line", "copyOut", "(I[I)V"⟩
abbrev rX2_copyOut : Room := { frames := 1, cells := 0, slots := 0, locals := 30 }
theorem kX2_copyOut : Cond.code yX2_copyOut prog_4_method_5_code 3 none ∈ tw_T ∧ Cond.instanceMethod yX2_copyOut ∈ tw_T ∧ Cond.selects "XorOverlay$Line" yX2_copyOut yX2_copyOut ∈ tw_T ∧ Cond.initialized "XorOverlay$Line" ∈ tw_T := ⟨(tw_2 179 rfl rfl), (tw_2 177 rfl rfl), (tw_2 178 rfl rfl), (tw_1 2 rfl rfl)⟩
theorem hX2_copyOut : yX2_copyOut.cls = "XorOverlay$Line" ∧ yX2_copyOut.cls ≠ "java/lang/invoke/MethodHandle" ∧ yX2_copyOut.cls ≠ "java/lang/invoke/VarHandle" ∧ (parseMethodDescriptor yX2_copyOut.desc).map (fun d => d.parameters.length) = some 2 := by decide +kernel
theorem dX2_copyOut_0 : decode prog_4_method_5_code 0 = .ok (.aload_n 0, 1) := by decide +kernel
theorem dX2_copyOut_1 : decode prog_4_method_5_code 1 = .ok (.getfield 11, 3) := by decide +kernel
theorem dX2_copyOut_4 : decode prog_4_method_5_code 4 = .ok (.iload_n 1, 1) := by decide +kernel
theorem dX2_copyOut_5 : decode prog_4_method_5_code 5 = .ok (.bipush 12, 2) := by decide +kernel
theorem dX2_copyOut_7 : decode prog_4_method_5_code 7 = .ok (.imul, 1) := by decide +kernel
theorem dX2_copyOut_8 : decode prog_4_method_5_code 8 = .ok (.aload_n 2, 1) := by decide +kernel
theorem dX2_copyOut_9 : decode prog_4_method_5_code 9 = .ok (.iconst 0, 1) := by decide +kernel
theorem dX2_copyOut_10 : decode prog_4_method_5_code 10 = .ok (.bipush 12, 2) := by decide +kernel
theorem dX2_copyOut_12 : decode prog_4_method_5_code 12 = .ok (.invokestatic 19, 3) := by decide +kernel
theorem dX2_copyOut_15 : decode prog_4_method_5_code 15 = .ok (.return_, 1) := by decide +kernel
def pX2_copyOut_0 (N a0 : Nat) (G : mm_M) (x1 : Int32) (x2 : Option Nat) : Option (mm_M × Unit) :=
  q_gR G a0 3 0 fun r1_1 =>
  q_nn x2 fun b12_2 =>
  q_nn r1_1 fun b12_3 =>
  q_cpy G b12_3 (x1 * (12 : Int32)) b12_2 (0 : Int32) (12 : Int32) fun G =>
  some (G, ())
set_option maxRecDepth 100000 in
set_option maxHeartbeats 4000000 in
theorem bX2_copyOut_0 {p : Program} {l : Launch} {e : Env} {s : State} {m : MethodId} {args : Array Value} {below : List Frame} {meth : Method} {c : Code} {E : mm_E} {N a0 : Nat} {res : mm_M × Unit} (X : mm_X p s m args meth c prog_4_method_5_code 3 "XorOverlay$Line" tw_T E) (hr : meth.sig.returnType = none) {G : mm_M} {H : Heap} {locs : List Loc} {ls : Array Slot} {x1 : Int32} {x2 : Option Nat} (V : mm_V E s G H locs) (hl : lx_has ls 3 [(0, .inr (some a0)), (1, .inl x1), (2, .inr x2)]) (hp : pX2_copyOut_0 N a0 G x1 x2 = some res) : W p l e rX2_copyOut s m args below meth c H locs 0 0 (MQ below (mm_Qv E res.1) args s 0 0 (mm_A E)) (F0 m 0 ls []) := by
  have hx := X.1.1
  have hb := X.1.2.1
  unfold pX2_copyOut_0 at hp
  refine x_aload_n X dX2_copyOut_0 hl 0 rfl rfl ?_
  refine q_getR (ci := 2) X V inX2 rfl (by decide) rfl 0 (by decide) rfl (tw_1 27 rfl rfl) rfl dX2_copyOut_1 hp (fun r1_1 hp => ?_)
  refine x_iload_n X dX2_copyOut_4 hl 1 rfl rfl ?_
  refine lv_bipush (v := (12 : Int32)) hx hb dX2_copyOut_5 (by decide) ?_
  refine lv_imul hx hb dX2_copyOut_7 ?_
  refine x_aload_n X dX2_copyOut_8 hl 2 rfl rfl ?_
  refine lv_iconst (v := (0 : Int32)) hx hb dX2_copyOut_9 (by decide) ?_
  refine lv_bipush (v := (12 : Int32)) hx hb dX2_copyOut_10 (by decide) ?_
  obtain ⟨b12_2, e0, hp2⟩ := q_nn_of hp
  clear hp; subst e0; have hp := hp2; clear hp2
  obtain ⟨b12_3, e0, hp2⟩ := q_nn_of hp
  clear hp; subst e0; have hp := hp2; clear hp2
  refine q_copy X V hl.1 (tw_2 104 rfl rfl) (tw_2 106 rfl rfl) (tw_2 105 rfl rfl) (tw_1 10 rfl rfl) (by decide) (by decide) dX2_copyOut_12 hp (fun G H locs V hp => ?_)
  exact q_vret X V hr ⟨by decide, by decide⟩ dX2_copyOut_15 hp
theorem cX2_copyOut (l : Launch) (E : mm_E) {N a0 : Nat} {G : mm_M} {x1 : Int32} {x2 : Option Nat} {res : mm_M × Unit} (hp : pX2_copyOut_0 N a0 G x1 x2 = some res) : Met l yX2_copyOut (Cond.code yX2_copyOut prog_4_method_5_code 3 none :: tw_T) rX2_copyOut (mm_Pc E G [.ref a0, .int x1, va_rf x2]) (mm_Qv E res.1) 0 0 (mm_A E) :=
  mm_met (own := "XorOverlay$Line") E G [.inr (some a0), .inl x1, .inr x2] (by decide) rfl rfl (Nat.le_of_ble_eq_true rfl) (fun p e s m args below meth c ls X hr hi V hl => bX2_copyOut_0 X hr V hl hp)
abbrev yX2_remove : MethodName := ⟨"XorOverlay$Line", "remove", "(I)V"⟩
abbrev rX2_remove : Room := { frames := 1, cells := 0, slots := 0, locals := 30 }
theorem kX2_remove : Cond.code yX2_remove prog_4_method_6_code 3 none ∈ tw_T ∧ Cond.instanceMethod yX2_remove ∈ tw_T ∧ Cond.selects "XorOverlay$Line" yX2_remove yX2_remove ∈ tw_T ∧ Cond.initialized "XorOverlay$Line" ∈ tw_T := ⟨(tw_2 183 rfl rfl), (tw_2 181 rfl rfl), (tw_2 182 rfl rfl), (tw_1 2 rfl rfl)⟩
theorem hX2_remove : yX2_remove.cls = "XorOverlay$Line" ∧ yX2_remove.cls ≠ "java/lang/invoke/MethodHandle" ∧ yX2_remove.cls ≠ "java/lang/invoke/VarHandle" ∧ (parseMethodDescriptor yX2_remove.desc).map (fun d => d.parameters.length) = some 1 := by decide +kernel
theorem dX2_remove_0 : decode prog_4_method_6_code 0 = .ok (.aload_n 0, 1) := by decide +kernel
theorem dX2_remove_1 : decode prog_4_method_6_code 1 = .ok (.getfield 15, 3) := by decide +kernel
theorem dX2_remove_4 : decode prog_4_method_6_code 4 = .ok (.iconst 1, 1) := by decide +kernel
theorem dX2_remove_5 : decode prog_4_method_6_code 5 = .ok (.isub, 1) := by decide +kernel
theorem dX2_remove_6 : decode prog_4_method_6_code 6 = .ok (.iload_n 1, 1) := by decide +kernel
theorem dX2_remove_7 : decode prog_4_method_6_code 7 = .ok (.isub, 1) := by decide +kernel
theorem dX2_remove_8 : decode prog_4_method_6_code 8 = .ok (.istore_n 2, 1) := by decide +kernel
theorem dX2_remove_9 : decode prog_4_method_6_code 9 = .ok (.aload_n 0, 1) := by decide +kernel
theorem dX2_remove_10 : decode prog_4_method_6_code 10 = .ok (.getfield 11, 3) := by decide +kernel
theorem dX2_remove_13 : decode prog_4_method_6_code 13 = .ok (.iload_n 1, 1) := by decide +kernel
theorem dX2_remove_14 : decode prog_4_method_6_code 14 = .ok (.iconst 1, 1) := by decide +kernel
theorem dX2_remove_15 : decode prog_4_method_6_code 15 = .ok (.iadd, 1) := by decide +kernel
theorem dX2_remove_16 : decode prog_4_method_6_code 16 = .ok (.bipush 12, 2) := by decide +kernel
theorem dX2_remove_18 : decode prog_4_method_6_code 18 = .ok (.imul, 1) := by decide +kernel
theorem dX2_remove_19 : decode prog_4_method_6_code 19 = .ok (.aload_n 0, 1) := by decide +kernel
theorem dX2_remove_20 : decode prog_4_method_6_code 20 = .ok (.getfield 11, 3) := by decide +kernel
theorem dX2_remove_23 : decode prog_4_method_6_code 23 = .ok (.iload_n 1, 1) := by decide +kernel
theorem dX2_remove_24 : decode prog_4_method_6_code 24 = .ok (.bipush 12, 2) := by decide +kernel
theorem dX2_remove_26 : decode prog_4_method_6_code 26 = .ok (.imul, 1) := by decide +kernel
theorem dX2_remove_27 : decode prog_4_method_6_code 27 = .ok (.iload_n 2, 1) := by decide +kernel
theorem dX2_remove_28 : decode prog_4_method_6_code 28 = .ok (.bipush 12, 2) := by decide +kernel
theorem dX2_remove_30 : decode prog_4_method_6_code 30 = .ok (.imul, 1) := by decide +kernel
theorem dX2_remove_31 : decode prog_4_method_6_code 31 = .ok (.invokestatic 19, 3) := by decide +kernel
theorem dX2_remove_34 : decode prog_4_method_6_code 34 = .ok (.aload_n 0, 1) := by decide +kernel
theorem dX2_remove_35 : decode prog_4_method_6_code 35 = .ok (.dup, 1) := by decide +kernel
theorem dX2_remove_36 : decode prog_4_method_6_code 36 = .ok (.getfield 15, 3) := by decide +kernel
theorem dX2_remove_39 : decode prog_4_method_6_code 39 = .ok (.iconst 1, 1) := by decide +kernel
theorem dX2_remove_40 : decode prog_4_method_6_code 40 = .ok (.isub, 1) := by decide +kernel
theorem dX2_remove_41 : decode prog_4_method_6_code 41 = .ok (.putfield 15, 3) := by decide +kernel
theorem dX2_remove_44 : decode prog_4_method_6_code 44 = .ok (.return_, 1) := by decide +kernel
def pX2_remove_0 (N a0 : Nat) (G : mm_M) (x1 : Int32) : Option (mm_M × Unit) :=
  q_gI G a0 3 1 fun v1_1 =>
  q_gR G a0 3 0 fun r10_2 =>
  q_gR G a0 3 0 fun r20_3 =>
  q_nn r20_3 fun b31_4 =>
  q_nn r10_2 fun b31_5 =>
  q_cpy G b31_5 ((x1 + (1 : Int32)) * (12 : Int32)) b31_4 (x1 * (12 : Int32)) (((v1_1 - (1 : Int32)) - x1) * (12 : Int32)) fun G =>
  q_gI G a0 3 1 fun v36_6 =>
  q_pI G a0 3 1 (v36_6 - (1 : Int32)) fun G =>
  some (G, ())
set_option maxRecDepth 100000 in
set_option maxHeartbeats 4000000 in
theorem bX2_remove_0 {p : Program} {l : Launch} {e : Env} {s : State} {m : MethodId} {args : Array Value} {below : List Frame} {meth : Method} {c : Code} {E : mm_E} {N a0 : Nat} {res : mm_M × Unit} (X : mm_X p s m args meth c prog_4_method_6_code 3 "XorOverlay$Line" tw_T E) (hr : meth.sig.returnType = none) {G : mm_M} {H : Heap} {locs : List Loc} {ls : Array Slot} {x1 : Int32} (V : mm_V E s G H locs) (hl : lx_has ls 3 [(0, .inr (some a0)), (1, .inl x1)]) (hp : pX2_remove_0 N a0 G x1 = some res) : W p l e rX2_remove s m args below meth c H locs 0 0 (MQ below (mm_Qv E res.1) args s 0 0 (mm_A E)) (F0 m 0 ls []) := by
  have hx := X.1.1
  have hb := X.1.2.1
  unfold pX2_remove_0 at hp
  refine x_aload_n X dX2_remove_0 hl 0 rfl rfl ?_
  refine q_getI (ci := 2) X V inX2 rfl (by decide) rfl 1 (by decide) rfl (tw_1 28 rfl rfl) rfl dX2_remove_1 hp (fun v1_1 hp => ?_)
  refine lv_iconst (v := (1 : Int32)) hx hb dX2_remove_4 (by decide) ?_
  refine lv_isub hx hb dX2_remove_5 ?_
  refine x_iload_n X dX2_remove_6 hl 1 rfl rfl ?_
  refine lv_isub hx hb dX2_remove_7 ?_
  refine x_istore_n (lst' := [(2, .inl ((v1_1 - (1 : Int32)) - x1)), (0, .inr (some a0)), (1, .inl x1)]) X dX2_remove_8 hl rfl (by decide) rfl (fun ls hl => ?_)
  refine x_aload_n X dX2_remove_9 hl 1 rfl rfl ?_
  refine q_getR (ci := 2) X V inX2 rfl (by decide) rfl 0 (by decide) rfl (tw_1 27 rfl rfl) rfl dX2_remove_10 hp (fun r10_2 hp => ?_)
  refine x_iload_n X dX2_remove_13 hl 2 rfl rfl ?_
  refine lv_iconst (v := (1 : Int32)) hx hb dX2_remove_14 (by decide) ?_
  refine lv_iadd hx hb dX2_remove_15 ?_
  refine lv_bipush (v := (12 : Int32)) hx hb dX2_remove_16 (by decide) ?_
  refine lv_imul hx hb dX2_remove_18 ?_
  refine x_aload_n X dX2_remove_19 hl 1 rfl rfl ?_
  refine q_getR (ci := 2) X V inX2 rfl (by decide) rfl 0 (by decide) rfl (tw_1 27 rfl rfl) rfl dX2_remove_20 hp (fun r20_3 hp => ?_)
  refine x_iload_n X dX2_remove_23 hl 2 rfl rfl ?_
  refine lv_bipush (v := (12 : Int32)) hx hb dX2_remove_24 (by decide) ?_
  refine lv_imul hx hb dX2_remove_26 ?_
  refine x_iload_n X dX2_remove_27 hl 0 rfl rfl ?_
  refine lv_bipush (v := (12 : Int32)) hx hb dX2_remove_28 (by decide) ?_
  refine lv_imul hx hb dX2_remove_30 ?_
  obtain ⟨b31_4, e0, hp2⟩ := q_nn_of hp
  clear hp; subst e0; have hp := hp2; clear hp2
  obtain ⟨b31_5, e0, hp2⟩ := q_nn_of hp
  clear hp; subst e0; have hp := hp2; clear hp2
  refine q_copy X V hl.1 (tw_2 104 rfl rfl) (tw_2 106 rfl rfl) (tw_2 105 rfl rfl) (tw_1 10 rfl rfl) (by decide) (by decide) dX2_remove_31 hp (fun G H locs V hp => ?_)
  refine x_aload_n X dX2_remove_34 hl 1 rfl rfl ?_
  refine lv_dup hx hb dX2_remove_35 (va_rf_cat _) ?_
  refine q_getI (ci := 2) X V inX2 rfl (by decide) rfl 1 (by decide) rfl (tw_1 28 rfl rfl) rfl dX2_remove_36 hp (fun v36_6 hp => ?_)
  refine lv_iconst (v := (1 : Int32)) hx hb dX2_remove_39 (by decide) ?_
  refine lv_isub hx hb dX2_remove_40 ?_
  refine q_putI (ci := 2) X V inX2 rfl tyX2 tyX2_ok nmX2 (by decide) rfl 1 (by decide) rfl (tw_1 28 rfl rfl) rfl (Or.inl rfl) .int rfl rfl rfl dX2_remove_41 hp (fun G H locs V hp => ?_)
  exact q_vret X V hr ⟨by decide, by decide⟩ dX2_remove_44 hp
theorem cX2_remove (l : Launch) (E : mm_E) {N a0 : Nat} {G : mm_M} {x1 : Int32} {res : mm_M × Unit} (hp : pX2_remove_0 N a0 G x1 = some res) : Met l yX2_remove (Cond.code yX2_remove prog_4_method_6_code 3 none :: tw_T) rX2_remove (mm_Pc E G [.ref a0, .int x1]) (mm_Qv E res.1) 0 0 (mm_A E) :=
  mm_met (own := "XorOverlay$Line") E G [.inr (some a0), .inl x1] (by decide) rfl rfl (Nat.le_of_ble_eq_true rfl) (fun p e s m args below meth c ls X hr hi V hl => bX2_remove_0 X hr V hl hp)
