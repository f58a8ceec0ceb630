abbrev yX6_epochNow : MethodName := ⟨"XorOverlay", "epochNow", "()I"⟩
abbrev rX6_epochNow : Room := { frames := 0, cells := 0, slots := 0, locals := 0 }
theorem kX6_epochNow : Cond.code yX6_epochNow prog_1_method_22_code 1 (Option.some .int) ∈ tw_T ∧ Cond.instanceMethod yX6_epochNow ∈ tw_T ∧ Cond.selects "XorOverlay" yX6_epochNow yX6_epochNow ∈ tw_T ∧ Cond.initialized "XorOverlay" ∈ tw_T := ⟨(tw_2 191 rfl rfl), (tw_2 190 rfl rfl), (tw_s 13 rfl rfl), (tw_1 1 rfl rfl)⟩
theorem hX6_epochNow : yX6_epochNow.cls = "XorOverlay" ∧ yX6_epochNow.cls ≠ "java/lang/invoke/MethodHandle" ∧ yX6_epochNow.cls ≠ "java/lang/invoke/VarHandle" ∧ (parseMethodDescriptor yX6_epochNow.desc).map (fun d => d.parameters.length) = some 0 := by decide +kernel
theorem dX6_epochNow_0 : decode prog_1_method_22_code 0 = .ok (.iconst 1, 1) := by decide +kernel
theorem dX6_epochNow_1 : decode prog_1_method_22_code 1 = .ok (.aload_n 0, 1) := by decide +kernel
theorem dX6_epochNow_2 : decode prog_1_method_22_code 2 = .ok (.getfield 33, 3) := by decide +kernel
theorem dX6_epochNow_5 : decode prog_1_method_22_code 5 = .ok (.bipush 8, 2) := by decide +kernel
theorem dX6_epochNow_7 : decode prog_1_method_22_code 7 = .ok (.idiv, 1) := by decide +kernel
theorem dX6_epochNow_8 : decode prog_1_method_22_code 8 = .ok (.iadd, 1) := by decide +kernel
theorem dX6_epochNow_9 : decode prog_1_method_22_code 9 = .ok (.ireturn, 1) := by decide +kernel
def pX6_epochNow_0 (N a0 : Nat) (G : mm_M) : Option (mm_M × Int32) :=
  q_gI G a0 7 5 fun v2_1 =>
  some (G, ((1 : Int32) + (v2_1 / (8 : Int32))))
set_option maxRecDepth 100000 in
set_option maxHeartbeats 4000000 in
theorem bX6_epochNow_0 {p : Program} {l : Launch} {e : Env} {s : State} {m : MethodId} {args : Array Value} {below : List Frame} {meth : Method} {c : Code} {E : mm_E} {N a0 : Nat} {res : mm_M × Int32} (X : mm_X p s m args meth c prog_1_method_22_code 1 "XorOverlay" tw_T E) (hr : meth.sig.returnType = (Option.some .int)) {G : mm_M} {H : Heap} {locs : List Loc} {ls : Array Slot} (V : mm_V E s G H locs) (hl : lx_has ls 1 [(0, .inr (some a0))]) (hp : pX6_epochNow_0 N a0 G = some res) : W p l e rX6_epochNow s m args below meth c H locs 0 0 (MQ below (mm_Qi E res.1 res.2) args s 0 0 (mm_A E)) (F0 m 0 ls []) := by
  have hx := X.1.1
  have hb := X.1.2.1
  unfold pX6_epochNow_0 at hp
  refine lv_iconst (v := (1 : Int32)) hx hb dX6_epochNow_0 (by decide) ?_
  refine x_aload_n X dX6_epochNow_1 hl 0 rfl rfl ?_
  refine q_getI (ci := 6) X V inX6 rfl (by decide) rfl 5 (by decide) rfl (tw_1 41 rfl rfl) rfl dX6_epochNow_2 hp (fun v2_1 hp => ?_)
  refine lv_bipush (v := (8 : Int32)) hx hb dX6_epochNow_5 (by decide) ?_
  refine lv_idiv hx hb dX6_epochNow_7 (by decide) ?_
  refine lv_iadd hx hb dX6_epochNow_8 ?_
  exact q_iret X V hr ⟨by decide, by decide⟩ dX6_epochNow_9 hp
theorem cX6_epochNow (l : Launch) (E : mm_E) {N a0 : Nat} {G : mm_M} {res : mm_M × Int32} (hp : pX6_epochNow_0 N a0 G = some res) : Met l yX6_epochNow (Cond.code yX6_epochNow prog_1_method_22_code 1 (Option.some .int) :: tw_T) rX6_epochNow (mm_Pc E G [.ref a0]) (mm_Qi E res.1 res.2) 0 0 (mm_A E) :=
  mm_met (own := "XorOverlay") E G [.inr (some a0)] (by decide) rfl rfl (Nat.le_of_ble_eq_true rfl) (fun p e s m args below meth c ls X hr hi V hl => bX6_epochNow_0 X hr V hl hp)
abbrev yX6_tokenOf : MethodName := ⟨"XorOverlay", "tokenOf", "(III)I"⟩
abbrev rX6_tokenOf : Room := { frames := 0, cells := 0, slots := 0, locals := 0 }
theorem kX6_tokenOf : Cond.code yX6_tokenOf prog_1_method_21_code 4 (Option.some .int) ∈ tw_T ∧ Cond.static yX6_tokenOf ∈ tw_T ∧ Cond.initialized "XorOverlay" ∈ tw_T := ⟨(tw_2 194 rfl rfl), (tw_2 193 rfl rfl), (tw_1 1 rfl rfl)⟩
theorem hX6_tokenOf : yX6_tokenOf.cls = "XorOverlay" ∧ yX6_tokenOf.cls ≠ "java/lang/invoke/MethodHandle" ∧ yX6_tokenOf.cls ≠ "java/lang/invoke/VarHandle" ∧ (parseMethodDescriptor yX6_tokenOf.desc).map (fun d => d.parameters.length) = some 3 := by decide +kernel
theorem dX6_tokenOf_0 : decode prog_1_method_21_code 0 = .ok (.ldc 175, 2) := by decide +kernel
theorem dX6_tokenOf_2 : decode prog_1_method_21_code 2 = .ok (.iload_n 0, 1) := by decide +kernel
theorem dX6_tokenOf_3 : decode prog_1_method_21_code 3 = .ok (.imul, 1) := by decide +kernel
theorem dX6_tokenOf_4 : decode prog_1_method_21_code 4 = .ok (.sipush 9973, 3) := by decide +kernel
theorem dX6_tokenOf_7 : decode prog_1_method_21_code 7 = .ok (.iload_n 1, 1) := by decide +kernel
theorem dX6_tokenOf_8 : decode prog_1_method_21_code 8 = .ok (.imul, 1) := by decide +kernel
theorem dX6_tokenOf_9 : decode prog_1_method_21_code 9 = .ok (.iadd, 1) := by decide +kernel
theorem dX6_tokenOf_10 : decode prog_1_method_21_code 10 = .ok (.sipush 30011, 3) := by decide +kernel
theorem dX6_tokenOf_13 : decode prog_1_method_21_code 13 = .ok (.iload_n 2, 1) := by decide +kernel
theorem dX6_tokenOf_14 : decode prog_1_method_21_code 14 = .ok (.imul, 1) := by decide +kernel
theorem dX6_tokenOf_15 : decode prog_1_method_21_code 15 = .ok (.iadd, 1) := by decide +kernel
theorem dX6_tokenOf_16 : decode prog_1_method_21_code 16 = .ok (.istore_n 3, 1) := by decide +kernel
theorem dX6_tokenOf_17 : decode prog_1_method_21_code 17 = .ok (.iload_n 3, 1) := by decide +kernel
theorem dX6_tokenOf_18 : decode prog_1_method_21_code 18 = .ok (.iload_n 3, 1) := by decide +kernel
theorem dX6_tokenOf_19 : decode prog_1_method_21_code 19 = .ok (.bipush 7, 2) := by decide +kernel
theorem dX6_tokenOf_21 : decode prog_1_method_21_code 21 = .ok (.iushr, 1) := by decide +kernel
theorem dX6_tokenOf_22 : decode prog_1_method_21_code 22 = .ok (.ixor, 1) := by decide +kernel
theorem dX6_tokenOf_23 : decode prog_1_method_21_code 23 = .ok (.ldc 176, 2) := by decide +kernel
theorem dX6_tokenOf_25 : decode prog_1_method_21_code 25 = .ok (.iand, 1) := by decide +kernel
theorem dX6_tokenOf_26 : decode prog_1_method_21_code 26 = .ok (.ireturn, 1) := by decide +kernel
def pX6_tokenOf_0 (N : Nat) (G : mm_M) (x0 : Int32) (x1 : Int32) (x2 : Int32) : Option (mm_M × Int32) :=
  some (G, ((((((40503 : Int32) * x0) + ((9973 : Int32) * x1)) + ((30011 : Int32) * x2)) ^^^ (((((((40503 : Int32) * x0) + ((9973 : Int32) * x1)) + ((30011 : Int32) * x2))).toUInt32 >>> (((7 : Int32)).toUInt32 &&& Int32.toUInt32 31)).toInt32)) &&& (65535 : Int32)))
set_option maxRecDepth 100000 in
set_option maxHeartbeats 4000000 in
theorem bX6_tokenOf_0 {p : Program} {l : Launch} {e : Env} {s : State} {m : MethodId} {args : Array Value} {below : List Frame} {meth : Method} {c : Code} {E : mm_E} {N : Nat} {res : mm_M × Int32} (X : mm_X p s m args meth c prog_1_method_21_code 4 "XorOverlay" tw_T E) (hr : meth.sig.returnType = (Option.some .int)) {G : mm_M} {H : Heap} {locs : List Loc} {ls : Array Slot} {x0 : Int32} {x1 : Int32} {x2 : Int32} (V : mm_V E s G H locs) (hl : lx_has ls 4 [(0, .inl x0), (1, .inl x1), (2, .inl x2)]) (hp : pX6_tokenOf_0 N G x0 x1 x2 = some res) : W p l e rX6_tokenOf s m args below meth c H locs 0 0 (MQ below (mm_Qi E res.1 res.2) args s 0 0 (mm_A E)) (F0 m 0 ls []) := by
  have hx := X.1.1
  have hb := X.1.2.1
  unfold pX6_tokenOf_0 at hp
  refine lv_ldc (v := (40503 : Int32)) hx hb X.1.2.2.2.1 (X.1.2.2.2.2 _ (tw_2 195 rfl rfl)) dX6_tokenOf_0 ?_
  refine x_iload_n X dX6_tokenOf_2 hl 0 rfl rfl ?_
  refine lv_imul hx hb dX6_tokenOf_3 ?_
  refine lv_sipush (v := (9973 : Int32)) hx hb dX6_tokenOf_4 (by decide) ?_
  refine x_iload_n X dX6_tokenOf_7 hl 1 rfl rfl ?_
  refine lv_imul hx hb dX6_tokenOf_8 ?_
  refine lv_iadd hx hb dX6_tokenOf_9 ?_
  refine lv_sipush (v := (30011 : Int32)) hx hb dX6_tokenOf_10 (by decide) ?_
  refine x_iload_n X dX6_tokenOf_13 hl 2 rfl rfl ?_
  refine lv_imul hx hb dX6_tokenOf_14 ?_
  refine lv_iadd hx hb dX6_tokenOf_15 ?_
  refine x_istore_n (lst' := [(3, .inl ((((40503 : Int32) * x0) + ((9973 : Int32) * x1)) + ((30011 : Int32) * x2))), (0, .inl x0), (1, .inl x1), (2, .inl x2)]) X dX6_tokenOf_16 hl rfl (by decide) rfl (fun ls hl => ?_)
  refine x_iload_n X dX6_tokenOf_17 hl 0 rfl rfl ?_
  refine x_iload_n X dX6_tokenOf_18 hl 0 rfl rfl ?_
  refine lv_bipush (v := (7 : Int32)) hx hb dX6_tokenOf_19 (by decide) ?_
  refine lv_iushr (v := ((((((40503 : Int32) * x0) + ((9973 : Int32) * x1)) + ((30011 : Int32) * x2))).toUInt32 >>> (((7 : Int32)).toUInt32 &&& Int32.toUInt32 31)).toInt32) hx hb dX6_tokenOf_21 rfl ?_
  refine lv_ixor hx hb dX6_tokenOf_22 ?_
  refine lv_ldc (v := (65535 : Int32)) hx hb X.1.2.2.2.1 (X.1.2.2.2.2 _ (tw_2 196 rfl rfl)) dX6_tokenOf_23 ?_
  refine lv_iand hx hb dX6_tokenOf_25 ?_
  exact q_iret X V hr ⟨by decide, by decide⟩ dX6_tokenOf_26 hp
theorem cX6_tokenOf (l : Launch) (E : mm_E) {N : Nat} {G : mm_M} {x0 : Int32} {x1 : Int32} {x2 : Int32} {res : mm_M × Int32} (hp : pX6_tokenOf_0 N G x0 x1 x2 = some res) : Met l yX6_tokenOf (Cond.code yX6_tokenOf prog_1_method_21_code 4 (Option.some .int) :: tw_T) rX6_tokenOf (mm_Pc E G [.int x0, .int x1, .int x2]) (mm_Qi E res.1 res.2) 0 0 (mm_A E) :=
  mm_met (own := "XorOverlay") E G [.inl x0, .inl x1, .inl x2] (by decide) rfl rfl (Nat.le_of_ble_eq_true rfl) (fun p e s m args below meth c ls X hr hi V hl => bX6_tokenOf_0 X hr V hl hp)
abbrev yX6_writeHolders : MethodName := ⟨"XorOverlay", "writeHolders", "(LXorOverlay$Entries;I)V"⟩
abbrev rX6_writeHolders : Room := { frames := 0, cells := 0, slots := 0, locals := 0 }
theorem kX6_writeHolders : Cond.code yX6_writeHolders prog_1_method_33_code 5 none ∈ tw_T ∧ Cond.instanceMethod yX6_writeHolders ∈ tw_T ∧ Cond.selects "XorOverlay" yX6_writeHolders yX6_writeHolders ∈ tw_T ∧ Cond.initialized "XorOverlay" ∈ tw_T := ⟨(tw_2 200 rfl rfl), (tw_2 199 rfl rfl), (tw_s 14 rfl rfl), (tw_1 1 rfl rfl)⟩
theorem hX6_writeHolders : yX6_writeHolders.cls = "XorOverlay" ∧ yX6_writeHolders.cls ≠ "java/lang/invoke/MethodHandle" ∧ yX6_writeHolders.cls ≠ "java/lang/invoke/VarHandle" ∧ (parseMethodDescriptor yX6_writeHolders.desc).map (fun d => d.parameters.length) = some 2 := by decide +kernel
theorem dX6_writeHolders_0 : decode prog_1_method_33_code 0 = .ok (.iconst 0, 1) := by decide +kernel
theorem dX6_writeHolders_1 : decode prog_1_method_33_code 1 = .ok (.istore_n 3, 1) := by decide +kernel
theorem dX6_writeHolders_2 : decode prog_1_method_33_code 2 = .ok (.iconst 0, 1) := by decide +kernel
theorem dX6_writeHolders_3 : decode prog_1_method_33_code 3 = .ok (.istore 4, 2) := by decide +kernel
theorem dX6_writeHolders_5 : decode prog_1_method_33_code 5 = .ok (.iload 4, 2) := by decide +kernel
theorem dX6_writeHolders_7 : decode prog_1_method_33_code 7 = .ok (.aload_n 1, 1) := by decide +kernel
theorem dX6_writeHolders_8 : decode prog_1_method_33_code 8 = .ok (.getfield 166, 3) := by decide +kernel
theorem dX6_writeHolders_11 : decode prog_1_method_33_code 11 = .ok (.if_icmp .ge 44, 3) := by decide +kernel
theorem dX6_writeHolders_14 : decode prog_1_method_33_code 14 = .ok (.iload_n 3, 1) := by decide +kernel
theorem dX6_writeHolders_15 : decode prog_1_method_33_code 15 = .ok (.iconst 3, 1) := by decide +kernel
theorem dX6_writeHolders_16 : decode prog_1_method_33_code 16 = .ok (.if_icmp .ge 39, 3) := by decide +kernel
theorem dX6_writeHolders_19 : decode prog_1_method_33_code 19 = .ok (.aload_n 1, 1) := by decide +kernel
theorem dX6_writeHolders_20 : decode prog_1_method_33_code 20 = .ok (.getfield 167, 3) := by decide +kernel
theorem dX6_writeHolders_23 : decode prog_1_method_33_code 23 = .ok (.iload 4, 2) := by decide +kernel
theorem dX6_writeHolders_25 : decode prog_1_method_33_code 25 = .ok (.iaload, 1) := by decide +kernel
theorem dX6_writeHolders_26 : decode prog_1_method_33_code 26 = .ok (.iload_n 2, 1) := by decide +kernel
theorem dX6_writeHolders_27 : decode prog_1_method_33_code 27 = .ok (.if_icmp .ne 22, 3) := by decide +kernel
theorem dX6_writeHolders_30 : decode prog_1_method_33_code 30 = .ok (.aload_n 0, 1) := by decide +kernel
theorem dX6_writeHolders_31 : decode prog_1_method_33_code 31 = .ok (.getfield 22, 3) := by decide +kernel
theorem dX6_writeHolders_34 : decode prog_1_method_33_code 34 = .ok (.bipush 9, 2) := by decide +kernel
theorem dX6_writeHolders_36 : decode prog_1_method_33_code 36 = .ok (.iload_n 3, 1) := by decide +kernel
theorem dX6_writeHolders_37 : decode prog_1_method_33_code 37 = .ok (.iadd, 1) := by decide +kernel
theorem dX6_writeHolders_38 : decode prog_1_method_33_code 38 = .ok (.aload_n 1, 1) := by decide +kernel
theorem dX6_writeHolders_39 : decode prog_1_method_33_code 39 = .ok (.getfield 170, 3) := by decide +kernel
theorem dX6_writeHolders_42 : decode prog_1_method_33_code 42 = .ok (.iload 4, 2) := by decide +kernel
theorem dX6_writeHolders_44 : decode prog_1_method_33_code 44 = .ok (.iaload, 1) := by decide +kernel
theorem dX6_writeHolders_45 : decode prog_1_method_33_code 45 = .ok (.iastore, 1) := by decide +kernel
theorem dX6_writeHolders_46 : decode prog_1_method_33_code 46 = .ok (.iinc 3 1, 3) := by decide +kernel
theorem dX6_writeHolders_49 : decode prog_1_method_33_code 49 = .ok (.iinc 4 1, 3) := by decide +kernel
theorem dX6_writeHolders_52 : decode prog_1_method_33_code 52 = .ok (.goto (-47), 3) := by decide +kernel
theorem dX6_writeHolders_55 : decode prog_1_method_33_code 55 = .ok (.return_, 1) := by decide +kernel
def pX6_writeHolders_5_b (N a0 : Nat) (kb : mm_M → Option Nat → Int32 → Int32 → Int32 → Option (mm_M × Unit)) (kx : mm_M → Option (mm_M × Unit)) (G : mm_M) (x1 : Option Nat) (x2 : Int32) (x3 : Int32) (x4 : Int32) : Option (mm_M × Unit) :=
  q_nn x1 fun b8_1 =>
  q_gI G b8_1 2 3 fun v8_2 =>
  if v8_2 ≤ x4 then
    kx G
  else
    if (3 : Int32) ≤ x3 then
      kx G
    else
      q_gR G b8_1 2 0 fun r20_3 =>
      q_nn r20_3 fun b25_4 =>
      q_aI G b25_4 101 x4 fun v25_5 =>
      if v25_5 = x2 then
        q_gR G a0 7 2 fun r31_6 =>
        q_gR G b8_1 2 1 fun r39_7 =>
        q_nn r39_7 fun b44_8 =>
        q_aI G b44_8 101 x4 fun v44_9 =>
        q_nn r31_6 fun b45_10 =>
        q_sI G b45_10 101 ((9 : Int32) + x3) v44_9 fun G =>
        kb G (some b8_1) x2 (x3 + (1 : Int32)) (x4 + (1 : Int32))
      else
        kb G (some b8_1) x2 x3 (x4 + (1 : Int32))
def pX6_writeHolders_5 (N a0 : Nat) (kx : mm_M → Option (mm_M × Unit)) : Nat → mm_M → Option Nat → Int32 → Int32 → Int32 → Option (mm_M × Unit)
  | 0 => fun _ _ _ _ _ => none
  | n + 1 => pX6_writeHolders_5_b N a0 (pX6_writeHolders_5 N a0 kx n) kx
set_option maxRecDepth 100000 in
set_option maxHeartbeats 4000000 in
theorem bX6_writeHolders_5 {p : Program} {l : Launch} {e : Env} {s : State} {m : MethodId} {args : Array Value} {below : List Frame} {meth : Method} {c : Code} {E : mm_E} {N a0 : Nat} {res : mm_M × Unit} (X : mm_X p s m args meth c prog_1_method_33_code 5 "XorOverlay" tw_T E) (hr : meth.sig.returnType = none) {kx : mm_M → Option (mm_M × Unit)} (hkx : ∀ (G : mm_M) (H : Heap) (locs : List Loc) (ls : Array Slot), mm_V E s G H locs → lx_has ls 5 [(0, .inr (some a0))] → kx G = some res → W p l e rX6_writeHolders s m args below meth c H locs 0 0 (MQ below (mm_Qv E res.1) args s 0 0 (mm_A E)) (F0 m 55 ls [])) :
    ∀ (n : Nat) (G : mm_M) (H : Heap) (locs : List Loc) (ls : Array Slot) (x1 : Option Nat) (x2 : Int32) (x3 : Int32) (x4 : Int32), mm_V E s G H locs → lx_has ls 5 [(0, .inr (some a0)), (1, .inr x1), (2, .inl x2), (3, .inl x3), (4, .inl x4)] → pX6_writeHolders_5 N a0 kx n G x1 x2 x3 x4 = some res → W p l e rX6_writeHolders s m args below meth c H locs 0 0 (MQ below (mm_Qv E res.1) args s 0 0 (mm_A E)) (F0 m 5 ls []) := by
  have hx := X.1.1
  have hb := X.1.2.1
  intro n
  induction n with
  | zero =>
    intro G H locs ls x1 x2 x3 x4 V hl hp
    cases hp
  | succ n ih =>
    intro G H locs ls x1 x2 x3 x4 V hl hp
    have hp : pX6_writeHolders_5_b N a0 (pX6_writeHolders_5 N a0 kx n) kx G x1 x2 x3 x4 = some res := hp
    unfold pX6_writeHolders_5_b at hp
    refine x_iload X dX6_writeHolders_5 hl 4 rfl ?_
    refine x_aload_n X dX6_writeHolders_7 hl 1 rfl rfl ?_
    obtain ⟨b8_1, e0, hp2⟩ := q_nn_of hp
    clear hp; subst e0; have hp := hp2; clear hp2
    refine q_getI (ci := 1) X V inX1 rfl (by decide) rfl 3 (by decide) rfl (tw_1 202 rfl rfl) rfl dX6_writeHolders_8 hp (fun v8_2 hp => ?_)
    refine q_if hp (lv_icmp_ge (tgt := 55) hx hb dX6_writeHolders_11 (by decide)) (fun hp => ?_) (fun hp => ?_)
    · exact hkx _ _ _ _ V (lx_sub hl [0] rfl) hp
    · refine x_iload_n X dX6_writeHolders_14 hl 3 rfl rfl ?_
      refine lv_iconst (v := (3 : Int32)) hx hb dX6_writeHolders_15 (by decide) ?_
      refine q_if hp (lv_icmp_ge (tgt := 55) hx hb dX6_writeHolders_16 (by decide)) (fun hp => ?_) (fun hp => ?_)
      · exact hkx _ _ _ _ V (lx_sub hl [0] rfl) hp
      · refine x_aload_n X dX6_writeHolders_19 hl 1 rfl rfl ?_
        refine q_getR (ci := 1) X V inX1 rfl (by decide) rfl 0 (by decide) rfl (tw_1 195 rfl rfl) rfl dX6_writeHolders_20 hp (fun r20_3 hp => ?_)
        refine x_iload X dX6_writeHolders_23 hl 4 rfl ?_
        obtain ⟨b25_4, e0, hp2⟩ := q_nn_of hp
        clear hp; subst e0; have hp := hp2; clear hp2
        refine q_iald X V dX6_writeHolders_25 hp (fun v25_5 hp => ?_)
        refine x_iload_n X dX6_writeHolders_26 hl 2 rfl rfl ?_
        refine q_ifn hp (lv_icmp_ne (tgt := 49) hx hb dX6_writeHolders_27 (by decide)) (fun hp => ?_) (fun hp => ?_)
        · refine x_iinc (v := (1 : Int32)) (lst' := [(4, .inl (x4 + (1 : Int32))), (0, .inr (some a0)), (1, .inr (some b8_1)), (2, .inl x2), (3, .inl x3)]) X dX6_writeHolders_49 hl 4 rfl (by decide) (by decide) rfl (fun ls hl => ?_)
          refine lv_goto (tgt := 5) hx hb dX6_writeHolders_52 (by decide) ?_
          exact ih _ _ _ _ _ _ _ _ V (lx_sub hl [1, 2, 3, 4, 0] rfl) hp
        · refine x_aload_n X dX6_writeHolders_30 hl 0 rfl rfl ?_
          refine q_getR (ci := 6) X V inX6 rfl (by decide) rfl 2 (by decide) rfl (tw_1 38 rfl rfl) rfl dX6_writeHolders_31 hp (fun r31_6 hp => ?_)
          refine lv_bipush (v := (9 : Int32)) hx hb dX6_writeHolders_34 (by decide) ?_
          refine x_iload_n X dX6_writeHolders_36 hl 3 rfl rfl ?_
          refine lv_iadd hx hb dX6_writeHolders_37 ?_
          refine x_aload_n X dX6_writeHolders_38 hl 1 rfl rfl ?_
          refine q_getR (ci := 1) X V inX1 rfl (by decide) rfl 1 (by decide) rfl (tw_1 197 rfl rfl) rfl dX6_writeHolders_39 hp (fun r39_7 hp => ?_)
          refine x_iload X dX6_writeHolders_42 hl 4 rfl ?_
          obtain ⟨b44_8, e0, hp2⟩ := q_nn_of hp
          clear hp; subst e0; have hp := hp2; clear hp2
          refine q_iald X V dX6_writeHolders_44 hp (fun v44_9 hp => ?_)
          obtain ⟨b45_10, e0, hp2⟩ := q_nn_of hp
          clear hp; subst e0; have hp := hp2; clear hp2
          refine q_iast X V dX6_writeHolders_45 hp (fun G H locs V hp => ?_)
          refine x_iinc (v := (1 : Int32)) (lst' := [(3, .inl (x3 + (1 : Int32))), (0, .inr (some a0)), (1, .inr (some b8_1)), (2, .inl x2), (4, .inl x4)]) X dX6_writeHolders_46 hl 3 rfl (by decide) (by decide) rfl (fun ls hl => ?_)
          refine x_iinc (v := (1 : Int32)) (lst' := [(4, .inl (x4 + (1 : Int32))), (3, .inl (x3 + (1 : Int32))), (0, .inr (some a0)), (1, .inr (some b8_1)), (2, .inl x2)]) X dX6_writeHolders_49 hl 4 rfl (by decide) (by decide) rfl (fun ls hl => ?_)
          refine lv_goto (tgt := 5) hx hb dX6_writeHolders_52 (by decide) ?_
          exact ih _ _ _ _ _ _ _ _ V (lx_sub hl [2, 3, 4, 1, 0] rfl) hp
def pX6_writeHolders_0 (N a0 : Nat) (G : mm_M) (x1 : Option Nat) (x2 : Int32) : Option (mm_M × Unit) :=
  pX6_writeHolders_5 N a0 (fun (G : mm_M) =>
    some (G, ())) N G x1 x2 (0 : Int32) (0 : Int32)
set_option maxRecDepth 100000 in
set_option maxHeartbeats 4000000 in
theorem bX6_writeHolders_0 {p : Program} {l : Launch} {e : Env} {s : State} {m : MethodId} {args : Array Value} {below : List Frame} {meth : Method} {c : Code} {E : mm_E} {N a0 : Nat} {res : mm_M × Unit} (X : mm_X p s m args meth c prog_1_method_33_code 5 "XorOverlay" tw_T E) (hr : meth.sig.returnType = none) {G : mm_M} {H : Heap} {locs : List Loc} {ls : Array Slot} {x1 : Option Nat} {x2 : Int32} (V : mm_V E s G H locs) (hl : lx_has ls 5 [(0, .inr (some a0)), (1, .inr x1), (2, .inl x2)]) (hp : pX6_writeHolders_0 N a0 G x1 x2 = some res) : W p l e rX6_writeHolders s m args below meth c H locs 0 0 (MQ below (mm_Qv E res.1) args s 0 0 (mm_A E)) (F0 m 0 ls []) := by
  have hx := X.1.1
  have hb := X.1.2.1
  unfold pX6_writeHolders_0 at hp
  refine lv_iconst (v := (0 : Int32)) hx hb dX6_writeHolders_0 (by decide) ?_
  refine x_istore_n (lst' := [(3, .inl (0 : Int32)), (0, .inr (some a0)), (1, .inr x1), (2, .inl x2)]) X dX6_writeHolders_1 hl rfl (by decide) rfl (fun ls hl => ?_)
  refine lv_iconst (v := (0 : Int32)) hx hb dX6_writeHolders_2 (by decide) ?_
  refine x_istore (lst' := [(4, .inl (0 : Int32)), (3, .inl (0 : Int32)), (0, .inr (some a0)), (1, .inr x1), (2, .inl x2)]) X dX6_writeHolders_3 hl (by decide) rfl (fun ls hl => ?_)
  refine bX6_writeHolders_5 X hr (fun G H locs ls V hl hp => ?_) _ _ _ _ _ _ _ _ _ V (lx_sub hl [2, 3, 4, 1, 0] rfl) hp
  exact q_vret X V hr ⟨by decide, by decide⟩ dX6_writeHolders_55 hp
theorem cX6_writeHolders (l : Launch) (E : mm_E) {N a0 : Nat} {G : mm_M} {x1 : Option Nat} {x2 : Int32} {res : mm_M × Unit} (hp : pX6_writeHolders_0 N a0 G x1 x2 = some res) : Met l yX6_writeHolders (Cond.code yX6_writeHolders prog_1_method_33_code 5 none :: tw_T) rX6_writeHolders (mm_Pc E G [.ref a0, va_rf x1, .int x2]) (mm_Qv E res.1) 0 0 (mm_A E) :=
  mm_met (own := "XorOverlay") E G [.inr (some a0), .inr x1, .inl x2] (by decide) rfl rfl (Nat.le_of_ble_eq_true rfl) (fun p e s m args below meth c ls X hr hi V hl => bX6_writeHolders_0 X hr V hl hp)
abbrev yX6_answerQuery : MethodName := ⟨"XorOverlay", "answerQuery", "(LXorOverlay$Peer;)V"⟩
abbrev rX6_answerQuery : Room := { frames := 2, cells := 0, slots := 0, locals := 51 }
theorem kX6_answerQuery : Cond.code yX6_answerQuery prog_1_method_32_code 7 none ∈ tw_T ∧ Cond.instanceMethod yX6_answerQuery ∈ tw_T ∧ Cond.selects "XorOverlay" yX6_answerQuery yX6_answerQuery ∈ tw_T ∧ Cond.initialized "XorOverlay" ∈ tw_T := ⟨(tw_2 187 rfl rfl), (tw_2 186 rfl rfl), (tw_s 12 rfl rfl), (tw_1 1 rfl rfl)⟩
theorem hX6_answerQuery : yX6_answerQuery.cls = "XorOverlay" ∧ yX6_answerQuery.cls ≠ "java/lang/invoke/MethodHandle" ∧ yX6_answerQuery.cls ≠ "java/lang/invoke/VarHandle" ∧ (parseMethodDescriptor yX6_answerQuery.desc).map (fun d => d.parameters.length) = some 1 := by decide +kernel
theorem dX6_answerQuery_0 : decode prog_1_method_32_code 0 = .ok (.aload_n 0, 1) := by decide +kernel
theorem dX6_answerQuery_1 : decode prog_1_method_32_code 1 = .ok (.getfield 26, 3) := by decide +kernel
theorem dX6_answerQuery_4 : decode prog_1_method_32_code 4 = .ok (.iconst 1, 1) := by decide +kernel
theorem dX6_answerQuery_5 : decode prog_1_method_32_code 5 = .ok (.iaload, 1) := by decide +kernel
theorem dX6_answerQuery_6 : decode prog_1_method_32_code 6 = .ok (.istore_n 2, 1) := by decide +kernel
theorem dX6_answerQuery_7 : decode prog_1_method_32_code 7 = .ok (.aload_n 0, 1) := by decide +kernel
theorem dX6_answerQuery_8 : decode prog_1_method_32_code 8 = .ok (.getfield 26, 3) := by decide +kernel
theorem dX6_answerQuery_11 : decode prog_1_method_32_code 11 = .ok (.iconst 4, 1) := by decide +kernel
theorem dX6_answerQuery_12 : decode prog_1_method_32_code 12 = .ok (.iaload, 1) := by decide +kernel
theorem dX6_answerQuery_13 : decode prog_1_method_32_code 13 = .ok (.istore_n 3, 1) := by decide +kernel
theorem dX6_answerQuery_14 : decode prog_1_method_32_code 14 = .ok (.aload_n 1, 1) := by decide +kernel
theorem dX6_answerQuery_15 : decode prog_1_method_32_code 15 = .ok (.getfield 180, 3) := by decide +kernel
theorem dX6_answerQuery_18 : decode prog_1_method_32_code 18 = .ok (.iload_n 2, 1) := by decide +kernel
theorem dX6_answerQuery_19 : decode prog_1_method_32_code 19 = .ok (.aload_n 0, 1) := by decide +kernel
theorem dX6_answerQuery_20 : decode prog_1_method_32_code 20 = .ok (.invokevirtual 246, 3) := by decide +kernel
theorem dX6_answerQuery_23 : decode prog_1_method_32_code 23 = .ok (.invokestatic 249, 3) := by decide +kernel
theorem dX6_answerQuery_26 : decode prog_1_method_32_code 26 = .ok (.istore 4, 2) := by decide +kernel
theorem dX6_answerQuery_28 : decode prog_1_method_32_code 28 = .ok (.aload_n 0, 1) := by decide +kernel
theorem dX6_answerQuery_29 : decode prog_1_method_32_code 29 = .ok (.iconst 2, 1) := by decide +kernel
theorem dX6_answerQuery_30 : decode prog_1_method_32_code 30 = .ok (.aload_n 1, 1) := by decide +kernel
theorem dX6_answerQuery_31 : decode prog_1_method_32_code 31 = .ok (.getfield 180, 3) := by decide +kernel
theorem dX6_answerQuery_34 : decode prog_1_method_32_code 34 = .ok (.iload_n 2, 1) := by decide +kernel
theorem dX6_answerQuery_35 : decode prog_1_method_32_code 35 = .ok (.aload_n 0, 1) := by decide +kernel
theorem dX6_answerQuery_36 : decode prog_1_method_32_code 36 = .ok (.getfield 26, 3) := by decide +kernel
theorem dX6_answerQuery_39 : decode prog_1_method_32_code 39 = .ok (.iconst 3, 1) := by decide +kernel
theorem dX6_answerQuery_40 : decode prog_1_method_32_code 40 = .ok (.iaload, 1) := by decide +kernel
theorem dX6_answerQuery_41 : decode prog_1_method_32_code 41 = .ok (.iconst (-1), 1) := by decide +kernel
theorem dX6_answerQuery_42 : decode prog_1_method_32_code 42 = .ok (.iload 4, 2) := by decide +kernel
theorem dX6_answerQuery_44 : decode prog_1_method_32_code 44 = .ok (.invokevirtual 228, 3) := by decide +kernel
theorem dX6_answerQuery_47 : decode prog_1_method_32_code 47 = .ok (.aload_n 1, 1) := by decide +kernel
theorem dX6_answerQuery_48 : decode prog_1_method_32_code 48 = .ok (.getfield 54, 3) := by decide +kernel
theorem dX6_answerQuery_51 : decode prog_1_method_32_code 51 = .ok (.iload_n 3, 1) := by decide +kernel
theorem dX6_answerQuery_52 : decode prog_1_method_32_code 52 = .ok (.iconst (-1), 1) := by decide +kernel
theorem dX6_answerQuery_53 : decode prog_1_method_32_code 53 = .ok (.iload_n 2, 1) := by decide +kernel
theorem dX6_answerQuery_54 : decode prog_1_method_32_code 54 = .ok (.invokevirtual 162, 3) := by decide +kernel
theorem dX6_answerQuery_57 : decode prog_1_method_32_code 57 = .ok (.istore 5, 2) := by decide +kernel
theorem dX6_answerQuery_59 : decode prog_1_method_32_code 59 = .ok (.iconst 0, 1) := by decide +kernel
theorem dX6_answerQuery_60 : decode prog_1_method_32_code 60 = .ok (.istore 6, 2) := by decide +kernel
theorem dX6_answerQuery_62 : decode prog_1_method_32_code 62 = .ok (.iload 6, 2) := by decide +kernel
theorem dX6_answerQuery_64 : decode prog_1_method_32_code 64 = .ok (.iconst 3, 1) := by decide +kernel
theorem dX6_answerQuery_65 : decode prog_1_method_32_code 65 = .ok (.if_icmp .ge 42, 3) := by decide +kernel
theorem dX6_answerQuery_68 : decode prog_1_method_32_code 68 = .ok (.iload 5, 2) := by decide +kernel
theorem dX6_answerQuery_70 : decode prog_1_method_32_code 70 = .ok (.iconst (-1), 1) := by decide +kernel
theorem dX6_answerQuery_71 : decode prog_1_method_32_code 71 = .ok (.if_icmp .eq 36, 3) := by decide +kernel
theorem dX6_answerQuery_74 : decode prog_1_method_32_code 74 = .ok (.aload_n 0, 1) := by decide +kernel
theorem dX6_answerQuery_75 : decode prog_1_method_32_code 75 = .ok (.getfield 22, 3) := by decide +kernel
theorem dX6_answerQuery_78 : decode prog_1_method_32_code 78 = .ok (.bipush 6, 2) := by decide +kernel
theorem dX6_answerQuery_80 : decode prog_1_method_32_code 80 = .ok (.iload 6, 2) := by decide +kernel
theorem dX6_answerQuery_82 : decode prog_1_method_32_code 82 = .ok (.iadd, 1) := by decide +kernel
theorem dX6_answerQuery_83 : decode prog_1_method_32_code 83 = .ok (.iload 5, 2) := by decide +kernel
theorem dX6_answerQuery_85 : decode prog_1_method_32_code 85 = .ok (.iastore, 1) := by decide +kernel
theorem dX6_answerQuery_86 : decode prog_1_method_32_code 86 = .ok (.aload_n 1, 1) := by decide +kernel
theorem dX6_answerQuery_87 : decode prog_1_method_32_code 87 = .ok (.getfield 54, 3) := by decide +kernel
theorem dX6_answerQuery_90 : decode prog_1_method_32_code 90 = .ok (.iload_n 3, 1) := by decide +kernel
theorem dX6_answerQuery_91 : decode prog_1_method_32_code 91 = .ok (.iload 5, 2) := by decide +kernel
theorem dX6_answerQuery_93 : decode prog_1_method_32_code 93 = .ok (.iload_n 3, 1) := by decide +kernel
theorem dX6_answerQuery_94 : decode prog_1_method_32_code 94 = .ok (.ixor, 1) := by decide +kernel
theorem dX6_answerQuery_95 : decode prog_1_method_32_code 95 = .ok (.iload_n 2, 1) := by decide +kernel
theorem dX6_answerQuery_96 : decode prog_1_method_32_code 96 = .ok (.invokevirtual 162, 3) := by decide +kernel
theorem dX6_answerQuery_99 : decode prog_1_method_32_code 99 = .ok (.istore 5, 2) := by decide +kernel
theorem dX6_answerQuery_101 : decode prog_1_method_32_code 101 = .ok (.iinc 6 1, 3) := by decide +kernel
theorem dX6_answerQuery_104 : decode prog_1_method_32_code 104 = .ok (.goto (-42), 3) := by decide +kernel
theorem dX6_answerQuery_107 : decode prog_1_method_32_code 107 = .ok (.aload_n 0, 1) := by decide +kernel
theorem dX6_answerQuery_108 : decode prog_1_method_32_code 108 = .ok (.getfield 26, 3) := by decide +kernel
theorem dX6_answerQuery_111 : decode prog_1_method_32_code 111 = .ok (.iconst 0, 1) := by decide +kernel
theorem dX6_answerQuery_112 : decode prog_1_method_32_code 112 = .ok (.iaload, 1) := by decide +kernel
theorem dX6_answerQuery_113 : decode prog_1_method_32_code 113 = .ok (.iconst 1, 1) := by decide +kernel
theorem dX6_answerQuery_114 : decode prog_1_method_32_code 114 = .ok (.if_icmp .ne 12, 3) := by decide +kernel
theorem dX6_answerQuery_117 : decode prog_1_method_32_code 117 = .ok (.aload_n 0, 1) := by decide +kernel
theorem dX6_answerQuery_118 : decode prog_1_method_32_code 118 = .ok (.aload_n 1, 1) := by decide +kernel
theorem dX6_answerQuery_119 : decode prog_1_method_32_code 119 = .ok (.getfield 86, 3) := by decide +kernel
theorem dX6_answerQuery_122 : decode prog_1_method_32_code 122 = .ok (.iload_n 3, 1) := by decide +kernel
theorem dX6_answerQuery_123 : decode prog_1_method_32_code 123 = .ok (.invokevirtual 252, 3) := by decide +kernel
theorem dX6_answerQuery_126 : decode prog_1_method_32_code 126 = .ok (.aload_n 0, 1) := by decide +kernel
theorem dX6_answerQuery_127 : decode prog_1_method_32_code 127 = .ok (.getfield 18, 3) := by decide +kernel
theorem dX6_answerQuery_130 : decode prog_1_method_32_code 130 = .ok (.aload_n 0, 1) := by decide +kernel
theorem dX6_answerQuery_131 : decode prog_1_method_32_code 131 = .ok (.getfield 22, 3) := by decide +kernel
theorem dX6_answerQuery_134 : decode prog_1_method_32_code 134 = .ok (.invokevirtual 232, 3) := by decide +kernel
theorem dX6_answerQuery_137 : decode prog_1_method_32_code 137 = .ok (.return_, 1) := by decide +kernel
def pX6_answerQuery_62_b (N a0 : Nat) (kb : mm_M → Option Nat → Int32 → Int32 → Int32 → Int32 → Option (mm_M × Unit)) (kx : mm_M → Option Nat → Int32 → Option (mm_M × Unit)) (G : mm_M) (x1 : Option Nat) (x2 : Int32) (x3 : Int32) (x5 : Int32) (x6 : Int32) : Option (mm_M × Unit) :=
  if (3 : Int32) ≤ x6 then
    kx G x1 x3
  else
    if x5 = (-1 : Int32) then
      kx G x1 x3
    else
      q_gR G a0 7 2 fun r75_22 =>
      q_nn r75_22 fun b85_23 =>
      q_sI G b85_23 101 ((6 : Int32) + x6) x5 fun G =>
      q_nn x1 fun b87_24 =>
      q_gR G b87_24 5 1 fun r87_25 =>
      q_nn r87_25 fun b96_26 =>
      q_is G b96_26 6 <|
      q_cl (pX5_closestBeyond_0 N b96_26 G x3 (x5 ^^^ x3) x2) fun G v96_28 =>
      kb G (some b87_24) x2 x3 v96_28 (x6 + (1 : Int32))
def pX6_answerQuery_62 (N a0 : Nat) (kx : mm_M → Option Nat → Int32 → Option (mm_M × Unit)) : Nat → mm_M → Option Nat → Int32 → Int32 → Int32 → Int32 → Option (mm_M × Unit)
  | 0 => fun _ _ _ _ _ _ => none
  | n + 1 => pX6_answerQuery_62_b N a0 (pX6_answerQuery_62 N a0 kx n) kx
set_option maxRecDepth 100000 in
set_option maxHeartbeats 4000000 in
theorem bX6_answerQuery_62 {p : Program} {l : Launch} {e : Env} {s : State} {m : MethodId} {args : Array Value} {below : List Frame} {meth : Method} {c : Code} {E : mm_E} {N a0 : Nat} {res : mm_M × Unit} (X : mm_X p s m args meth c prog_1_method_32_code 7 "XorOverlay" tw_T E) (hr : meth.sig.returnType = none) {kx : mm_M → Option Nat → Int32 → Option (mm_M × Unit)} (hkx : ∀ (G : mm_M) (H : Heap) (locs : List Loc) (ls : Array Slot) (x1 : Option Nat) (x3 : Int32), mm_V E s G H locs → lx_has ls 7 [(0, .inr (some a0)), (1, .inr x1), (3, .inl x3)] → kx G x1 x3 = some res → W p l e rX6_answerQuery s m args below meth c H locs 0 0 (MQ below (mm_Qv E res.1) args s 0 0 (mm_A E)) (F0 m 107 ls [])) :
    ∀ (n : Nat) (G : mm_M) (H : Heap) (locs : List Loc) (ls : Array Slot) (x1 : Option Nat) (x2 : Int32) (x3 : Int32) (x5 : Int32) (x6 : Int32), mm_V E s G H locs → lx_has ls 7 [(0, .inr (some a0)), (1, .inr x1), (2, .inl x2), (3, .inl x3), (5, .inl x5), (6, .inl x6)] → pX6_answerQuery_62 N a0 kx n G x1 x2 x3 x5 x6 = some res → W p l e rX6_answerQuery s m args below meth c H locs 0 0 (MQ below (mm_Qv E res.1) args s 0 0 (mm_A E)) (F0 m 62 ls []) := by
  have hx := X.1.1
  have hb := X.1.2.1
  intro n
  induction n with
  | zero =>
    intro G H locs ls x1 x2 x3 x5 x6 V hl hp
    cases hp
  | succ n ih =>
    intro G H locs ls x1 x2 x3 x5 x6 V hl hp
    have hp : pX6_answerQuery_62_b N a0 (pX6_answerQuery_62 N a0 kx n) kx G x1 x2 x3 x5 x6 = some res := hp
    unfold pX6_answerQuery_62_b at hp
    refine x_iload X dX6_answerQuery_62 hl 5 rfl ?_
    refine lv_iconst (v := (3 : Int32)) hx hb dX6_answerQuery_64 (by decide) ?_
    refine q_if hp (lv_icmp_ge (tgt := 107) hx hb dX6_answerQuery_65 (by decide)) (fun hp => ?_) (fun hp => ?_)
    · exact hkx _ _ _ _ _ _ V (lx_sub hl [0, 1, 3] rfl) hp
    · refine x_iload X dX6_answerQuery_68 hl 4 rfl ?_
      refine lv_iconst (v := (-1 : Int32)) hx hb dX6_answerQuery_70 (by decide) ?_
      refine q_if hp (lv_icmp_eq (tgt := 107) hx hb dX6_answerQuery_71 (by decide)) (fun hp => ?_) (fun hp => ?_)
      · exact hkx _ _ _ _ _ _ V (lx_sub hl [0, 1, 3] rfl) hp
      · refine x_aload_n X dX6_answerQuery_74 hl 0 rfl rfl ?_
        refine q_getR (ci := 6) X V inX6 rfl (by decide) rfl 2 (by decide) rfl (tw_1 38 rfl rfl) rfl dX6_answerQuery_75 hp (fun r75_22 hp => ?_)
        refine lv_bipush (v := (6 : Int32)) hx hb dX6_answerQuery_78 (by decide) ?_
        refine x_iload X dX6_answerQuery_80 hl 5 rfl ?_
        refine lv_iadd hx hb dX6_answerQuery_82 ?_
        refine x_iload X dX6_answerQuery_83 hl 4 rfl ?_
        obtain ⟨b85_23, e0, hp2⟩ := q_nn_of hp
        clear hp; subst e0; have hp := hp2; clear hp2
        refine q_iast X V dX6_answerQuery_85 hp (fun G H locs V hp => ?_)
        refine x_aload_n X dX6_answerQuery_86 hl 1 rfl rfl ?_
        obtain ⟨b87_24, e0, hp2⟩ := q_nn_of hp
        clear hp; subst e0; have hp := hp2; clear hp2
        refine q_getR (ci := 4) X V inX4 rfl (by decide) rfl 1 (by decide) rfl (tw_1 215 rfl rfl) rfl dX6_answerQuery_87 hp (fun r87_25 hp => ?_)
        refine x_iload_n X dX6_answerQuery_90 hl 3 rfl rfl ?_
        refine x_iload X dX6_answerQuery_91 hl 4 rfl ?_
        refine x_iload_n X dX6_answerQuery_93 hl 3 rfl rfl ?_
        refine lv_ixor hx hb dX6_answerQuery_94 ?_
        refine x_iload_n X dX6_answerQuery_95 hl 2 rfl rfl ?_
        obtain ⟨b96_26, e0, hp2⟩ := q_nn_of hp
        clear hp; subst e0; have hp := hp2; clear hp2
        obtain ⟨hk, hp⟩ := q_is_of hp
        obtain ⟨⟨G, v96_28⟩, hq, hp⟩ := q_cl_of hp
        dsimp only at hp
        refine q_goi (cells' := 0) (slots' := 0) (va_runV (As := [.int x3, .int (x5 ^^^ x3), .int x2]) (rest := []) X.1 (cX5_closestBeyond l E hq) (tw_cwV 3 X.1.2.2.2.2 (tw_2 65 rfl rfl) kX5_closestBeyond.2.1 kX5_closestBeyond.2.2.1 kX5_closestBeyond.2.2.2 kX5_closestBeyond.1 rfl rfl hX5_closestBeyond ⟨Nat.le_of_ble_eq_true rfl, Nat.le_of_ble_eq_true rfl⟩) (mm_preV X V rfl (by decide) rfl hk) rfl rfl hl.1 rfl (lv_room (Nat.le_of_ble_eq_true rfl)) dX6_answerQuery_96 ⟨by decide, by decide⟩) V ⟨rfl, rfl⟩ (fun H locs V => ?_)
        refine x_istore (lst' := [(5, .inl v96_28), (0, .inr (some a0)), (1, .inr (some b87_24)), (2, .inl x2), (3, .inl x3), (6, .inl x6)]) X dX6_answerQuery_99 hl (by decide) rfl (fun ls hl => ?_)
        refine x_iinc (v := (1 : Int32)) (lst' := [(6, .inl (x6 + (1 : Int32))), (5, .inl v96_28), (0, .inr (some a0)), (1, .inr (some b87_24)), (2, .inl x2), (3, .inl x3)]) X dX6_answerQuery_101 hl 5 rfl (by decide) (by decide) rfl (fun ls hl => ?_)
        refine lv_goto (tgt := 62) hx hb dX6_answerQuery_104 (by decide) ?_
        exact ih _ _ _ _ _ _ _ _ _ V (lx_sub hl [2, 3, 4, 5, 1, 0] rfl) hp
def pX6_answerQuery_107 (N a0 : Nat) (G : mm_M) (x1 : Option Nat) (x3 : Int32) : Option (mm_M × Unit) :=
  q_gR G a0 7 3 fun r108_29 =>
  q_nn r108_29 fun b112_30 =>
  q_aI G b112_30 101 (0 : Int32) fun v112_31 =>
  if v112_31 = (1 : Int32) then
    q_nn x1 fun b119_36 =>
    q_gR G b119_36 5 3 fun r119_37 =>
    q_is G a0 7 <|
    q_cl (pX6_writeHolders_0 N a0 G r119_37 x3) fun G _ =>
    q_gR G a0 7 1 fun r127_39 =>
    q_gR G a0 7 2 fun r131_40 =>
    q_nn r127_39 fun b134_41 =>
    q_is G b134_41 3 <|
    q_cl (pX2_addOrLose_0 N b134_41 G r131_40) fun G _ =>
    some (G, ())
  else
    q_gR G a0 7 1 fun r127_32 =>
    q_gR G a0 7 2 fun r131_33 =>
    q_nn r127_32 fun b134_34 =>
    q_is G b134_34 3 <|
    q_cl (pX2_addOrLose_0 N b134_34 G r131_33) fun G _ =>
    some (G, ())
set_option maxRecDepth 100000 in
set_option maxHeartbeats 4000000 in
theorem bX6_answerQuery_107 {p : Program} {l : Launch} {e : Env} {s : State} {m : MethodId} {args : Array Value} {below : List Frame} {meth : Method} {c : Code} {E : mm_E} {N a0 : Nat} {res : mm_M × Unit} (X : mm_X p s m args meth c prog_1_method_32_code 7 "XorOverlay" tw_T E) (hr : meth.sig.returnType = none) {G : mm_M} {H : Heap} {locs : List Loc} {ls : Array Slot} {x1 : Option Nat} {x3 : Int32} (V : mm_V E s G H locs) (hl : lx_has ls 7 [(0, .inr (some a0)), (1, .inr x1), (3, .inl x3)]) (hp : pX6_answerQuery_107 N a0 G x1 x3 = some res) : W p l e rX6_answerQuery s m args below meth c H locs 0 0 (MQ below (mm_Qv E res.1) args s 0 0 (mm_A E)) (F0 m 107 ls []) := by
  have hx := X.1.1
  have hb := X.1.2.1
  unfold pX6_answerQuery_107 at hp
  refine x_aload_n X dX6_answerQuery_107 hl 0 rfl rfl ?_
  refine q_getR (ci := 6) X V inX6 rfl (by decide) rfl 3 (by decide) rfl (tw_1 39 rfl rfl) rfl dX6_answerQuery_108 hp (fun r108_29 hp => ?_)
  refine lv_iconst (v := (0 : Int32)) hx hb dX6_answerQuery_111 (by decide) ?_
  obtain ⟨b112_30, e0, hp2⟩ := q_nn_of hp
  clear hp; subst e0; have hp := hp2; clear hp2
  refine q_iald X V dX6_answerQuery_112 hp (fun v112_31 hp => ?_)
  refine lv_iconst (v := (1 : Int32)) hx hb dX6_answerQuery_113 (by decide) ?_
  refine q_ifn hp (lv_icmp_ne (tgt := 126) hx hb dX6_answerQuery_114 (by decide)) (fun hp => ?_) (fun hp => ?_)
  · refine x_aload_n X dX6_answerQuery_126 hl 0 rfl rfl ?_
    refine q_getR (ci := 6) X V inX6 rfl (by decide) rfl 1 (by decide) rfl (tw_1 37 rfl rfl) rfl dX6_answerQuery_127 hp (fun r127_32 hp => ?_)
    refine x_aload_n X dX6_answerQuery_130 hl 0 rfl rfl ?_
    refine q_getR (ci := 6) X V inX6 rfl (by decide) rfl 2 (by decide) rfl (tw_1 38 rfl rfl) rfl dX6_answerQuery_131 hp (fun r131_33 hp => ?_)
    obtain ⟨b134_34, e0, hp2⟩ := q_nn_of hp
    clear hp; subst e0; have hp := hp2; clear hp2
    obtain ⟨hk, hp⟩ := q_is_of hp
    obtain ⟨⟨G, u⟩, hq, hp⟩ := q_cl_of hp
    dsimp only at hp
    refine q_gov (cells' := 0) (slots' := 0) (va_runV (As := [va_rf r131_33]) (rest := []) X.1 (cX2_addOrLose l E hq) (tw_cwV 1 X.1.2.2.2.2 (tw_2 100 rfl rfl) kX2_addOrLose.2.1 kX2_addOrLose.2.2.1 kX2_addOrLose.2.2.2 kX2_addOrLose.1 rfl rfl hX2_addOrLose ⟨Nat.le_of_ble_eq_true rfl, Nat.le_of_ble_eq_true rfl⟩) (mm_preV X V rfl (by decide) rfl hk) rfl rfl hl.1 rfl (lv_room (Nat.le_of_ble_eq_true rfl)) dX6_answerQuery_134 ⟨by decide, by decide⟩) V ⟨rfl, rfl⟩ (fun H locs V => ?_)
    exact q_vret X V hr ⟨by decide, by decide⟩ dX6_answerQuery_137 hp
  · refine x_aload_n X dX6_answerQuery_117 hl 0 rfl rfl ?_
    refine x_aload_n X dX6_answerQuery_118 hl 1 rfl rfl ?_
    obtain ⟨b119_36, e0, hp2⟩ := q_nn_of hp
    clear hp; subst e0; have hp := hp2; clear hp2
    refine q_getR (ci := 4) X V inX4 rfl (by decide) rfl 3 (by decide) rfl (tw_1 219 rfl rfl) rfl dX6_answerQuery_119 hp (fun r119_37 hp => ?_)
    refine x_iload_n X dX6_answerQuery_122 hl 2 rfl rfl ?_
    obtain ⟨hk, hp⟩ := q_is_of hp
    obtain ⟨⟨G, u⟩, hq, hp⟩ := q_cl_of hp
    dsimp only at hp
    refine q_gov (cells' := 0) (slots' := 0) (va_runV (As := [va_rf r119_37, .int x3]) (rest := []) X.1 (cX6_writeHolders l E hq) (tw_cwV 2 X.1.2.2.2.2 (tw_2 197 rfl rfl) kX6_writeHolders.2.1 kX6_writeHolders.2.2.1 kX6_writeHolders.2.2.2 kX6_writeHolders.1 rfl rfl hX6_writeHolders ⟨Nat.le_of_ble_eq_true rfl, Nat.le_of_ble_eq_true rfl⟩) (mm_preV X V rfl (by decide) rfl hk) rfl rfl hl.1 rfl (lv_room (Nat.le_of_ble_eq_true rfl)) dX6_answerQuery_123 ⟨by decide, by decide⟩) V ⟨rfl, rfl⟩ (fun H locs V => ?_)
    refine x_aload_n X dX6_answerQuery_126 hl 0 rfl rfl ?_
    refine q_getR (ci := 6) X V inX6 rfl (by decide) rfl 1 (by decide) rfl (tw_1 37 rfl rfl) rfl dX6_answerQuery_127 hp (fun r127_39 hp => ?_)
    refine x_aload_n X dX6_answerQuery_130 hl 0 rfl rfl ?_
    refine q_getR (ci := 6) X V inX6 rfl (by decide) rfl 2 (by decide) rfl (tw_1 38 rfl rfl) rfl dX6_answerQuery_131 hp (fun r131_40 hp => ?_)
    obtain ⟨b134_41, e0, hp2⟩ := q_nn_of hp
    clear hp; subst e0; have hp := hp2; clear hp2
    obtain ⟨hk, hp⟩ := q_is_of hp
    obtain ⟨⟨G, u⟩, hq, hp⟩ := q_cl_of hp
    dsimp only at hp
    refine q_gov (cells' := 0) (slots' := 0) (va_runV (As := [va_rf r131_40]) (rest := []) X.1 (cX2_addOrLose l E hq) (tw_cwV 1 X.1.2.2.2.2 (tw_2 100 rfl rfl) kX2_addOrLose.2.1 kX2_addOrLose.2.2.1 kX2_addOrLose.2.2.2 kX2_addOrLose.1 rfl rfl hX2_addOrLose ⟨Nat.le_of_ble_eq_true rfl, Nat.le_of_ble_eq_true rfl⟩) (mm_preV X V rfl (by decide) rfl hk) rfl rfl hl.1 rfl (lv_room (Nat.le_of_ble_eq_true rfl)) dX6_answerQuery_134 ⟨by decide, by decide⟩) V ⟨rfl, rfl⟩ (fun H locs V => ?_)
    exact q_vret X V hr ⟨by decide, by decide⟩ dX6_answerQuery_137 hp
def pX6_answerQuery_0 (N a0 : Nat) (G : mm_M) (x1 : Option Nat) : Option (mm_M × Unit) :=
  q_gR G a0 7 3 fun r1_1 =>
  q_nn r1_1 fun b5_2 =>
  q_aI G b5_2 101 (1 : Int32) fun v5_3 =>
  q_gR G a0 7 3 fun r8_4 =>
  q_nn r8_4 fun b12_5 =>
  q_aI G b12_5 101 (4 : Int32) fun v12_6 =>
  q_nn x1 fun b15_7 =>
  q_gI G b15_7 5 0 fun v15_8 =>
  q_is G a0 7 <|
  q_cl (pX6_epochNow_0 N a0 G) fun G v20_10 =>
  q_cl (pX6_tokenOf_0 N G v15_8 v5_3 v20_10) fun G v23_12 =>
  q_gI G b15_7 5 0 fun v31_13 =>
  q_gR G a0 7 3 fun r36_14 =>
  q_nn r36_14 fun b40_15 =>
  q_aI G b40_15 101 (3 : Int32) fun v40_16 =>
  q_is G a0 7 <|
  q_cl (pX6_write_0 N a0 G (2 : Int32) v31_13 v5_3 v40_16 (-1 : Int32) v23_12) fun G _ =>
  q_gR G b15_7 5 1 fun r48_18 =>
  q_nn r48_18 fun b54_19 =>
  q_is G b54_19 6 <|
  q_cl (pX5_closestBeyond_0 N b54_19 G v12_6 (-1 : Int32) v5_3) fun G v54_21 =>
  pX6_answerQuery_62 N a0 (fun (G : mm_M) (x1 : Option Nat) (x3 : Int32) =>
    pX6_answerQuery_107 N a0 G x1 x3) N G (some b15_7) v5_3 v12_6 v54_21 (0 : Int32)
set_option maxRecDepth 100000 in
set_option maxHeartbeats 4000000 in
theorem bX6_answerQuery_0 {p : Program} {l : Launch} {e : Env} {s : State} {m : MethodId} {args : Array Value} {below : List Frame} {meth : Method} {c : Code} {E : mm_E} {N a0 : Nat} {res : mm_M × Unit} (X : mm_X p s m args meth c prog_1_method_32_code 7 "XorOverlay" tw_T E) (hr : meth.sig.returnType = none) {G : mm_M} {H : Heap} {locs : List Loc} {ls : Array Slot} {x1 : Option Nat} (V : mm_V E s G H locs) (hl : lx_has ls 7 [(0, .inr (some a0)), (1, .inr x1)]) (hp : pX6_answerQuery_0 N a0 G x1 = some res) : W p l e rX6_answerQuery s m args below meth c H locs 0 0 (MQ below (mm_Qv E res.1) args s 0 0 (mm_A E)) (F0 m 0 ls []) := by
  have hx := X.1.1
  have hb := X.1.2.1
  unfold pX6_answerQuery_0 at hp
  refine x_aload_n X dX6_answerQuery_0 hl 0 rfl rfl ?_
  refine q_getR (ci := 6) X V inX6 rfl (by decide) rfl 3 (by decide) rfl (tw_1 39 rfl rfl) rfl dX6_answerQuery_1 hp (fun r1_1 hp => ?_)
  refine lv_iconst (v := (1 : Int32)) hx hb dX6_answerQuery_4 (by decide) ?_
  obtain ⟨b5_2, e0, hp2⟩ := q_nn_of hp
  clear hp; subst e0; have hp := hp2; clear hp2
  refine q_iald X V dX6_answerQuery_5 hp (fun v5_3 hp => ?_)
  refine x_istore_n (lst' := [(2, .inl v5_3), (0, .inr (some a0)), (1, .inr x1)]) X dX6_answerQuery_6 hl rfl (by decide) rfl (fun ls hl => ?_)
  refine x_aload_n X dX6_answerQuery_7 hl 1 rfl rfl ?_
  refine q_getR (ci := 6) X V inX6 rfl (by decide) rfl 3 (by decide) rfl (tw_1 39 rfl rfl) rfl dX6_answerQuery_8 hp (fun r8_4 hp => ?_)
  refine lv_iconst (v := (4 : Int32)) hx hb dX6_answerQuery_11 (by decide) ?_
  obtain ⟨b12_5, e0, hp2⟩ := q_nn_of hp
  clear hp; subst e0; have hp := hp2; clear hp2
  refine q_iald X V dX6_answerQuery_12 hp (fun v12_6 hp => ?_)
  refine x_istore_n (lst' := [(3, .inl v12_6), (2, .inl v5_3), (0, .inr (some a0)), (1, .inr x1)]) X dX6_answerQuery_13 hl rfl (by decide) rfl (fun ls hl => ?_)
  refine x_aload_n X dX6_answerQuery_14 hl 3 rfl rfl ?_
  obtain ⟨b15_7, e0, hp2⟩ := q_nn_of hp
  clear hp; subst e0; have hp := hp2; clear hp2
  refine q_getI (ci := 4) X V inX4 rfl (by decide) rfl 0 (by decide) rfl (tw_1 213 rfl rfl) rfl dX6_answerQuery_15 hp (fun v15_8 hp => ?_)
  refine x_iload_n X dX6_answerQuery_18 hl 1 rfl rfl ?_
  refine x_aload_n X dX6_answerQuery_19 hl 2 rfl rfl ?_
  obtain ⟨hk, hp⟩ := q_is_of hp
  obtain ⟨⟨G, v20_10⟩, hq, hp⟩ := q_cl_of hp
  dsimp only at hp
  refine q_goi (cells' := 0) (slots' := 0) (va_runV (As := []) (rest := [.int v5_3, .int v15_8]) X.1 (cX6_epochNow l E hq) (tw_cwV 0 X.1.2.2.2.2 (tw_2 188 rfl rfl) kX6_epochNow.2.1 kX6_epochNow.2.2.1 kX6_epochNow.2.2.2 kX6_epochNow.1 rfl rfl hX6_epochNow ⟨Nat.le_of_ble_eq_true rfl, Nat.le_of_ble_eq_true rfl⟩) (mm_preV X V rfl (by decide) rfl hk) rfl rfl hl.1 rfl (lv_room (Nat.le_of_ble_eq_true rfl)) dX6_answerQuery_20 ⟨by decide, by decide⟩) V ⟨rfl, rfl⟩ (fun H locs V => ?_)
  obtain ⟨⟨G, v23_12⟩, hq, hp⟩ := q_cl_of hp
  dsimp only at hp
  refine q_goi (cells' := 0) (slots' := 0) (va_runS (As := [.int v15_8, .int v5_3, .int v20_10]) (rest := []) X.1 (cX6_tokenOf l E hq) (tw_cwS 3 X.1.2.2.2.2 (tw_2 192 rfl rfl) kX6_tokenOf.2.1 kX6_tokenOf.2.2 kX6_tokenOf.1 rfl rfl hX6_tokenOf ⟨Nat.le_of_ble_eq_true rfl, Nat.le_of_ble_eq_true rfl⟩) (mm_preS X V) rfl rfl hl.1 rfl (lv_room (Nat.le_of_ble_eq_true rfl)) dX6_answerQuery_23 ⟨by decide, by decide⟩) V ⟨rfl, rfl⟩ (fun H locs V => ?_)
  refine x_istore (lst' := [(4, .inl v23_12), (3, .inl v12_6), (2, .inl v5_3), (0, .inr (some a0)), (1, .inr (some b15_7))]) X dX6_answerQuery_26 hl (by decide) rfl (fun ls hl => ?_)
  refine x_aload_n X dX6_answerQuery_28 hl 3 rfl rfl ?_
  refine lv_iconst (v := (2 : Int32)) hx hb dX6_answerQuery_29 (by decide) ?_
  refine x_aload_n X dX6_answerQuery_30 hl 4 rfl rfl ?_
  refine q_getI (ci := 4) X V inX4 rfl (by decide) rfl 0 (by decide) rfl (tw_1 213 rfl rfl) rfl dX6_answerQuery_31 hp (fun v31_13 hp => ?_)
  refine x_iload_n X dX6_answerQuery_34 hl 2 rfl rfl ?_
  refine x_aload_n X dX6_answerQuery_35 hl 3 rfl rfl ?_
  refine q_getR (ci := 6) X V inX6 rfl (by decide) rfl 3 (by decide) rfl (tw_1 39 rfl rfl) rfl dX6_answerQuery_36 hp (fun r36_14 hp => ?_)
  refine lv_iconst (v := (3 : Int32)) hx hb dX6_answerQuery_39 (by decide) ?_
  obtain ⟨b40_15, e0, hp2⟩ := q_nn_of hp
  clear hp; subst e0; have hp := hp2; clear hp2
  refine q_iald X V dX6_answerQuery_40 hp (fun v40_16 hp => ?_)
  refine lv_iconst (v := (-1 : Int32)) hx hb dX6_answerQuery_41 (by decide) ?_
  refine x_iload X dX6_answerQuery_42 hl 0 rfl ?_
  obtain ⟨hk, hp⟩ := q_is_of hp
  obtain ⟨⟨G, u⟩, hq, hp⟩ := q_cl_of hp
  dsimp only at hp
  refine q_gov (cells' := 0) (slots' := 0) (va_runV (As := [.int (2 : Int32), .int v31_13, .int v5_3, .int v40_16, .int (-1 : Int32), .int v23_12]) (rest := []) X.1 (cX6_write l E hq) (tw_cwV 6 X.1.2.2.2.2 (tw_2 93 rfl rfl) kX6_write.2.1 kX6_write.2.2.1 kX6_write.2.2.2 kX6_write.1 rfl rfl hX6_write ⟨Nat.le_of_ble_eq_true rfl, Nat.le_of_ble_eq_true rfl⟩) (mm_preV X V rfl (by decide) rfl hk) rfl rfl hl.1 rfl (lv_room (Nat.le_of_ble_eq_true rfl)) dX6_answerQuery_44 ⟨by decide, by decide⟩) V ⟨rfl, rfl⟩ (fun H locs V => ?_)
  refine x_aload_n X dX6_answerQuery_47 hl 4 rfl rfl ?_
  refine q_getR (ci := 4) X V inX4 rfl (by decide) rfl 1 (by decide) rfl (tw_1 215 rfl rfl) rfl dX6_answerQuery_48 hp (fun r48_18 hp => ?_)
  refine x_iload_n X dX6_answerQuery_51 hl 1 rfl rfl ?_
  refine lv_iconst (v := (-1 : Int32)) hx hb dX6_answerQuery_52 (by decide) ?_
  refine x_iload_n X dX6_answerQuery_53 hl 2 rfl rfl ?_
  obtain ⟨b54_19, e0, hp2⟩ := q_nn_of hp
  clear hp; subst e0; have hp := hp2; clear hp2
  obtain ⟨hk, hp⟩ := q_is_of hp
  obtain ⟨⟨G, v54_21⟩, hq, hp⟩ := q_cl_of hp
  dsimp only at hp
  refine q_goi (cells' := 0) (slots' := 0) (va_runV (As := [.int v12_6, .int (-1 : Int32), .int v5_3]) (rest := []) X.1 (cX5_closestBeyond l E hq) (tw_cwV 3 X.1.2.2.2.2 (tw_2 65 rfl rfl) kX5_closestBeyond.2.1 kX5_closestBeyond.2.2.1 kX5_closestBeyond.2.2.2 kX5_closestBeyond.1 rfl rfl hX5_closestBeyond ⟨Nat.le_of_ble_eq_true rfl, Nat.le_of_ble_eq_true rfl⟩) (mm_preV X V rfl (by decide) rfl hk) rfl rfl hl.1 rfl (lv_room (Nat.le_of_ble_eq_true rfl)) dX6_answerQuery_54 ⟨by decide, by decide⟩) V ⟨rfl, rfl⟩ (fun H locs V => ?_)
  refine x_istore (lst' := [(5, .inl v54_21), (4, .inl v23_12), (3, .inl v12_6), (2, .inl v5_3), (0, .inr (some a0)), (1, .inr (some b15_7))]) X dX6_answerQuery_57 hl (by decide) rfl (fun ls hl => ?_)
  refine lv_iconst (v := (0 : Int32)) hx hb dX6_answerQuery_59 (by decide) ?_
  refine x_istore (lst' := [(6, .inl (0 : Int32)), (5, .inl v54_21), (4, .inl v23_12), (3, .inl v12_6), (2, .inl v5_3), (0, .inr (some a0)), (1, .inr (some b15_7))]) X dX6_answerQuery_60 hl (by decide) rfl (fun ls hl => ?_)
  refine bX6_answerQuery_62 X hr (fun G H locs ls x1 x3 V hl hp => ?_) _ _ _ _ _ _ _ _ _ _ V (lx_sub hl [5, 6, 4, 3, 1, 0] rfl) hp
  exact bX6_answerQuery_107 X hr V (lx_sub hl [0, 1, 2] rfl) hp
theorem cX6_answerQuery (l : Launch) (E : mm_E) {N a0 : Nat} {G : mm_M} {x1 : Option Nat} {res : mm_M × Unit} (hp : pX6_answerQuery_0 N a0 G x1 = some res) : Met l yX6_answerQuery (Cond.code yX6_answerQuery prog_1_method_32_code 7 none :: tw_T) rX6_answerQuery (mm_Pc E G [.ref a0, va_rf x1]) (mm_Qv E res.1) 0 0 (mm_A E) :=
  mm_met (own := "XorOverlay") E G [.inr (some a0), .inr x1] (by decide) rfl rfl (Nat.le_of_ble_eq_true rfl) (fun p e s m args below meth c ls X hr hi V hl => bX6_answerQuery_0 X hr V hl hp)
abbrev yX3_addHolder : MethodName := ⟨"XorOverlay$Lookup", "addHolder", "(I)V"⟩
abbrev rX3_addHolder : Room := { frames := 0, cells := 0, slots := 0, locals := 0 }
theorem kX3_addHolder : Cond.code yX3_addHolder prog_5_method_8_code 3 none ∈ tw_T ∧ Cond.instanceMethod yX3_addHolder ∈ tw_T ∧ Cond.selects "XorOverlay$Lookup" yX3_addHolder yX3_addHolder ∈ tw_T ∧ Cond.initialized "XorOverlay$Lookup" ∈ tw_T := ⟨(tw_2 209 rfl rfl), (tw_2 207 rfl rfl), (tw_2 208 rfl rfl), (tw_1 7 rfl rfl)⟩
theorem hX3_addHolder : yX3_addHolder.cls = "XorOverlay$Lookup" ∧ yX3_addHolder.cls ≠ "java/lang/invoke/MethodHandle" ∧ yX3_addHolder.cls ≠ "java/lang/invoke/VarHandle" ∧ (parseMethodDescriptor yX3_addHolder.desc).map (fun d => d.parameters.length) = some 1 := by decide +kernel
theorem dX3_addHolder_0 : decode prog_5_method_8_code 0 = .ok (.iload_n 1, 1) := by decide +kernel
theorem dX3_addHolder_1 : decode prog_5_method_8_code 1 = .ok (.iconst (-1), 1) := by decide +kernel
theorem dX3_addHolder_2 : decode prog_5_method_8_code 2 = .ok (.if_icmp .eq 12, 3) := by decide +kernel
theorem dX3_addHolder_5 : decode prog_5_method_8_code 5 = .ok (.aload_n 0, 1) := by decide +kernel
theorem dX3_addHolder_6 : decode prog_5_method_8_code 6 = .ok (.getfield 34, 3) := by decide +kernel
theorem dX3_addHolder_9 : decode prog_5_method_8_code 9 = .ok (.bipush 12, 2) := by decide +kernel
theorem dX3_addHolder_11 : decode prog_5_method_8_code 11 = .ok (.if_icmp .lt 4, 3) := by decide +kernel
theorem dX3_addHolder_14 : decode prog_5_method_8_code 14 = .ok (.return_, 1) := by decide +kernel
theorem dX3_addHolder_15 : decode prog_5_method_8_code 15 = .ok (.iconst 0, 1) := by decide +kernel
theorem dX3_addHolder_16 : decode prog_5_method_8_code 16 = .ok (.istore_n 2, 1) := by decide +kernel
theorem dX3_addHolder_17 : decode prog_5_method_8_code 17 = .ok (.iload_n 2, 1) := by decide +kernel
theorem dX3_addHolder_18 : decode prog_5_method_8_code 18 = .ok (.aload_n 0, 1) := by decide +kernel
theorem dX3_addHolder_19 : decode prog_5_method_8_code 19 = .ok (.getfield 34, 3) := by decide +kernel
theorem dX3_addHolder_22 : decode prog_5_method_8_code 22 = .ok (.if_icmp .ge 20, 3) := by decide +kernel
theorem dX3_addHolder_25 : decode prog_5_method_8_code 25 = .ok (.aload_n 0, 1) := by decide +kernel
theorem dX3_addHolder_26 : decode prog_5_method_8_code 26 = .ok (.getfield 24, 3) := by decide +kernel
theorem dX3_addHolder_29 : decode prog_5_method_8_code 29 = .ok (.iload_n 2, 1) := by decide +kernel
theorem dX3_addHolder_30 : decode prog_5_method_8_code 30 = .ok (.iaload, 1) := by decide +kernel
theorem dX3_addHolder_31 : decode prog_5_method_8_code 31 = .ok (.iload_n 1, 1) := by decide +kernel
theorem dX3_addHolder_32 : decode prog_5_method_8_code 32 = .ok (.if_icmp .ne 4, 3) := by decide +kernel
theorem dX3_addHolder_35 : decode prog_5_method_8_code 35 = .ok (.return_, 1) := by decide +kernel
theorem dX3_addHolder_36 : decode prog_5_method_8_code 36 = .ok (.iinc 2 1, 3) := by decide +kernel
theorem dX3_addHolder_39 : decode prog_5_method_8_code 39 = .ok (.goto (-22), 3) := by decide +kernel
theorem dX3_addHolder_42 : decode prog_5_method_8_code 42 = .ok (.aload_n 0, 1) := by decide +kernel
theorem dX3_addHolder_43 : decode prog_5_method_8_code 43 = .ok (.getfield 24, 3) := by decide +kernel
theorem dX3_addHolder_46 : decode prog_5_method_8_code 46 = .ok (.aload_n 0, 1) := by decide +kernel
theorem dX3_addHolder_47 : decode prog_5_method_8_code 47 = .ok (.getfield 34, 3) := by decide +kernel
theorem dX3_addHolder_50 : decode prog_5_method_8_code 50 = .ok (.iload_n 1, 1) := by decide +kernel
theorem dX3_addHolder_51 : decode prog_5_method_8_code 51 = .ok (.iastore, 1) := by decide +kernel
theorem dX3_addHolder_52 : decode prog_5_method_8_code 52 = .ok (.aload_n 0, 1) := by decide +kernel
theorem dX3_addHolder_53 : decode prog_5_method_8_code 53 = .ok (.dup, 1) := by decide +kernel
theorem dX3_addHolder_54 : decode prog_5_method_8_code 54 = .ok (.getfield 34, 3) := by decide +kernel
theorem dX3_addHolder_57 : decode prog_5_method_8_code 57 = .ok (.iconst 1, 1) := by decide +kernel
theorem dX3_addHolder_58 : decode prog_5_method_8_code 58 = .ok (.iadd, 1) := by decide +kernel
theorem dX3_addHolder_59 : decode prog_5_method_8_code 59 = .ok (.putfield 34, 3) := by decide +kernel
theorem dX3_addHolder_62 : decode prog_5_method_8_code 62 = .ok (.return_, 1) := by decide +kernel
def pX3_addHolder_17_b (N a0 : Nat) (kb : mm_M → Int32 → Int32 → Option (mm_M × Unit)) (kx : mm_M → Int32 → Option (mm_M × Unit)) (G : mm_M) (x1 : Int32) (x2 : Int32) : Option (mm_M × Unit) :=
  q_gI G a0 4 10 fun v19_2 =>
  if v19_2 ≤ x2 then
    kx G x1
  else
    q_gR G a0 4 4 fun r26_3 =>
    q_nn r26_3 fun b30_4 =>
    q_aI G b30_4 101 x2 fun v30_5 =>
    if v30_5 = x1 then
      some (G, ())
    else
      kb G x1 (x2 + (1 : Int32))
def pX3_addHolder_17 (N a0 : Nat) (kx : mm_M → Int32 → Option (mm_M × Unit)) : Nat → mm_M → Int32 → Int32 → Option (mm_M × Unit)
  | 0 => fun _ _ _ => none
  | n + 1 => pX3_addHolder_17_b N a0 (pX3_addHolder_17 N a0 kx n) kx
set_option maxRecDepth 100000 in
set_option maxHeartbeats 4000000 in
theorem bX3_addHolder_17 {p : Program} {l : Launch} {e : Env} {s : State} {m : MethodId} {args : Array Value} {below : List Frame} {meth : Method} {c : Code} {E : mm_E} {N a0 : Nat} {res : mm_M × Unit} (X : mm_X p s m args meth c prog_5_method_8_code 3 "XorOverlay$Lookup" tw_T E) (hr : meth.sig.returnType = none) {kx : mm_M → Int32 → Option (mm_M × Unit)} (hkx : ∀ (G : mm_M) (H : Heap) (locs : List Loc) (ls : Array Slot) (x1 : Int32), mm_V E s G H locs → lx_has ls 3 [(0, .inr (some a0)), (1, .inl x1)] → kx G x1 = some res → W p l e rX3_addHolder s m args below meth c H locs 0 0 (MQ below (mm_Qv E res.1) args s 0 0 (mm_A E)) (F0 m 42 ls [])) :
    ∀ (n : Nat) (G : mm_M) (H : Heap) (locs : List Loc) (ls : Array Slot) (x1 : Int32) (x2 : Int32), mm_V E s G H locs → lx_has ls 3 [(0, .inr (some a0)), (1, .inl x1), (2, .inl x2)] → pX3_addHolder_17 N a0 kx n G x1 x2 = some res → W p l e rX3_addHolder s m args below meth c H locs 0 0 (MQ below (mm_Qv E res.1) args s 0 0 (mm_A E)) (F0 m 17 ls []) := by
  have hx := X.1.1
  have hb := X.1.2.1
  intro n
  induction n with
  | zero =>
    intro G H locs ls x1 x2 V hl hp
    cases hp
  | succ n ih =>
    intro G H locs ls x1 x2 V hl hp
    have hp : pX3_addHolder_17_b N a0 (pX3_addHolder_17 N a0 kx n) kx G x1 x2 = some res := hp
    unfold pX3_addHolder_17_b at hp
    refine x_iload_n X dX3_addHolder_17 hl 2 rfl rfl ?_
    refine x_aload_n X dX3_addHolder_18 hl 0 rfl rfl ?_
    refine q_getI (ci := 3) X V inX3 rfl (by decide) rfl 10 (by decide) rfl (tw_1 163 rfl rfl) rfl dX3_addHolder_19 hp (fun v19_2 hp => ?_)
    refine q_if hp (lv_icmp_ge (tgt := 42) hx hb dX3_addHolder_22 (by decide)) (fun hp => ?_) (fun hp => ?_)
    · exact hkx _ _ _ _ _ V (lx_sub hl [0, 1] rfl) hp
    · refine x_aload_n X dX3_addHolder_25 hl 0 rfl rfl ?_
      refine q_getR (ci := 3) X V inX3 rfl (by decide) rfl 4 (by decide) rfl (tw_1 151 rfl rfl) rfl dX3_addHolder_26 hp (fun r26_3 hp => ?_)
      refine x_iload_n X dX3_addHolder_29 hl 2 rfl rfl ?_
      obtain ⟨b30_4, e0, hp2⟩ := q_nn_of hp
      clear hp; subst e0; have hp := hp2; clear hp2
      refine q_iald X V dX3_addHolder_30 hp (fun v30_5 hp => ?_)
      refine x_iload_n X dX3_addHolder_31 hl 1 rfl rfl ?_
      refine q_ifn hp (lv_icmp_ne (tgt := 36) hx hb dX3_addHolder_32 (by decide)) (fun hp => ?_) (fun hp => ?_)
      · refine x_iinc (v := (1 : Int32)) (lst' := [(2, .inl (x2 + (1 : Int32))), (0, .inr (some a0)), (1, .inl x1)]) X dX3_addHolder_36 hl 2 rfl (by decide) (by decide) rfl (fun ls hl => ?_)
        refine lv_goto (tgt := 17) hx hb dX3_addHolder_39 (by decide) ?_
        exact ih _ _ _ _ _ _ V (lx_sub hl [1, 2, 0] rfl) hp
      · exact q_vret X V hr ⟨by decide, by decide⟩ dX3_addHolder_35 hp
def pX3_addHolder_0 (N a0 : Nat) (G : mm_M) (x1 : Int32) : Option (mm_M × Unit) :=
  if x1 = (-1 : Int32) then
    some (G, ())
  else
    q_gI G a0 4 10 fun v6_1 =>
    if v6_1 < (12 : Int32) then
      pX3_addHolder_17 N a0 (fun (G : mm_M) (x1 : Int32) =>
        q_gR G a0 4 4 fun r43_6 =>
        q_gI G a0 4 10 fun v47_7 =>
        q_nn r43_6 fun b51_8 =>
        q_sI G b51_8 101 v47_7 x1 fun G =>
        q_gI G a0 4 10 fun v54_9 =>
        q_pI G a0 4 10 (v54_9 + (1 : Int32)) fun G =>
        some (G, ())) N G x1 (0 : Int32)
    else
      some (G, ())
set_option maxRecDepth 100000 in
set_option maxHeartbeats 4000000 in
theorem bX3_addHolder_0 {p : Program} {l : Launch} {e : Env} {s : State} {m : MethodId} {args : Array Value} {below : List Frame} {meth : Method} {c : Code} {E : mm_E} {N a0 : Nat} {res : mm_M × Unit} (X : mm_X p s m args meth c prog_5_method_8_code 3 "XorOverlay$Lookup" tw_T E) (hr : meth.sig.returnType = none) {G : mm_M} {H : Heap} {locs : List Loc} {ls : Array Slot} {x1 : Int32} (V : mm_V E s G H locs) (hl : lx_has ls 3 [(0, .inr (some a0)), (1, .inl x1)]) (hp : pX3_addHolder_0 N a0 G x1 = some res) : W p l e rX3_addHolder s m args below meth c H locs 0 0 (MQ below (mm_Qv E res.1) args s 0 0 (mm_A E)) (F0 m 0 ls []) := by
  have hx := X.1.1
  have hb := X.1.2.1
  unfold pX3_addHolder_0 at hp
  refine x_iload_n X dX3_addHolder_0 hl 1 rfl rfl ?_
  refine lv_iconst (v := (-1 : Int32)) hx hb dX3_addHolder_1 (by decide) ?_
  refine q_if hp (lv_icmp_eq (tgt := 14) hx hb dX3_addHolder_2 (by decide)) (fun hp => ?_) (fun hp => ?_)
  · exact q_vret X V hr ⟨by decide, by decide⟩ dX3_addHolder_14 hp
  · refine x_aload_n X dX3_addHolder_5 hl 0 rfl rfl ?_
    refine q_getI (ci := 3) X V inX3 rfl (by decide) rfl 10 (by decide) rfl (tw_1 163 rfl rfl) rfl dX3_addHolder_6 hp (fun v6_1 hp => ?_)
    refine lv_bipush (v := (12 : Int32)) hx hb dX3_addHolder_9 (by decide) ?_
    refine q_if hp (lv_icmp_lt (tgt := 15) hx hb dX3_addHolder_11 (by decide)) (fun hp => ?_) (fun hp => ?_)
    · refine lv_iconst (v := (0 : Int32)) hx hb dX3_addHolder_15 (by decide) ?_
      refine x_istore_n (lst' := [(2, .inl (0 : Int32)), (0, .inr (some a0)), (1, .inl x1)]) X dX3_addHolder_16 hl rfl (by decide) rfl (fun ls hl => ?_)
      refine bX3_addHolder_17 X hr (fun G H locs ls x1 V hl hp => ?_) _ _ _ _ _ _ _ V (lx_sub hl [1, 2, 0] rfl) hp
      refine x_aload_n X dX3_addHolder_42 hl 0 rfl rfl ?_
      refine q_getR (ci := 3) X V inX3 rfl (by decide) rfl 4 (by decide) rfl (tw_1 151 rfl rfl) rfl dX3_addHolder_43 hp (fun r43_6 hp => ?_)
      refine x_aload_n X dX3_addHolder_46 hl 0 rfl rfl ?_
      refine q_getI (ci := 3) X V inX3 rfl (by decide) rfl 10 (by decide) rfl (tw_1 163 rfl rfl) rfl dX3_addHolder_47 hp (fun v47_7 hp => ?_)
      refine x_iload_n X dX3_addHolder_50 hl 1 rfl rfl ?_
      obtain ⟨b51_8, e0, hp2⟩ := q_nn_of hp
      clear hp; subst e0; have hp := hp2; clear hp2
      refine q_iast X V dX3_addHolder_51 hp (fun G H locs V hp => ?_)
      refine x_aload_n X dX3_addHolder_52 hl 0 rfl rfl ?_
      refine lv_dup hx hb dX3_addHolder_53 (va_rf_cat _) ?_
      refine q_getI (ci := 3) X V inX3 rfl (by decide) rfl 10 (by decide) rfl (tw_1 163 rfl rfl) rfl dX3_addHolder_54 hp (fun v54_9 hp => ?_)
      refine lv_iconst (v := (1 : Int32)) hx hb dX3_addHolder_57 (by decide) ?_
      refine lv_iadd hx hb dX3_addHolder_58 ?_
      refine q_putI (ci := 3) X V inX3 rfl tyX3 tyX3_ok nmX3 (by decide) rfl 10 (by decide) rfl (tw_1 163 rfl rfl) rfl (Or.inl rfl) .int rfl rfl rfl dX3_addHolder_59 hp (fun G H locs V hp => ?_)
      exact q_vret X V hr ⟨by decide, by decide⟩ dX3_addHolder_62 hp
    · exact q_vret X V hr ⟨by decide, by decide⟩ dX3_addHolder_14 hp
theorem cX3_addHolder (l : Launch) (E : mm_E) {N a0 : Nat} {G : mm_M} {x1 : Int32} {res : mm_M × Unit} (hp : pX3_addHolder_0 N a0 G x1 = some res) : Met l yX3_addHolder (Cond.code yX3_addHolder prog_5_method_8_code 3 none :: tw_T) rX3_addHolder (mm_Pc E G [.ref a0, .int x1]) (mm_Qv E res.1) 0 0 (mm_A E) :=
  mm_met (own := "XorOverlay$Lookup") E G [.inr (some a0), .inl x1] (by decide) rfl rfl (Nat.le_of_ble_eq_true rfl) (fun p e s m args below meth c ls X hr hi V hl => bX3_addHolder_0 X hr V hl hp)
abbrev yX6_takeNodes : MethodName := ⟨"XorOverlay", "takeNodes", "(LXorOverlay$Peer;)V"⟩
abbrev rX6_takeNodes : Room := { frames := 4, cells := 0, slots := 0, locals := 99 }
theorem kX6_takeNodes : Cond.code yX6_takeNodes prog_1_method_34_code 5 none ∈ tw_T ∧ Cond.instanceMethod yX6_takeNodes ∈ tw_T ∧ Cond.selects "XorOverlay" yX6_takeNodes yX6_takeNodes ∈ tw_T ∧ Cond.initialized "XorOverlay" ∈ tw_T := ⟨(tw_2 204 rfl rfl), (tw_2 203 rfl rfl), (tw_s 15 rfl rfl), (tw_1 1 rfl rfl)⟩
theorem hX6_takeNodes : yX6_takeNodes.cls = "XorOverlay" ∧ yX6_takeNodes.cls ≠ "java/lang/invoke/MethodHandle" ∧ yX6_takeNodes.cls ≠ "java/lang/invoke/VarHandle" ∧ (parseMethodDescriptor yX6_takeNodes.desc).map (fun d => d.parameters.length) = some 1 := by decide +kernel
theorem dX6_takeNodes_0 : decode prog_1_method_34_code 0 = .ok (.aload_n 1, 1) := by decide +kernel
theorem dX6_takeNodes_1 : decode prog_1_method_34_code 1 = .ok (.getfield 72, 3) := by decide +kernel
theorem dX6_takeNodes_4 : decode prog_1_method_34_code 4 = .ok (.astore_n 2, 1) := by decide +kernel
theorem dX6_takeNodes_5 : decode prog_1_method_34_code 5 = .ok (.aload_n 2, 1) := by decide +kernel
theorem dX6_takeNodes_6 : decode prog_1_method_34_code 6 = .ok (.invokevirtual 76, 3) := by decide +kernel
theorem dX6_takeNodes_9 : decode prog_1_method_34_code 9 = .ok (.ifCond .eq 16, 3) := by decide +kernel
theorem dX6_takeNodes_12 : decode prog_1_method_34_code 12 = .ok (.aload_n 2, 1) := by decide +kernel
theorem dX6_takeNodes_13 : decode prog_1_method_34_code 13 = .ok (.getfield 222, 3) := by decide +kernel
theorem dX6_takeNodes_16 : decode prog_1_method_34_code 16 = .ok (.aload_n 0, 1) := by decide +kernel
theorem dX6_takeNodes_17 : decode prog_1_method_34_code 17 = .ok (.getfield 26, 3) := by decide +kernel
theorem dX6_takeNodes_20 : decode prog_1_method_34_code 20 = .ok (.iconst 3, 1) := by decide +kernel
theorem dX6_takeNodes_21 : decode prog_1_method_34_code 21 = .ok (.iaload, 1) := by decide +kernel
theorem dX6_takeNodes_22 : decode prog_1_method_34_code 22 = .ok (.if_icmp .eq 4, 3) := by decide +kernel
theorem dX6_takeNodes_25 : decode prog_1_method_34_code 25 = .ok (.return_, 1) := by decide +kernel
theorem dX6_takeNodes_26 : decode prog_1_method_34_code 26 = .ok (.aload_n 2, 1) := by decide +kernel
theorem dX6_takeNodes_27 : decode prog_1_method_34_code 27 = .ok (.aload_n 0, 1) := by decide +kernel
theorem dX6_takeNodes_28 : decode prog_1_method_34_code 28 = .ok (.getfield 26, 3) := by decide +kernel
theorem dX6_takeNodes_31 : decode prog_1_method_34_code 31 = .ok (.iconst 1, 1) := by decide +kernel
theorem dX6_takeNodes_32 : decode prog_1_method_34_code 32 = .ok (.iaload, 1) := by decide +kernel
theorem dX6_takeNodes_33 : decode prog_1_method_34_code 33 = .ok (.invokevirtual 256, 3) := by decide +kernel
theorem dX6_takeNodes_36 : decode prog_1_method_34_code 36 = .ok (.istore_n 3, 1) := by decide +kernel
theorem dX6_takeNodes_37 : decode prog_1_method_34_code 37 = .ok (.iload_n 3, 1) := by decide +kernel
theorem dX6_takeNodes_38 : decode prog_1_method_34_code 38 = .ok (.iconst (-1), 1) := by decide +kernel
theorem dX6_takeNodes_39 : decode prog_1_method_34_code 39 = .ok (.if_icmp .eq 13, 3) := by decide +kernel
theorem dX6_takeNodes_42 : decode prog_1_method_34_code 42 = .ok (.aload_n 2, 1) := by decide +kernel
theorem dX6_takeNodes_43 : decode prog_1_method_34_code 43 = .ok (.getfield 135, 3) := by decide +kernel
theorem dX6_takeNodes_46 : decode prog_1_method_34_code 46 = .ok (.iload_n 3, 1) := by decide +kernel
theorem dX6_takeNodes_47 : decode prog_1_method_34_code 47 = .ok (.iaload, 1) := by decide +kernel
theorem dX6_takeNodes_48 : decode prog_1_method_34_code 48 = .ok (.iconst 1, 1) := by decide +kernel
theorem dX6_takeNodes_49 : decode prog_1_method_34_code 49 = .ok (.if_icmp .eq 4, 3) := by decide +kernel
theorem dX6_takeNodes_52 : decode prog_1_method_34_code 52 = .ok (.return_, 1) := by decide +kernel
theorem dX6_takeNodes_53 : decode prog_1_method_34_code 53 = .ok (.aload_n 2, 1) := by decide +kernel
theorem dX6_takeNodes_54 : decode prog_1_method_34_code 54 = .ok (.getfield 135, 3) := by decide +kernel
theorem dX6_takeNodes_57 : decode prog_1_method_34_code 57 = .ok (.iload_n 3, 1) := by decide +kernel
theorem dX6_takeNodes_58 : decode prog_1_method_34_code 58 = .ok (.iconst 2, 1) := by decide +kernel
theorem dX6_takeNodes_59 : decode prog_1_method_34_code 59 = .ok (.iastore, 1) := by decide +kernel
theorem dX6_takeNodes_60 : decode prog_1_method_34_code 60 = .ok (.aload_n 2, 1) := by decide +kernel
theorem dX6_takeNodes_61 : decode prog_1_method_34_code 61 = .ok (.getfield 237, 3) := by decide +kernel
theorem dX6_takeNodes_64 : decode prog_1_method_34_code 64 = .ok (.iload_n 3, 1) := by decide +kernel
theorem dX6_takeNodes_65 : decode prog_1_method_34_code 65 = .ok (.aload_n 0, 1) := by decide +kernel
theorem dX6_takeNodes_66 : decode prog_1_method_34_code 66 = .ok (.getfield 26, 3) := by decide +kernel
theorem dX6_takeNodes_69 : decode prog_1_method_34_code 69 = .ok (.iconst 5, 1) := by decide +kernel
theorem dX6_takeNodes_70 : decode prog_1_method_34_code 70 = .ok (.iaload, 1) := by decide +kernel
theorem dX6_takeNodes_71 : decode prog_1_method_34_code 71 = .ok (.iastore, 1) := by decide +kernel
theorem dX6_takeNodes_72 : decode prog_1_method_34_code 72 = .ok (.iconst 0, 1) := by decide +kernel
theorem dX6_takeNodes_73 : decode prog_1_method_34_code 73 = .ok (.istore 4, 2) := by decide +kernel
theorem dX6_takeNodes_75 : decode prog_1_method_34_code 75 = .ok (.iload 4, 2) := by decide +kernel
theorem dX6_takeNodes_77 : decode prog_1_method_34_code 77 = .ok (.iconst 3, 1) := by decide +kernel
theorem dX6_takeNodes_78 : decode prog_1_method_34_code 78 = .ok (.if_icmp .ge 37, 3) := by decide +kernel
theorem dX6_takeNodes_81 : decode prog_1_method_34_code 81 = .ok (.aload_n 2, 1) := by decide +kernel
theorem dX6_takeNodes_82 : decode prog_1_method_34_code 82 = .ok (.aload_n 0, 1) := by decide +kernel
theorem dX6_takeNodes_83 : decode prog_1_method_34_code 83 = .ok (.getfield 26, 3) := by decide +kernel
theorem dX6_takeNodes_86 : decode prog_1_method_34_code 86 = .ok (.bipush 6, 2) := by decide +kernel
theorem dX6_takeNodes_88 : decode prog_1_method_34_code 88 = .ok (.iload 4, 2) := by decide +kernel
theorem dX6_takeNodes_90 : decode prog_1_method_34_code 90 = .ok (.iadd, 1) := by decide +kernel
theorem dX6_takeNodes_91 : decode prog_1_method_34_code 91 = .ok (.iaload, 1) := by decide +kernel
theorem dX6_takeNodes_92 : decode prog_1_method_34_code 92 = .ok (.invokevirtual 196, 3) := by decide +kernel
theorem dX6_takeNodes_95 : decode prog_1_method_34_code 95 = .ok (.aload_n 2, 1) := by decide +kernel
theorem dX6_takeNodes_96 : decode prog_1_method_34_code 96 = .ok (.aload_n 0, 1) := by decide +kernel
theorem dX6_takeNodes_97 : decode prog_1_method_34_code 97 = .ok (.getfield 26, 3) := by decide +kernel
theorem dX6_takeNodes_100 : decode prog_1_method_34_code 100 = .ok (.bipush 9, 2) := by decide +kernel
theorem dX6_takeNodes_102 : decode prog_1_method_34_code 102 = .ok (.iload 4, 2) := by decide +kernel
theorem dX6_takeNodes_104 : decode prog_1_method_34_code 104 = .ok (.iadd, 1) := by decide +kernel
theorem dX6_takeNodes_105 : decode prog_1_method_34_code 105 = .ok (.iaload, 1) := by decide +kernel
theorem dX6_takeNodes_106 : decode prog_1_method_34_code 106 = .ok (.invokevirtual 259, 3) := by decide +kernel
theorem dX6_takeNodes_109 : decode prog_1_method_34_code 109 = .ok (.iinc 4 1, 3) := by decide +kernel
theorem dX6_takeNodes_112 : decode prog_1_method_34_code 112 = .ok (.goto (-37), 3) := by decide +kernel
theorem dX6_takeNodes_115 : decode prog_1_method_34_code 115 = .ok (.aload_n 0, 1) := by decide +kernel
theorem dX6_takeNodes_116 : decode prog_1_method_34_code 116 = .ok (.aload_n 1, 1) := by decide +kernel
theorem dX6_takeNodes_117 : decode prog_1_method_34_code 117 = .ok (.invokevirtual 199, 3) := by decide +kernel
theorem dX6_takeNodes_120 : decode prog_1_method_34_code 120 = .ok (.return_, 1) := by decide +kernel
def pX6_takeNodes_75_b (N a0 : Nat) (kb : mm_M → Option Nat → Option Nat → Int32 → Option (mm_M × Unit)) (kx : mm_M → Option Nat → Option (mm_M × Unit)) (G : mm_M) (x1 : Option Nat) (x2 : Option Nat) (x4 : Int32) : Option (mm_M × Unit) :=
  if (3 : Int32) ≤ x4 then
    kx G x1
  else
    q_gR G a0 7 3 fun r83_25 =>
    q_nn r83_25 fun b91_26 =>
    q_aI G b91_26 101 ((6 : Int32) + x4) fun v91_27 =>
    q_nn x2 fun b92_28 =>
    q_is G b92_28 4 <|
    q_cl (pX3_addCandidate_0 N b92_28 G v91_27) fun G _ =>
    q_gR G a0 7 3 fun r97_30 =>
    q_nn r97_30 fun b105_31 =>
    q_aI G b105_31 101 ((9 : Int32) + x4) fun v105_32 =>
    q_is G b92_28 4 <|
    q_cl (pX3_addHolder_0 N b92_28 G v105_32) fun G _ =>
    kb G x1 (some b92_28) (x4 + (1 : Int32))
def pX6_takeNodes_75 (N a0 : Nat) (kx : mm_M → Option Nat → Option (mm_M × Unit)) : Nat → mm_M → Option Nat → Option Nat → Int32 → Option (mm_M × Unit)
  | 0 => fun _ _ _ _ => none
  | n + 1 => pX6_takeNodes_75_b N a0 (pX6_takeNodes_75 N a0 kx n) kx
set_option maxRecDepth 100000 in
set_option maxHeartbeats 4000000 in
theorem bX6_takeNodes_75 {p : Program} {l : Launch} {e : Env} {s : State} {m : MethodId} {args : Array Value} {below : List Frame} {meth : Method} {c : Code} {E : mm_E} {N a0 : Nat} {res : mm_M × Unit} (X : mm_X p s m args meth c prog_1_method_34_code 5 "XorOverlay" tw_T E) (hr : meth.sig.returnType = none) {kx : mm_M → Option Nat → Option (mm_M × Unit)} (hkx : ∀ (G : mm_M) (H : Heap) (locs : List Loc) (ls : Array Slot) (x1 : Option Nat), mm_V E s G H locs → lx_has ls 5 [(0, .inr (some a0)), (1, .inr x1)] → kx G x1 = some res → W p l e rX6_takeNodes s m args below meth c H locs 0 0 (MQ below (mm_Qv E res.1) args s 0 0 (mm_A E)) (F0 m 115 ls [])) :
    ∀ (n : Nat) (G : mm_M) (H : Heap) (locs : List Loc) (ls : Array Slot) (x1 : Option Nat) (x2 : Option Nat) (x4 : Int32), mm_V E s G H locs → lx_has ls 5 [(0, .inr (some a0)), (1, .inr x1), (2, .inr x2), (4, .inl x4)] → pX6_takeNodes_75 N a0 kx n G x1 x2 x4 = some res → W p l e rX6_takeNodes s m args below meth c H locs 0 0 (MQ below (mm_Qv E res.1) args s 0 0 (mm_A E)) (F0 m 75 ls []) := by
  have hx := X.1.1
  have hb := X.1.2.1
  intro n
  induction n with
  | zero =>
    intro G H locs ls x1 x2 x4 V hl hp
    cases hp
  | succ n ih =>
    intro G H locs ls x1 x2 x4 V hl hp
    have hp : pX6_takeNodes_75_b N a0 (pX6_takeNodes_75 N a0 kx n) kx G x1 x2 x4 = some res := hp
    unfold pX6_takeNodes_75_b at hp
    refine x_iload X dX6_takeNodes_75 hl 3 rfl ?_
    refine lv_iconst (v := (3 : Int32)) hx hb dX6_takeNodes_77 (by decide) ?_
    refine q_if hp (lv_icmp_ge (tgt := 115) hx hb dX6_takeNodes_78 (by decide)) (fun hp => ?_) (fun hp => ?_)
    · exact hkx _ _ _ _ _ V (lx_sub hl [0, 1] rfl) hp
    · refine x_aload_n X dX6_takeNodes_81 hl 2 rfl rfl ?_
      refine x_aload_n X dX6_takeNodes_82 hl 0 rfl rfl ?_
      refine q_getR (ci := 6) X V inX6 rfl (by decide) rfl 3 (by decide) rfl (tw_1 39 rfl rfl) rfl dX6_takeNodes_83 hp (fun r83_25 hp => ?_)
      refine lv_bipush (v := (6 : Int32)) hx hb dX6_takeNodes_86 (by decide) ?_
      refine x_iload X dX6_takeNodes_88 hl 3 rfl ?_
      refine lv_iadd hx hb dX6_takeNodes_90 ?_
      obtain ⟨b91_26, e0, hp2⟩ := q_nn_of hp
      clear hp; subst e0; have hp := hp2; clear hp2
      refine q_iald X V dX6_takeNodes_91 hp (fun v91_27 hp => ?_)
      obtain ⟨b92_28, e0, hp2⟩ := q_nn_of hp
      clear hp; subst e0; have hp := hp2; clear hp2
      obtain ⟨hk, hp⟩ := q_is_of hp
      obtain ⟨⟨G, u⟩, hq, hp⟩ := q_cl_of hp
      dsimp only at hp
      refine q_gov (cells' := 0) (slots' := 0) (va_runV (As := [.int v91_27]) (rest := []) X.1 (cX3_addCandidate l E hq) (tw_cwV 1 X.1.2.2.2.2 (tw_2 69 rfl rfl) kX3_addCandidate.2.1 kX3_addCandidate.2.2.1 kX3_addCandidate.2.2.2 kX3_addCandidate.1 rfl rfl hX3_addCandidate ⟨Nat.le_of_ble_eq_true rfl, Nat.le_of_ble_eq_true rfl⟩) (mm_preV X V rfl (by decide) rfl hk) rfl rfl hl.1 rfl (lv_room (Nat.le_of_ble_eq_true rfl)) dX6_takeNodes_92 ⟨by decide, by decide⟩) V ⟨rfl, rfl⟩ (fun H locs V => ?_)
      refine x_aload_n X dX6_takeNodes_95 hl 2 rfl rfl ?_
      refine x_aload_n X dX6_takeNodes_96 hl 0 rfl rfl ?_
      refine q_getR (ci := 6) X V inX6 rfl (by decide) rfl 3 (by decide) rfl (tw_1 39 rfl rfl) rfl dX6_takeNodes_97 hp (fun r97_30 hp => ?_)
      refine lv_bipush (v := (9 : Int32)) hx hb dX6_takeNodes_100 (by decide) ?_
      refine x_iload X dX6_takeNodes_102 hl 3 rfl ?_
      refine lv_iadd hx hb dX6_takeNodes_104 ?_
      obtain ⟨b105_31, e0, hp2⟩ := q_nn_of hp
      clear hp; subst e0; have hp := hp2; clear hp2
      refine q_iald X V dX6_takeNodes_105 hp (fun v105_32 hp => ?_)
      obtain ⟨hk, hp⟩ := q_is_of hp
      obtain ⟨⟨G, u⟩, hq, hp⟩ := q_cl_of hp
      dsimp only at hp
      refine q_gov (cells' := 0) (slots' := 0) (va_runV (As := [.int v105_32]) (rest := []) X.1 (cX3_addHolder l E hq) (tw_cwV 1 X.1.2.2.2.2 (tw_2 206 rfl rfl) kX3_addHolder.2.1 kX3_addHolder.2.2.1 kX3_addHolder.2.2.2 kX3_addHolder.1 rfl rfl hX3_addHolder ⟨Nat.le_of_ble_eq_true rfl, Nat.le_of_ble_eq_true rfl⟩) (mm_preV X V rfl (by decide) rfl hk) rfl rfl hl.1 rfl (lv_room (Nat.le_of_ble_eq_true rfl)) dX6_takeNodes_106 ⟨by decide, by decide⟩) V ⟨rfl, rfl⟩ (fun H locs V => ?_)
      refine x_iinc (v := (1 : Int32)) (lst' := [(4, .inl (x4 + (1 : Int32))), (0, .inr (some a0)), (1, .inr x1), (2, .inr (some b92_28))]) X dX6_takeNodes_109 hl 3 rfl (by decide) (by decide) rfl (fun ls hl => ?_)
      refine lv_goto (tgt := 75) hx hb dX6_takeNodes_112 (by decide) ?_
      exact ih _ _ _ _ _ _ _ V (lx_sub hl [1, 2, 3, 0] rfl) hp
def pX6_takeNodes_0 (N a0 : Nat) (G : mm_M) (x1 : Option Nat) : Option (mm_M × Unit) :=
  q_nn x1 fun b1_1 =>
  q_gR G b1_1 5 2 fun r1_2 =>
  q_nn r1_2 fun b6_3 =>
  q_is G b6_3 4 <|
  q_cl (pX3_isRunning_0 N b6_3 G) fun G v6_5 =>
  if v6_5 = 0 then
    some (G, ())
  else
    q_gI G b6_3 4 8 fun v13_6 =>
    q_gR G a0 7 3 fun r17_7 =>
    q_nn r17_7 fun b21_8 =>
    q_aI G b21_8 101 (3 : Int32) fun v21_9 =>
    if v13_6 = v21_9 then
      q_gR G a0 7 3 fun r28_10 =>
      q_nn r28_10 fun b32_11 =>
      q_aI G b32_11 101 (1 : Int32) fun v32_12 =>
      q_is G b6_3 4 <|
      q_cl (pX3_placeOf_0 N b6_3 G v32_12) fun G v33_14 =>
      if v33_14 = (-1 : Int32) then
        some (G, ())
      else
        q_gR G b6_3 4 1 fun r43_15 =>
        q_nn r43_15 fun b47_16 =>
        q_aI G b47_16 101 v33_14 fun v47_17 =>
        if v47_17 = (1 : Int32) then
          q_gR G b6_3 4 1 fun r54_18 =>
          q_nn r54_18 fun b59_19 =>
          q_sI G b59_19 101 v33_14 (2 : Int32) fun G =>
          q_gR G b6_3 4 3 fun r61_20 =>
          q_gR G a0 7 3 fun r66_21 =>
          q_nn r66_21 fun b70_22 =>
          q_aI G b70_22 101 (5 : Int32) fun v70_23 =>
          q_nn r61_20 fun b71_24 =>
          q_sI G b71_24 101 v33_14 v70_23 fun G =>
          pX6_takeNodes_75 N a0 (fun (G : mm_M) (x1 : Option Nat) =>
            q_is G a0 7 <|
            q_cl (pX6_goOn_0 N a0 G x1) fun G _ =>
            some (G, ())) N G (some b1_1) (some b6_3) (0 : Int32)
        else
          some (G, ())
    else
      some (G, ())
set_option maxRecDepth 100000 in
set_option maxHeartbeats 4000000 in
theorem bX6_takeNodes_0 {p : Program} {l : Launch} {e : Env} {s : State} {m : MethodId} {args : Array Value} {below : List Frame} {meth : Method} {c : Code} {E : mm_E} {N a0 : Nat} {res : mm_M × Unit} (X : mm_X p s m args meth c prog_1_method_34_code 5 "XorOverlay" tw_T E) (hr : meth.sig.returnType = none) {G : mm_M} {H : Heap} {locs : List Loc} {ls : Array Slot} {x1 : Option Nat} (V : mm_V E s G H locs) (hl : lx_has ls 5 [(0, .inr (some a0)), (1, .inr x1)]) (hp : pX6_takeNodes_0 N a0 G x1 = some res) : W p l e rX6_takeNodes s m args below meth c H locs 0 0 (MQ below (mm_Qv E res.1) args s 0 0 (mm_A E)) (F0 m 0 ls []) := by
  have hx := X.1.1
  have hb := X.1.2.1
  unfold pX6_takeNodes_0 at hp
  refine x_aload_n X dX6_takeNodes_0 hl 1 rfl rfl ?_
  obtain ⟨b1_1, e0, hp2⟩ := q_nn_of hp
  clear hp; subst e0; have hp := hp2; clear hp2
  refine q_getR (ci := 4) X V inX4 rfl (by decide) rfl 2 (by decide) rfl (tw_1 217 rfl rfl) rfl dX6_takeNodes_1 hp (fun r1_2 hp => ?_)
  refine x_astore_n (lst' := [(2, .inr r1_2), (0, .inr (some a0)), (1, .inr (some b1_1))]) X dX6_takeNodes_4 hl rfl (by decide) rfl (fun ls hl => ?_)
  refine x_aload_n X dX6_takeNodes_5 hl 0 rfl rfl ?_
  obtain ⟨b6_3, e0, hp2⟩ := q_nn_of hp
  clear hp; subst e0; have hp := hp2; clear hp2
  obtain ⟨hk, hp⟩ := q_is_of hp
  obtain ⟨⟨G, v6_5⟩, hq, hp⟩ := q_cl_of hp
  dsimp only at hp
  refine q_goi (cells' := 0) (slots' := 0) (va_runV (As := []) (rest := []) X.1 (cX3_isRunning l E hq) (tw_cwV 0 X.1.2.2.2.2 (tw_2 120 rfl rfl) kX3_isRunning.2.1 kX3_isRunning.2.2.1 kX3_isRunning.2.2.2 kX3_isRunning.1 rfl rfl hX3_isRunning ⟨Nat.le_of_ble_eq_true rfl, Nat.le_of_ble_eq_true rfl⟩) (mm_preV X V rfl (by decide) rfl hk) rfl rfl hl.1 rfl (lv_room (Nat.le_of_ble_eq_true rfl)) dX6_takeNodes_6 ⟨by decide, by decide⟩) V ⟨rfl, rfl⟩ (fun H locs V => ?_)
  refine q_if hp (lv_if_eq (tgt := 25) hx hb dX6_takeNodes_9 (by decide)) (fun hp => ?_) (fun hp => ?_)
  · exact q_vret X V hr ⟨by decide, by decide⟩ dX6_takeNodes_25 hp
  · refine x_aload_n X dX6_takeNodes_12 hl 0 rfl rfl ?_
    refine q_getI (ci := 3) X V inX3 rfl (by decide) rfl 8 (by decide) rfl (tw_1 160 rfl rfl) rfl dX6_takeNodes_13 hp (fun v13_6 hp => ?_)
    refine x_aload_n X dX6_takeNodes_16 hl 1 rfl rfl ?_
    refine q_getR (ci := 6) X V inX6 rfl (by decide) rfl 3 (by decide) rfl (tw_1 39 rfl rfl) rfl dX6_takeNodes_17 hp (fun r17_7 hp => ?_)
    refine lv_iconst (v := (3 : Int32)) hx hb dX6_takeNodes_20 (by decide) ?_
    obtain ⟨b21_8, e0, hp2⟩ := q_nn_of hp
    clear hp; subst e0; have hp := hp2; clear hp2
    refine q_iald X V dX6_takeNodes_21 hp (fun v21_9 hp => ?_)
    refine q_if hp (lv_icmp_eq (tgt := 26) hx hb dX6_takeNodes_22 (by decide)) (fun hp => ?_) (fun hp => ?_)
    · refine x_aload_n X dX6_takeNodes_26 hl 0 rfl rfl ?_
      refine x_aload_n X dX6_takeNodes_27 hl 1 rfl rfl ?_
      refine q_getR (ci := 6) X V inX6 rfl (by decide) rfl 3 (by decide) rfl (tw_1 39 rfl rfl) rfl dX6_takeNodes_28 hp (fun r28_10 hp => ?_)
      refine lv_iconst (v := (1 : Int32)) hx hb dX6_takeNodes_31 (by decide) ?_
      obtain ⟨b32_11, e0, hp2⟩ := q_nn_of hp
      clear hp; subst e0; have hp := hp2; clear hp2
      refine q_iald X V dX6_takeNodes_32 hp (fun v32_12 hp => ?_)
      obtain ⟨hk, hp⟩ := q_is_of hp
      obtain ⟨⟨G, v33_14⟩, hq, hp⟩ := q_cl_of hp
      dsimp only at hp
      refine q_goi (cells' := 0) (slots' := 0) (va_runV (As := [.int v32_12]) (rest := []) X.1 (cX3_placeOf l E hq) (tw_cwV 1 X.1.2.2.2.2 (tw_2 205 rfl rfl) kX3_placeOf.2.1 kX3_placeOf.2.2.1 kX3_placeOf.2.2.2 kX3_placeOf.1 rfl rfl hX3_placeOf ⟨Nat.le_of_ble_eq_true rfl, Nat.le_of_ble_eq_true rfl⟩) (mm_preV X V rfl (by decide) rfl hk) rfl rfl hl.1 rfl (lv_room (Nat.le_of_ble_eq_true rfl)) dX6_takeNodes_33 ⟨by decide, by decide⟩) V ⟨rfl, rfl⟩ (fun H locs V => ?_)
      refine x_istore_n (lst' := [(3, .inl v33_14), (2, .inr (some b6_3)), (0, .inr (some a0)), (1, .inr (some b1_1))]) X dX6_takeNodes_36 hl rfl (by decide) rfl (fun ls hl => ?_)
      refine x_iload_n X dX6_takeNodes_37 hl 0 rfl rfl ?_
      refine lv_iconst (v := (-1 : Int32)) hx hb dX6_takeNodes_38 (by decide) ?_
      refine q_if hp (lv_icmp_eq (tgt := 52) hx hb dX6_takeNodes_39 (by decide)) (fun hp => ?_) (fun hp => ?_)
      · exact q_vret X V hr ⟨by decide, by decide⟩ dX6_takeNodes_52 hp
      · refine x_aload_n X dX6_takeNodes_42 hl 1 rfl rfl ?_
        refine q_getR (ci := 3) X V inX3 rfl (by decide) rfl 1 (by decide) rfl (tw_1 146 rfl rfl) rfl dX6_takeNodes_43 hp (fun r43_15 hp => ?_)
        refine x_iload_n X dX6_takeNodes_46 hl 0 rfl rfl ?_
        obtain ⟨b47_16, e0, hp2⟩ := q_nn_of hp
        clear hp; subst e0; have hp := hp2; clear hp2
        refine q_iald X V dX6_takeNodes_47 hp (fun v47_17 hp => ?_)
        refine lv_iconst (v := (1 : Int32)) hx hb dX6_takeNodes_48 (by decide) ?_
        refine q_if hp (lv_icmp_eq (tgt := 53) hx hb dX6_takeNodes_49 (by decide)) (fun hp => ?_) (fun hp => ?_)
        · refine x_aload_n X dX6_takeNodes_53 hl 1 rfl rfl ?_
          refine q_getR (ci := 3) X V inX3 rfl (by decide) rfl 1 (by decide) rfl (tw_1 146 rfl rfl) rfl dX6_takeNodes_54 hp (fun r54_18 hp => ?_)
          refine x_iload_n X dX6_takeNodes_57 hl 0 rfl rfl ?_
          refine lv_iconst (v := (2 : Int32)) hx hb dX6_takeNodes_58 (by decide) ?_
          obtain ⟨b59_19, e0, hp2⟩ := q_nn_of hp
          clear hp; subst e0; have hp := hp2; clear hp2
          refine q_iast X V dX6_takeNodes_59 hp (fun G H locs V hp => ?_)
          refine x_aload_n X dX6_takeNodes_60 hl 1 rfl rfl ?_
          refine q_getR (ci := 3) X V inX3 rfl (by decide) rfl 3 (by decide) rfl (tw_1 150 rfl rfl) rfl dX6_takeNodes_61 hp (fun r61_20 hp => ?_)
          refine x_iload_n X dX6_takeNodes_64 hl 0 rfl rfl ?_
          refine x_aload_n X dX6_takeNodes_65 hl 2 rfl rfl ?_
          refine q_getR (ci := 6) X V inX6 rfl (by decide) rfl 3 (by decide) rfl (tw_1 39 rfl rfl) rfl dX6_takeNodes_66 hp (fun r66_21 hp => ?_)
          refine lv_iconst (v := (5 : Int32)) hx hb dX6_takeNodes_69 (by decide) ?_
          obtain ⟨b70_22, e0, hp2⟩ := q_nn_of hp
          clear hp; subst e0; have hp := hp2; clear hp2
          refine q_iald X V dX6_takeNodes_70 hp (fun v70_23 hp => ?_)
          obtain ⟨b71_24, e0, hp2⟩ := q_nn_of hp
          clear hp; subst e0; have hp := hp2; clear hp2
          refine q_iast X V dX6_takeNodes_71 hp (fun G H locs V hp => ?_)
          refine lv_iconst (v := (0 : Int32)) hx hb dX6_takeNodes_72 (by decide) ?_
          refine x_istore (lst' := [(4, .inl (0 : Int32)), (3, .inl v33_14), (2, .inr (some b6_3)), (0, .inr (some a0)), (1, .inr (some b1_1))]) X dX6_takeNodes_73 hl (by decide) rfl (fun ls hl => ?_)
          refine bX6_takeNodes_75 X hr (fun G H locs ls x1 V hl hp => ?_) _ _ _ _ _ _ _ _ V (lx_sub hl [3, 4, 2, 0] rfl) hp
          refine x_aload_n X dX6_takeNodes_115 hl 0 rfl rfl ?_
          refine x_aload_n X dX6_takeNodes_116 hl 1 rfl rfl ?_
          obtain ⟨hk, hp⟩ := q_is_of hp
          obtain ⟨⟨G, u⟩, hq, hp⟩ := q_cl_of hp
          dsimp only at hp
          refine q_gov (cells' := 0) (slots' := 0) (va_runV (As := [va_rf x1]) (rest := []) X.1 (cX6_goOn l E hq) (tw_cwV 1 X.1.2.2.2.2 (tw_2 77 rfl rfl) kX6_goOn.2.1 kX6_goOn.2.2.1 kX6_goOn.2.2.2 kX6_goOn.1 rfl rfl hX6_goOn ⟨Nat.le_of_ble_eq_true rfl, Nat.le_of_ble_eq_true rfl⟩) (mm_preV X V rfl (by decide) rfl hk) rfl rfl hl.1 rfl (lv_room (Nat.le_of_ble_eq_true rfl)) dX6_takeNodes_117 ⟨by decide, by decide⟩) V ⟨rfl, rfl⟩ (fun H locs V => ?_)
          exact q_vret X V hr ⟨by decide, by decide⟩ dX6_takeNodes_120 hp
        · exact q_vret X V hr ⟨by decide, by decide⟩ dX6_takeNodes_52 hp
    · exact q_vret X V hr ⟨by decide, by decide⟩ dX6_takeNodes_25 hp
theorem cX6_takeNodes (l : Launch) (E : mm_E) {N a0 : Nat} {G : mm_M} {x1 : Option Nat} {res : mm_M × Unit} (hp : pX6_takeNodes_0 N a0 G x1 = some res) : Met l yX6_takeNodes (Cond.code yX6_takeNodes prog_1_method_34_code 5 none :: tw_T) rX6_takeNodes (mm_Pc E G [.ref a0, va_rf x1]) (mm_Qv E res.1) 0 0 (mm_A E) :=
  mm_met (own := "XorOverlay") E G [.inr (some a0), .inr x1] (by decide) rfl rfl (Nat.le_of_ble_eq_true rfl) (fun p e s m args below meth c ls X hr hi V hl => bX6_takeNodes_0 X hr V hl hp)
abbrev yX1_keep : MethodName := ⟨"XorOverlay$Entries", "keep", "(III)V"⟩
abbrev rX1_keep : Room := { frames := 1, cells := 0, slots := 0, locals := 23 }
theorem kX1_keep : Cond.code yX1_keep prog_3_method_2_code 5 none ∈ tw_T ∧ Cond.instanceMethod yX1_keep ∈ tw_T ∧ Cond.selects "XorOverlay$Entries" yX1_keep yX1_keep ∈ tw_T ∧ Cond.initialized "XorOverlay$Entries" ∈ tw_T := ⟨(tw_2 217 rfl rfl), (tw_2 215 rfl rfl), (tw_2 216 rfl rfl), (tw_1 8 rfl rfl)⟩
theorem hX1_keep : yX1_keep.cls = "XorOverlay$Entries" ∧ yX1_keep.cls ≠ "java/lang/invoke/MethodHandle" ∧ yX1_keep.cls ≠ "java/lang/invoke/VarHandle" ∧ (parseMethodDescriptor yX1_keep.desc).map (fun d => d.parameters.length) = some 3 := by decide +kernel
theorem dX1_keep_0 : decode prog_3_method_2_code 0 = .ok (.iconst 0, 1) := by decide +kernel
theorem dX1_keep_1 : decode prog_3_method_2_code 1 = .ok (.istore 4, 2) := by decide +kernel
theorem dX1_keep_3 : decode prog_3_method_2_code 3 = .ok (.iload 4, 2) := by decide +kernel
theorem dX1_keep_5 : decode prog_3_method_2_code 5 = .ok (.aload_n 0, 1) := by decide +kernel
theorem dX1_keep_6 : decode prog_3_method_2_code 6 = .ok (.getfield 19, 3) := by decide +kernel
theorem dX1_keep_9 : decode prog_3_method_2_code 9 = .ok (.if_icmp .ge 40, 3) := by decide +kernel
theorem dX1_keep_12 : decode prog_3_method_2_code 12 = .ok (.aload_n 0, 1) := by decide +kernel
theorem dX1_keep_13 : decode prog_3_method_2_code 13 = .ok (.getfield 9, 3) := by decide +kernel
theorem dX1_keep_16 : decode prog_3_method_2_code 16 = .ok (.iload 4, 2) := by decide +kernel
theorem dX1_keep_18 : decode prog_3_method_2_code 18 = .ok (.iaload, 1) := by decide +kernel
theorem dX1_keep_19 : decode prog_3_method_2_code 19 = .ok (.iload_n 1, 1) := by decide +kernel
theorem dX1_keep_20 : decode prog_3_method_2_code 20 = .ok (.if_icmp .ne 23, 3) := by decide +kernel
theorem dX1_keep_23 : decode prog_3_method_2_code 23 = .ok (.aload_n 0, 1) := by decide +kernel
theorem dX1_keep_24 : decode prog_3_method_2_code 24 = .ok (.getfield 13, 3) := by decide +kernel
theorem dX1_keep_27 : decode prog_3_method_2_code 27 = .ok (.iload 4, 2) := by decide +kernel
theorem dX1_keep_29 : decode prog_3_method_2_code 29 = .ok (.iaload, 1) := by decide +kernel
theorem dX1_keep_30 : decode prog_3_method_2_code 30 = .ok (.iload_n 2, 1) := by decide +kernel
theorem dX1_keep_31 : decode prog_3_method_2_code 31 = .ok (.if_icmp .ne 12, 3) := by decide +kernel
theorem dX1_keep_34 : decode prog_3_method_2_code 34 = .ok (.aload_n 0, 1) := by decide +kernel
theorem dX1_keep_35 : decode prog_3_method_2_code 35 = .ok (.getfield 16, 3) := by decide +kernel
theorem dX1_keep_38 : decode prog_3_method_2_code 38 = .ok (.iload 4, 2) := by decide +kernel
theorem dX1_keep_40 : decode prog_3_method_2_code 40 = .ok (.iload_n 3, 1) := by decide +kernel
theorem dX1_keep_41 : decode prog_3_method_2_code 41 = .ok (.iastore, 1) := by decide +kernel
theorem dX1_keep_42 : decode prog_3_method_2_code 42 = .ok (.return_, 1) := by decide +kernel
theorem dX1_keep_43 : decode prog_3_method_2_code 43 = .ok (.iinc 4 1, 3) := by decide +kernel
theorem dX1_keep_46 : decode prog_3_method_2_code 46 = .ok (.goto (-43), 3) := by decide +kernel
theorem dX1_keep_49 : decode prog_3_method_2_code 49 = .ok (.aload_n 0, 1) := by decide +kernel
theorem dX1_keep_50 : decode prog_3_method_2_code 50 = .ok (.iload_n 1, 1) := by decide +kernel
theorem dX1_keep_51 : decode prog_3_method_2_code 51 = .ok (.iload_n 2, 1) := by decide +kernel
theorem dX1_keep_52 : decode prog_3_method_2_code 52 = .ok (.iload_n 3, 1) := by decide +kernel
theorem dX1_keep_53 : decode prog_3_method_2_code 53 = .ok (.invokevirtual 23, 3) := by decide +kernel
theorem dX1_keep_56 : decode prog_3_method_2_code 56 = .ok (.return_, 1) := by decide +kernel
def pX1_keep_3_b (N a0 : Nat) (kb : mm_M → Int32 → Int32 → Int32 → Int32 → Option (mm_M × Unit)) (kx : mm_M → Int32 → Int32 → Int32 → Option (mm_M × Unit)) (G : mm_M) (x1 : Int32) (x2 : Int32) (x3 : Int32) (x4 : Int32) : Option (mm_M × Unit) :=
  q_gI G a0 2 3 fun v6_1 =>
  if v6_1 ≤ x4 then
    kx G x1 x2 x3
  else
    q_gR G a0 2 0 fun r13_2 =>
    q_nn r13_2 fun b18_3 =>
    q_aI G b18_3 101 x4 fun v18_4 =>
    if v18_4 = x1 then
      q_gR G a0 2 1 fun r24_5 =>
      q_nn r24_5 fun b29_6 =>
      q_aI G b29_6 101 x4 fun v29_7 =>
      if v29_7 = x2 then
        q_gR G a0 2 2 fun r35_8 =>
        q_nn r35_8 fun b41_9 =>
        q_sI G b41_9 101 x4 x3 fun G =>
        some (G, ())
      else
        kb G x1 x2 x3 (x4 + (1 : Int32))
    else
      kb G x1 x2 x3 (x4 + (1 : Int32))
def pX1_keep_3 (N a0 : Nat) (kx : mm_M → Int32 → Int32 → Int32 → Option (mm_M × Unit)) : Nat → mm_M → Int32 → Int32 → Int32 → Int32 → Option (mm_M × Unit)
  | 0 => fun _ _ _ _ _ => none
  | n + 1 => pX1_keep_3_b N a0 (pX1_keep_3 N a0 kx n) kx
set_option maxRecDepth 100000 in
set_option maxHeartbeats 4000000 in
theorem bX1_keep_3 {p : Program} {l : Launch} {e : Env} {s : State} {m : MethodId} {args : Array Value} {below : List Frame} {meth : Method} {c : Code} {E : mm_E} {N a0 : Nat} {res : mm_M × Unit} (X : mm_X p s m args meth c prog_3_method_2_code 5 "XorOverlay$Entries" tw_T E) (hr : meth.sig.returnType = none) {kx : mm_M → Int32 → Int32 → Int32 → Option (mm_M × Unit)} (hkx : ∀ (G : mm_M) (H : Heap) (locs : List Loc) (ls : Array Slot) (x1 : Int32) (x2 : Int32) (x3 : Int32), mm_V E s G H locs → lx_has ls 5 [(0, .inr (some a0)), (1, .inl x1), (2, .inl x2), (3, .inl x3)] → kx G x1 x2 x3 = some res → W p l e rX1_keep s m args below meth c H locs 0 0 (MQ below (mm_Qv E res.1) args s 0 0 (mm_A E)) (F0 m 49 ls [])) :
    ∀ (n : Nat) (G : mm_M) (H : Heap) (locs : List Loc) (ls : Array Slot) (x1 : Int32) (x2 : Int32) (x3 : Int32) (x4 : Int32), mm_V E s G H locs → lx_has ls 5 [(0, .inr (some a0)), (1, .inl x1), (2, .inl x2), (3, .inl x3), (4, .inl x4)] → pX1_keep_3 N a0 kx n G x1 x2 x3 x4 = some res → W p l e rX1_keep s m args below meth c H locs 0 0 (MQ below (mm_Qv E res.1) args s 0 0 (mm_A E)) (F0 m 3 ls []) := by
  have hx := X.1.1
  have hb := X.1.2.1
  intro n
  induction n with
  | zero =>
    intro G H locs ls x1 x2 x3 x4 V hl hp
    cases hp
  | succ n ih =>
    intro G H locs ls x1 x2 x3 x4 V hl hp
    have hp : pX1_keep_3_b N a0 (pX1_keep_3 N a0 kx n) kx G x1 x2 x3 x4 = some res := hp
    unfold pX1_keep_3_b at hp
    refine x_iload X dX1_keep_3 hl 4 rfl ?_
    refine x_aload_n X dX1_keep_5 hl 0 rfl rfl ?_
    refine q_getI (ci := 1) X V inX1 rfl (by decide) rfl 3 (by decide) rfl (tw_1 200 rfl rfl) rfl dX1_keep_6 hp (fun v6_1 hp => ?_)
    refine q_if hp (lv_icmp_ge (tgt := 49) hx hb dX1_keep_9 (by decide)) (fun hp => ?_) (fun hp => ?_)
    · exact hkx _ _ _ _ _ _ _ V (lx_sub hl [0, 1, 2, 3] rfl) hp
    · refine x_aload_n X dX1_keep_12 hl 0 rfl rfl ?_
      refine q_getR (ci := 1) X V inX1 rfl (by decide) rfl 0 (by decide) rfl (tw_1 194 rfl rfl) rfl dX1_keep_13 hp (fun r13_2 hp => ?_)
      refine x_iload X dX1_keep_16 hl 4 rfl ?_
      obtain ⟨b18_3, e0, hp2⟩ := q_nn_of hp
      clear hp; subst e0; have hp := hp2; clear hp2
      refine q_iald X V dX1_keep_18 hp (fun v18_4 hp => ?_)
      refine x_iload_n X dX1_keep_19 hl 1 rfl rfl ?_
      refine q_ifn hp (lv_icmp_ne (tgt := 43) hx hb dX1_keep_20 (by decide)) (fun hp => ?_) (fun hp => ?_)
      · refine x_iinc (v := (1 : Int32)) (lst' := [(4, .inl (x4 + (1 : Int32))), (0, .inr (some a0)), (1, .inl x1), (2, .inl x2), (3, .inl x3)]) X dX1_keep_43 hl 4 rfl (by decide) (by decide) rfl (fun ls hl => ?_)
        refine lv_goto (tgt := 3) hx hb dX1_keep_46 (by decide) ?_
        exact ih _ _ _ _ _ _ _ _ V (lx_sub hl [1, 2, 3, 4, 0] rfl) hp
      · refine x_aload_n X dX1_keep_23 hl 0 rfl rfl ?_
        refine q_getR (ci := 1) X V inX1 rfl (by decide) rfl 1 (by decide) rfl (tw_1 196 rfl rfl) rfl dX1_keep_24 hp (fun r24_5 hp => ?_)
        refine x_iload X dX1_keep_27 hl 4 rfl ?_
        obtain ⟨b29_6, e0, hp2⟩ := q_nn_of hp
        clear hp; subst e0; have hp := hp2; clear hp2
        refine q_iald X V dX1_keep_29 hp (fun v29_7 hp => ?_)
        refine x_iload_n X dX1_keep_30 hl 2 rfl rfl ?_
        refine q_ifn hp (lv_icmp_ne (tgt := 43) hx hb dX1_keep_31 (by decide)) (fun hp => ?_) (fun hp => ?_)
        · refine x_iinc (v := (1 : Int32)) (lst' := [(4, .inl (x4 + (1 : Int32))), (0, .inr (some a0)), (1, .inl x1), (2, .inl x2), (3, .inl x3)]) X dX1_keep_43 hl 4 rfl (by decide) (by decide) rfl (fun ls hl => ?_)
          refine lv_goto (tgt := 3) hx hb dX1_keep_46 (by decide) ?_
          exact ih _ _ _ _ _ _ _ _ V (lx_sub hl [1, 2, 3, 4, 0] rfl) hp
        · refine x_aload_n X dX1_keep_34 hl 0 rfl rfl ?_
          refine q_getR (ci := 1) X V inX1 rfl (by decide) rfl 2 (by decide) rfl (tw_1 198 rfl rfl) rfl dX1_keep_35 hp (fun r35_8 hp => ?_)
          refine x_iload X dX1_keep_38 hl 4 rfl ?_
          refine x_iload_n X dX1_keep_40 hl 3 rfl rfl ?_
          obtain ⟨b41_9, e0, hp2⟩ := q_nn_of hp
          clear hp; subst e0; have hp := hp2; clear hp2
          refine q_iast X V dX1_keep_41 hp (fun G H locs V hp => ?_)
          exact q_vret X V hr ⟨by decide, by decide⟩ dX1_keep_42 hp
def pX1_keep_0 (N a0 : Nat) (G : mm_M) (x1 : Int32) (x2 : Int32) (x3 : Int32) : Option (mm_M × Unit) :=
  pX1_keep_3 N a0 (fun (G : mm_M) (x1 : Int32) (x2 : Int32) (x3 : Int32) =>
    q_is G a0 2 <|
    q_cl (pX1_put_0 N a0 G x1 x2 x3) fun G _ =>
    some (G, ())) N G x1 x2 x3 (0 : Int32)
set_option maxRecDepth 100000 in
set_option maxHeartbeats 4000000 in
theorem bX1_keep_0 {p : Program} {l : Launch} {e : Env} {s : State} {m : MethodId} {args : Array Value} {below : List Frame} {meth : Method} {c : Code} {E : mm_E} {N a0 : Nat} {res : mm_M × Unit} (X : mm_X p s m args meth c prog_3_method_2_code 5 "XorOverlay$Entries" tw_T E) (hr : meth.sig.returnType = none) {G : mm_M} {H : Heap} {locs : List Loc} {ls : Array Slot} {x1 : Int32} {x2 : Int32} {x3 : Int32} (V : mm_V E s G H locs) (hl : lx_has ls 5 [(0, .inr (some a0)), (1, .inl x1), (2, .inl x2), (3, .inl x3)]) (hp : pX1_keep_0 N a0 G x1 x2 x3 = some res) : W p l e rX1_keep s m args below meth c H locs 0 0 (MQ below (mm_Qv E res.1) args s 0 0 (mm_A E)) (F0 m 0 ls []) := by
  have hx := X.1.1
  have hb := X.1.2.1
  unfold pX1_keep_0 at hp
  refine lv_iconst (v := (0 : Int32)) hx hb dX1_keep_0 (by decide) ?_
  refine x_istore (lst' := [(4, .inl (0 : Int32)), (0, .inr (some a0)), (1, .inl x1), (2, .inl x2), (3, .inl x3)]) X dX1_keep_1 hl (by decide) rfl (fun ls hl => ?_)
  refine bX1_keep_3 X hr (fun G H locs ls x1 x2 x3 V hl hp => ?_) _ _ _ _ _ _ _ _ _ V (lx_sub hl [1, 2, 3, 4, 0] rfl) hp
  refine x_aload_n X dX1_keep_49 hl 0 rfl rfl ?_
  refine x_iload_n X dX1_keep_50 hl 1 rfl rfl ?_
  refine x_iload_n X dX1_keep_51 hl 2 rfl rfl ?_
  refine x_iload_n X dX1_keep_52 hl 3 rfl rfl ?_
  obtain ⟨hk, hp⟩ := q_is_of hp
  obtain ⟨⟨G, u⟩, hq, hp⟩ := q_cl_of hp
  dsimp only at hp
  refine q_gov (cells' := 0) (slots' := 0) (va_runV (As := [.int x1, .int x2, .int x3]) (rest := []) X.1 (cX1_put l E hq) (tw_cwV 3 X.1.2.2.2.2 (tw_2 140 rfl rfl) kX1_put.2.1 kX1_put.2.2.1 kX1_put.2.2.2 kX1_put.1 rfl rfl hX1_put ⟨Nat.le_of_ble_eq_true rfl, Nat.le_of_ble_eq_true rfl⟩) (mm_preV X V rfl (by decide) rfl hk) rfl rfl hl.1 rfl (lv_room (Nat.le_of_ble_eq_true rfl)) dX1_keep_53 ⟨by decide, by decide⟩) V ⟨rfl, rfl⟩ (fun H locs V => ?_)
  exact q_vret X V hr ⟨by decide, by decide⟩ dX1_keep_56 hp
theorem cX1_keep (l : Launch) (E : mm_E) {N a0 : Nat} {G : mm_M} {x1 : Int32} {x2 : Int32} {x3 : Int32} {res : mm_M × Unit} (hp : pX1_keep_0 N a0 G x1 x2 x3 = some res) : Met l yX1_keep (Cond.code yX1_keep prog_3_method_2_code 5 none :: tw_T) rX1_keep (mm_Pc E G [.ref a0, .int x1, .int x2, .int x3]) (mm_Qv E res.1) 0 0 (mm_A E) :=
  mm_met (own := "XorOverlay$Entries") E G [.inr (some a0), .inl x1, .inl x2, .inl x3] (by decide) rfl rfl (Nat.le_of_ble_eq_true rfl) (fun p e s m args below meth c ls X hr hi V hl => bX1_keep_0 X hr V hl hp)
abbrev yX6_takeStore : MethodName := ⟨"XorOverlay", "takeStore", "(LXorOverlay$Peer;)V"⟩
abbrev rX6_takeStore : Room := { frames := 2, cells := 0, slots := 0, locals := 47 }
theorem kX6_takeStore : Cond.code yX6_takeStore prog_1_method_35_code 5 none ∈ tw_T ∧ Cond.instanceMethod yX6_takeStore ∈ tw_T ∧ Cond.selects "XorOverlay" yX6_takeStore yX6_takeStore ∈ tw_T ∧ Cond.initialized "XorOverlay" ∈ tw_T := ⟨(tw_2 213 rfl rfl), (tw_2 212 rfl rfl), (tw_s 16 rfl rfl), (tw_1 1 rfl rfl)⟩
theorem hX6_takeStore : yX6_takeStore.cls = "XorOverlay" ∧ yX6_takeStore.cls ≠ "java/lang/invoke/MethodHandle" ∧ yX6_takeStore.cls ≠ "java/lang/invoke/VarHandle" ∧ (parseMethodDescriptor yX6_takeStore.desc).map (fun d => d.parameters.length) = some 1 := by decide +kernel
theorem dX6_takeStore_0 : decode prog_1_method_35_code 0 = .ok (.aload_n 0, 1) := by decide +kernel
theorem dX6_takeStore_1 : decode prog_1_method_35_code 1 = .ok (.getfield 26, 3) := by decide +kernel
theorem dX6_takeStore_4 : decode prog_1_method_35_code 4 = .ok (.iconst 1, 1) := by decide +kernel
theorem dX6_takeStore_5 : decode prog_1_method_35_code 5 = .ok (.iaload, 1) := by decide +kernel
theorem dX6_takeStore_6 : decode prog_1_method_35_code 6 = .ok (.istore_n 2, 1) := by decide +kernel
theorem dX6_takeStore_7 : decode prog_1_method_35_code 7 = .ok (.aload_n 0, 1) := by decide +kernel
theorem dX6_takeStore_8 : decode prog_1_method_35_code 8 = .ok (.getfield 26, 3) := by decide +kernel
theorem dX6_takeStore_11 : decode prog_1_method_35_code 11 = .ok (.iconst 5, 1) := by decide +kernel
theorem dX6_takeStore_12 : decode prog_1_method_35_code 12 = .ok (.iaload, 1) := by decide +kernel
theorem dX6_takeStore_13 : decode prog_1_method_35_code 13 = .ok (.istore_n 3, 1) := by decide +kernel
theorem dX6_takeStore_14 : decode prog_1_method_35_code 14 = .ok (.aload_n 0, 1) := by decide +kernel
theorem dX6_takeStore_15 : decode prog_1_method_35_code 15 = .ok (.invokevirtual 246, 3) := by decide +kernel
theorem dX6_takeStore_18 : decode prog_1_method_35_code 18 = .ok (.istore 4, 2) := by decide +kernel
theorem dX6_takeStore_20 : decode prog_1_method_35_code 20 = .ok (.iload_n 3, 1) := by decide +kernel
theorem dX6_takeStore_21 : decode prog_1_method_35_code 21 = .ok (.aload_n 1, 1) := by decide +kernel
theorem dX6_takeStore_22 : decode prog_1_method_35_code 22 = .ok (.getfield 180, 3) := by decide +kernel
theorem dX6_takeStore_25 : decode prog_1_method_35_code 25 = .ok (.iload_n 2, 1) := by decide +kernel
theorem dX6_takeStore_26 : decode prog_1_method_35_code 26 = .ok (.iload 4, 2) := by decide +kernel
theorem dX6_takeStore_28 : decode prog_1_method_35_code 28 = .ok (.invokestatic 249, 3) := by decide +kernel
theorem dX6_takeStore_31 : decode prog_1_method_35_code 31 = .ok (.if_icmp .eq 19, 3) := by decide +kernel
theorem dX6_takeStore_34 : decode prog_1_method_35_code 34 = .ok (.iload_n 3, 1) := by decide +kernel
theorem dX6_takeStore_35 : decode prog_1_method_35_code 35 = .ok (.aload_n 1, 1) := by decide +kernel
theorem dX6_takeStore_36 : decode prog_1_method_35_code 36 = .ok (.getfield 180, 3) := by decide +kernel
theorem dX6_takeStore_39 : decode prog_1_method_35_code 39 = .ok (.iload_n 2, 1) := by decide +kernel
theorem dX6_takeStore_40 : decode prog_1_method_35_code 40 = .ok (.iload 4, 2) := by decide +kernel
theorem dX6_takeStore_42 : decode prog_1_method_35_code 42 = .ok (.iconst 1, 1) := by decide +kernel
theorem dX6_takeStore_43 : decode prog_1_method_35_code 43 = .ok (.isub, 1) := by decide +kernel
theorem dX6_takeStore_44 : decode prog_1_method_35_code 44 = .ok (.invokestatic 249, 3) := by decide +kernel
theorem dX6_takeStore_47 : decode prog_1_method_35_code 47 = .ok (.if_icmp .ne 24, 3) := by decide +kernel
theorem dX6_takeStore_50 : decode prog_1_method_35_code 50 = .ok (.aload_n 1, 1) := by decide +kernel
theorem dX6_takeStore_51 : decode prog_1_method_35_code 51 = .ok (.getfield 86, 3) := by decide +kernel
theorem dX6_takeStore_54 : decode prog_1_method_35_code 54 = .ok (.aload_n 0, 1) := by decide +kernel
theorem dX6_takeStore_55 : decode prog_1_method_35_code 55 = .ok (.getfield 26, 3) := by decide +kernel
theorem dX6_takeStore_58 : decode prog_1_method_35_code 58 = .ok (.iconst 4, 1) := by decide +kernel
theorem dX6_takeStore_59 : decode prog_1_method_35_code 59 = .ok (.iaload, 1) := by decide +kernel
theorem dX6_takeStore_60 : decode prog_1_method_35_code 60 = .ok (.iload_n 2, 1) := by decide +kernel
theorem dX6_takeStore_61 : decode prog_1_method_35_code 61 = .ok (.aload_n 0, 1) := by decide +kernel
theorem dX6_takeStore_62 : decode prog_1_method_35_code 62 = .ok (.getfield 33, 3) := by decide +kernel
theorem dX6_takeStore_65 : decode prog_1_method_35_code 65 = .ok (.bipush 24, 2) := by decide +kernel
theorem dX6_takeStore_67 : decode prog_1_method_35_code 67 = .ok (.iadd, 1) := by decide +kernel
theorem dX6_takeStore_68 : decode prog_1_method_35_code 68 = .ok (.invokevirtual 262, 3) := by decide +kernel
theorem dX6_takeStore_71 : decode prog_1_method_35_code 71 = .ok (.return_, 1) := by decide +kernel
def pX6_takeStore_0 (N a0 : Nat) (G : mm_M) (x1 : Option Nat) : Option (mm_M × Unit) :=
  q_gR G a0 7 3 fun r1_1 =>
  q_nn r1_1 fun b5_2 =>
  q_aI G b5_2 101 (1 : Int32) fun v5_3 =>
  q_gR G a0 7 3 fun r8_4 =>
  q_nn r8_4 fun b12_5 =>
  q_aI G b12_5 101 (5 : Int32) fun v12_6 =>
  q_is G a0 7 <|
  q_cl (pX6_epochNow_0 N a0 G) fun G v15_8 =>
  q_nn x1 fun b22_9 =>
  q_gI G b22_9 5 0 fun v22_10 =>
  q_cl (pX6_tokenOf_0 N G v22_10 v5_3 v15_8) fun G v28_12 =>
  if v12_6 = v28_12 then
    q_gR G b22_9 5 3 fun r51_13 =>
    q_gR G a0 7 3 fun r55_14 =>
    q_nn r55_14 fun b59_15 =>
    q_aI G b59_15 101 (4 : Int32) fun v59_16 =>
    q_gI G a0 7 5 fun v62_17 =>
    q_nn r51_13 fun b68_18 =>
    q_is G b68_18 2 <|
    q_cl (pX1_keep_0 N b68_18 G v59_16 v5_3 (v62_17 + (24 : Int32))) fun G _ =>
    some (G, ())
  else
    q_gI G b22_9 5 0 fun v36_20 =>
    q_cl (pX6_tokenOf_0 N G v36_20 v5_3 (v15_8 - (1 : Int32))) fun G v44_22 =>
    if v12_6 = v44_22 then
      q_gR G b22_9 5 3 fun r51_23 =>
      q_gR G a0 7 3 fun r55_24 =>
      q_nn r55_24 fun b59_25 =>
      q_aI G b59_25 101 (4 : Int32) fun v59_26 =>
      q_gI G a0 7 5 fun v62_27 =>
      q_nn r51_23 fun b68_28 =>
      q_is G b68_28 2 <|
      q_cl (pX1_keep_0 N b68_28 G v59_26 v5_3 (v62_27 + (24 : Int32))) fun G _ =>
      some (G, ())
    else
      some (G, ())
set_option maxRecDepth 100000 in
set_option maxHeartbeats 4000000 in
theorem bX6_takeStore_0 {p : Program} {l : Launch} {e : Env} {s : State} {m : MethodId} {args : Array Value} {below : List Frame} {meth : Method} {c : Code} {E : mm_E} {N a0 : Nat} {res : mm_M × Unit} (X : mm_X p s m args meth c prog_1_method_35_code 5 "XorOverlay" tw_T E) (hr : meth.sig.returnType = none) {G : mm_M} {H : Heap} {locs : List Loc} {ls : Array Slot} {x1 : Option Nat} (V : mm_V E s G H locs) (hl : lx_has ls 5 [(0, .inr (some a0)), (1, .inr x1)]) (hp : pX6_takeStore_0 N a0 G x1 = some res) : W p l e rX6_takeStore s m args below meth c H locs 0 0 (MQ below (mm_Qv E res.1) args s 0 0 (mm_A E)) (F0 m 0 ls []) := by
  have hx := X.1.1
  have hb := X.1.2.1
  unfold pX6_takeStore_0 at hp
  refine x_aload_n X dX6_takeStore_0 hl 0 rfl rfl ?_
  refine q_getR (ci := 6) X V inX6 rfl (by decide) rfl 3 (by decide) rfl (tw_1 39 rfl rfl) rfl dX6_takeStore_1 hp (fun r1_1 hp => ?_)
  refine lv_iconst (v := (1 : Int32)) hx hb dX6_takeStore_4 (by decide) ?_
  obtain ⟨b5_2, e0, hp2⟩ := q_nn_of hp
  clear hp; subst e0; have hp := hp2; clear hp2
  refine q_iald X V dX6_takeStore_5 hp (fun v5_3 hp => ?_)
  refine x_istore_n (lst' := [(2, .inl v5_3), (0, .inr (some a0)), (1, .inr x1)]) X dX6_takeStore_6 hl rfl (by decide) rfl (fun ls hl => ?_)
  refine x_aload_n X dX6_takeStore_7 hl 1 rfl rfl ?_
  refine q_getR (ci := 6) X V inX6 rfl (by decide) rfl 3 (by decide) rfl (tw_1 39 rfl rfl) rfl dX6_takeStore_8 hp (fun r8_4 hp => ?_)
  refine lv_iconst (v := (5 : Int32)) hx hb dX6_takeStore_11 (by decide) ?_
  obtain ⟨b12_5, e0, hp2⟩ := q_nn_of hp
  clear hp; subst e0; have hp := hp2; clear hp2
  refine q_iald X V dX6_takeStore_12 hp (fun v12_6 hp => ?_)
  refine x_istore_n (lst' := [(3, .inl v12_6), (2, .inl v5_3), (0, .inr (some a0)), (1, .inr x1)]) X dX6_takeStore_13 hl rfl (by decide) rfl (fun ls hl => ?_)
  refine x_aload_n X dX6_takeStore_14 hl 2 rfl rfl ?_
  obtain ⟨hk, hp⟩ := q_is_of hp
  obtain ⟨⟨G, v15_8⟩, hq, hp⟩ := q_cl_of hp
  dsimp only at hp
  refine q_goi (cells' := 0) (slots' := 0) (va_runV (As := []) (rest := []) X.1 (cX6_epochNow l E hq) (tw_cwV 0 X.1.2.2.2.2 (tw_2 188 rfl rfl) kX6_epochNow.2.1 kX6_epochNow.2.2.1 kX6_epochNow.2.2.2 kX6_epochNow.1 rfl rfl hX6_epochNow ⟨Nat.le_of_ble_eq_true rfl, Nat.le_of_ble_eq_true rfl⟩) (mm_preV X V rfl (by decide) rfl hk) rfl rfl hl.1 rfl (lv_room (Nat.le_of_ble_eq_true rfl)) dX6_takeStore_15 ⟨by decide, by decide⟩) V ⟨rfl, rfl⟩ (fun H locs V => ?_)
  refine x_istore (lst' := [(4, .inl v15_8), (3, .inl v12_6), (2, .inl v5_3), (0, .inr (some a0)), (1, .inr x1)]) X dX6_takeStore_18 hl (by decide) rfl (fun ls hl => ?_)
  refine x_iload_n X dX6_takeStore_20 hl 1 rfl rfl ?_
  refine x_aload_n X dX6_takeStore_21 hl 4 rfl rfl ?_
  obtain ⟨b22_9, e0, hp2⟩ := q_nn_of hp
  clear hp; subst e0; have hp := hp2; clear hp2
  refine q_getI (ci := 4) X V inX4 rfl (by decide) rfl 0 (by decide) rfl (tw_1 213 rfl rfl) rfl dX6_takeStore_22 hp (fun v22_10 hp => ?_)
  refine x_iload_n X dX6_takeStore_25 hl 2 rfl rfl ?_
  refine x_iload X dX6_takeStore_26 hl 0 rfl ?_
  obtain ⟨⟨G, v28_12⟩, hq, hp⟩ := q_cl_of hp
  dsimp only at hp
  refine q_goi (cells' := 0) (slots' := 0) (va_runS (As := [.int v22_10, .int v5_3, .int v15_8]) (rest := [.int v12_6]) X.1 (cX6_tokenOf l E hq) (tw_cwS 3 X.1.2.2.2.2 (tw_2 192 rfl rfl) kX6_tokenOf.2.1 kX6_tokenOf.2.2 kX6_tokenOf.1 rfl rfl hX6_tokenOf ⟨Nat.le_of_ble_eq_true rfl, Nat.le_of_ble_eq_true rfl⟩) (mm_preS X V) rfl rfl hl.1 rfl (lv_room (Nat.le_of_ble_eq_true rfl)) dX6_takeStore_28 ⟨by decide, by decide⟩) V ⟨rfl, rfl⟩ (fun H locs V => ?_)
  refine q_if hp (lv_icmp_eq (tgt := 50) hx hb dX6_takeStore_31 (by decide)) (fun hp => ?_) (fun hp => ?_)
  · refine x_aload_n X dX6_takeStore_50 hl 4 rfl rfl ?_
    refine q_getR (ci := 4) X V inX4 rfl (by decide) rfl 3 (by decide) rfl (tw_1 219 rfl rfl) rfl dX6_takeStore_51 hp (fun r51_13 hp => ?_)
    refine x_aload_n X dX6_takeStore_54 hl 3 rfl rfl ?_
    refine q_getR (ci := 6) X V inX6 rfl (by decide) rfl 3 (by decide) rfl (tw_1 39 rfl rfl) rfl dX6_takeStore_55 hp (fun r55_14 hp => ?_)
    refine lv_iconst (v := (4 : Int32)) hx hb dX6_takeStore_58 (by decide) ?_
    obtain ⟨b59_15, e0, hp2⟩ := q_nn_of hp
    clear hp; subst e0; have hp := hp2; clear hp2
    refine q_iald X V dX6_takeStore_59 hp (fun v59_16 hp => ?_)
    refine x_iload_n X dX6_takeStore_60 hl 2 rfl rfl ?_
    refine x_aload_n X dX6_takeStore_61 hl 3 rfl rfl ?_
    refine q_getI (ci := 6) X V inX6 rfl (by decide) rfl 5 (by decide) rfl (tw_1 41 rfl rfl) rfl dX6_takeStore_62 hp (fun v62_17 hp => ?_)
    refine lv_bipush (v := (24 : Int32)) hx hb dX6_takeStore_65 (by decide) ?_
    refine lv_iadd hx hb dX6_takeStore_67 ?_
    obtain ⟨b68_18, e0, hp2⟩ := q_nn_of hp
    clear hp; subst e0; have hp := hp2; clear hp2
    obtain ⟨hk, hp⟩ := q_is_of hp
    obtain ⟨⟨G, u⟩, hq, hp⟩ := q_cl_of hp
    dsimp only at hp
    refine q_gov (cells' := 0) (slots' := 0) (va_runV (As := [.int v59_16, .int v5_3, .int (v62_17 + (24 : Int32))]) (rest := []) X.1 (cX1_keep l E hq) (tw_cwV 3 X.1.2.2.2.2 (tw_2 214 rfl rfl) kX1_keep.2.1 kX1_keep.2.2.1 kX1_keep.2.2.2 kX1_keep.1 rfl rfl hX1_keep ⟨Nat.le_of_ble_eq_true rfl, Nat.le_of_ble_eq_true rfl⟩) (mm_preV X V rfl (by decide) rfl hk) rfl rfl hl.1 rfl (lv_room (Nat.le_of_ble_eq_true rfl)) dX6_takeStore_68 ⟨by decide, by decide⟩) V ⟨rfl, rfl⟩ (fun H locs V => ?_)
    exact q_vret X V hr ⟨by decide, by decide⟩ dX6_takeStore_71 hp
  · refine x_iload_n X dX6_takeStore_34 hl 1 rfl rfl ?_
    refine x_aload_n X dX6_takeStore_35 hl 4 rfl rfl ?_
    refine q_getI (ci := 4) X V inX4 rfl (by decide) rfl 0 (by decide) rfl (tw_1 213 rfl rfl) rfl dX6_takeStore_36 hp (fun v36_20 hp => ?_)
    refine x_iload_n X dX6_takeStore_39 hl 2 rfl rfl ?_
    refine x_iload X dX6_takeStore_40 hl 0 rfl ?_
    refine lv_iconst (v := (1 : Int32)) hx hb dX6_takeStore_42 (by decide) ?_
    refine lv_isub hx hb dX6_takeStore_43 ?_
    obtain ⟨⟨G, v44_22⟩, hq, hp⟩ := q_cl_of hp
    dsimp only at hp
    refine q_goi (cells' := 0) (slots' := 0) (va_runS (As := [.int v36_20, .int v5_3, .int (v15_8 - (1 : Int32))]) (rest := [.int v12_6]) X.1 (cX6_tokenOf l E hq) (tw_cwS 3 X.1.2.2.2.2 (tw_2 192 rfl rfl) kX6_tokenOf.2.1 kX6_tokenOf.2.2 kX6_tokenOf.1 rfl rfl hX6_tokenOf ⟨Nat.le_of_ble_eq_true rfl, Nat.le_of_ble_eq_true rfl⟩) (mm_preS X V) rfl rfl hl.1 rfl (lv_room (Nat.le_of_ble_eq_true rfl)) dX6_takeStore_44 ⟨by decide, by decide⟩) V ⟨rfl, rfl⟩ (fun H locs V => ?_)
    refine q_ifn hp (lv_icmp_ne (tgt := 71) hx hb dX6_takeStore_47 (by decide)) (fun hp => ?_) (fun hp => ?_)
    · exact q_vret X V hr ⟨by decide, by decide⟩ dX6_takeStore_71 hp
    · refine x_aload_n X dX6_takeStore_50 hl 4 rfl rfl ?_
      refine q_getR (ci := 4) X V inX4 rfl (by decide) rfl 3 (by decide) rfl (tw_1 219 rfl rfl) rfl dX6_takeStore_51 hp (fun r51_23 hp => ?_)
      refine x_aload_n X dX6_takeStore_54 hl 3 rfl rfl ?_
      refine q_getR (ci := 6) X V inX6 rfl (by decide) rfl 3 (by decide) rfl (tw_1 39 rfl rfl) rfl dX6_takeStore_55 hp (fun r55_24 hp => ?_)
      refine lv_iconst (v := (4 : Int32)) hx hb dX6_takeStore_58 (by decide) ?_
      obtain ⟨b59_25, e0, hp2⟩ := q_nn_of hp
      clear hp; subst e0; have hp := hp2; clear hp2
      refine q_iald X V dX6_takeStore_59 hp (fun v59_26 hp => ?_)
      refine x_iload_n X dX6_takeStore_60 hl 2 rfl rfl ?_
      refine x_aload_n X dX6_takeStore_61 hl 3 rfl rfl ?_
      refine q_getI (ci := 6) X V inX6 rfl (by decide) rfl 5 (by decide) rfl (tw_1 41 rfl rfl) rfl dX6_takeStore_62 hp (fun v62_27 hp => ?_)
      refine lv_bipush (v := (24 : Int32)) hx hb dX6_takeStore_65 (by decide) ?_
      refine lv_iadd hx hb dX6_takeStore_67 ?_
      obtain ⟨b68_28, e0, hp2⟩ := q_nn_of hp
      clear hp; subst e0; have hp := hp2; clear hp2
      obtain ⟨hk, hp⟩ := q_is_of hp
      obtain ⟨⟨G, u⟩, hq, hp⟩ := q_cl_of hp
      dsimp only at hp
      refine q_gov (cells' := 0) (slots' := 0) (va_runV (As := [.int v59_26, .int v5_3, .int (v62_27 + (24 : Int32))]) (rest := []) X.1 (cX1_keep l E hq) (tw_cwV 3 X.1.2.2.2.2 (tw_2 214 rfl rfl) kX1_keep.2.1 kX1_keep.2.2.1 kX1_keep.2.2.2 kX1_keep.1 rfl rfl hX1_keep ⟨Nat.le_of_ble_eq_true rfl, Nat.le_of_ble_eq_true rfl⟩) (mm_preV X V rfl (by decide) rfl hk) rfl rfl hl.1 rfl (lv_room (Nat.le_of_ble_eq_true rfl)) dX6_takeStore_68 ⟨by decide, by decide⟩) V ⟨rfl, rfl⟩ (fun H locs V => ?_)
      exact q_vret X V hr ⟨by decide, by decide⟩ dX6_takeStore_71 hp
theorem cX6_takeStore (l : Launch) (E : mm_E) {N a0 : Nat} {G : mm_M} {x1 : Option Nat} {res : mm_M × Unit} (hp : pX6_takeStore_0 N a0 G x1 = some res) : Met l yX6_takeStore (Cond.code yX6_takeStore prog_1_method_35_code 5 none :: tw_T) rX6_takeStore (mm_Pc E G [.ref a0, va_rf x1]) (mm_Qv E res.1) 0 0 (mm_A E) :=
  mm_met (own := "XorOverlay") E G [.inr (some a0), .inr x1] (by decide) rfl rfl (Nat.le_of_ble_eq_true rfl) (fun p e s m args below meth c ls X hr hi V hl => bX6_takeStore_0 X hr V hl hp)
abbrev yX6_deliver : MethodName := ⟨"XorOverlay", "deliver", "(I)I"⟩
abbrev rX6_deliver : Room := { frames := 5, cells := 0, slots := 0, locals := 123 }
theorem kX6_deliver : Cond.code yX6_deliver prog_1_method_10_code 3 (Option.some .int) ∈ tw_T ∧ Cond.instanceMethod yX6_deliver ∈ tw_T ∧ Cond.selects "XorOverlay" yX6_deliver yX6_deliver ∈ tw_T ∧ Cond.initialized "XorOverlay" ∈ tw_T := ⟨(tw_2 175 rfl rfl), (tw_2 173 rfl rfl), (tw_2 174 rfl rfl), (tw_1 1 rfl rfl)⟩
theorem hX6_deliver : yX6_deliver.cls = "XorOverlay" ∧ yX6_deliver.cls ≠ "java/lang/invoke/MethodHandle" ∧ yX6_deliver.cls ≠ "java/lang/invoke/VarHandle" ∧ (parseMethodDescriptor yX6_deliver.desc).map (fun d => d.parameters.length) = some 1 := by decide +kernel
theorem dX6_deliver_0 : decode prog_1_method_10_code 0 = .ok (.aload_n 0, 1) := by decide +kernel
theorem dX6_deliver_1 : decode prog_1_method_10_code 1 = .ok (.getfield 18, 3) := by decide +kernel
theorem dX6_deliver_4 : decode prog_1_method_10_code 4 = .ok (.iload_n 1, 1) := by decide +kernel
theorem dX6_deliver_5 : decode prog_1_method_10_code 5 = .ok (.invokevirtual 102, 3) := by decide +kernel
theorem dX6_deliver_8 : decode prog_1_method_10_code 8 = .ok (.ifCond .ne 5, 3) := by decide +kernel
theorem dX6_deliver_11 : decode prog_1_method_10_code 11 = .ok (.iconst (-1), 1) := by decide +kernel
theorem dX6_deliver_12 : decode prog_1_method_10_code 12 = .ok (.ireturn, 1) := by decide +kernel
theorem dX6_deliver_13 : decode prog_1_method_10_code 13 = .ok (.aload_n 0, 1) := by decide +kernel
theorem dX6_deliver_14 : decode prog_1_method_10_code 14 = .ok (.getfield 18, 3) := by decide +kernel
theorem dX6_deliver_17 : decode prog_1_method_10_code 17 = .ok (.iload_n 1, 1) := by decide +kernel
theorem dX6_deliver_18 : decode prog_1_method_10_code 18 = .ok (.aload_n 0, 1) := by decide +kernel
theorem dX6_deliver_19 : decode prog_1_method_10_code 19 = .ok (.getfield 26, 3) := by decide +kernel
theorem dX6_deliver_22 : decode prog_1_method_10_code 22 = .ok (.invokevirtual 109, 3) := by decide +kernel
theorem dX6_deliver_25 : decode prog_1_method_10_code 25 = .ok (.aload_n 0, 1) := by decide +kernel
theorem dX6_deliver_26 : decode prog_1_method_10_code 26 = .ok (.getfield 18, 3) := by decide +kernel
theorem dX6_deliver_29 : decode prog_1_method_10_code 29 = .ok (.iload_n 1, 1) := by decide +kernel
theorem dX6_deliver_30 : decode prog_1_method_10_code 30 = .ok (.invokevirtual 113, 3) := by decide +kernel
theorem dX6_deliver_33 : decode prog_1_method_10_code 33 = .ok (.aload_n 0, 1) := by decide +kernel
theorem dX6_deliver_34 : decode prog_1_method_10_code 34 = .ok (.aload_n 0, 1) := by decide +kernel
theorem dX6_deliver_35 : decode prog_1_method_10_code 35 = .ok (.getfield 26, 3) := by decide +kernel
theorem dX6_deliver_38 : decode prog_1_method_10_code 38 = .ok (.iconst 2, 1) := by decide +kernel
theorem dX6_deliver_39 : decode prog_1_method_10_code 39 = .ok (.iaload, 1) := by decide +kernel
theorem dX6_deliver_40 : decode prog_1_method_10_code 40 = .ok (.invokevirtual 43, 3) := by decide +kernel
theorem dX6_deliver_43 : decode prog_1_method_10_code 43 = .ok (.astore_n 2, 1) := by decide +kernel
theorem dX6_deliver_44 : decode prog_1_method_10_code 44 = .ok (.aload_n 2, 1) := by decide +kernel
theorem dX6_deliver_45 : decode prog_1_method_10_code 45 = .ok (.ifnonnull 5, 3) := by decide +kernel
theorem dX6_deliver_48 : decode prog_1_method_10_code 48 = .ok (.iconst 0, 1) := by decide +kernel
theorem dX6_deliver_49 : decode prog_1_method_10_code 49 = .ok (.ireturn, 1) := by decide +kernel
theorem dX6_deliver_50 : decode prog_1_method_10_code 50 = .ok (.aload_n 2, 1) := by decide +kernel
theorem dX6_deliver_51 : decode prog_1_method_10_code 51 = .ok (.getfield 54, 3) := by decide +kernel
theorem dX6_deliver_54 : decode prog_1_method_10_code 54 = .ok (.aload_n 0, 1) := by decide +kernel
theorem dX6_deliver_55 : decode prog_1_method_10_code 55 = .ok (.getfield 26, 3) := by decide +kernel
theorem dX6_deliver_58 : decode prog_1_method_10_code 58 = .ok (.iconst 1, 1) := by decide +kernel
theorem dX6_deliver_59 : decode prog_1_method_10_code 59 = .ok (.iaload, 1) := by decide +kernel
theorem dX6_deliver_60 : decode prog_1_method_10_code 60 = .ok (.aload_n 0, 1) := by decide +kernel
theorem dX6_deliver_61 : decode prog_1_method_10_code 61 = .ok (.getfield 33, 3) := by decide +kernel
theorem dX6_deliver_64 : decode prog_1_method_10_code 64 = .ok (.invokevirtual 58, 3) := by decide +kernel
theorem dX6_deliver_67 : decode prog_1_method_10_code 67 = .ok (.aload_n 0, 1) := by decide +kernel
theorem dX6_deliver_68 : decode prog_1_method_10_code 68 = .ok (.getfield 26, 3) := by decide +kernel
theorem dX6_deliver_71 : decode prog_1_method_10_code 71 = .ok (.iconst 0, 1) := by decide +kernel
theorem dX6_deliver_72 : decode prog_1_method_10_code 72 = .ok (.iaload, 1) := by decide +kernel
theorem dX6_deliver_73 : decode prog_1_method_10_code 73 = .ok (.tableswitch 43 0 2 #[27, 27, 35], 27) := by decide +kernel
theorem dX6_deliver_100 : decode prog_1_method_10_code 100 = .ok (.aload_n 0, 1) := by decide +kernel
theorem dX6_deliver_101 : decode prog_1_method_10_code 101 = .ok (.aload_n 2, 1) := by decide +kernel
theorem dX6_deliver_102 : decode prog_1_method_10_code 102 = .ok (.invokevirtual 116, 3) := by decide +kernel
theorem dX6_deliver_105 : decode prog_1_method_10_code 105 = .ok (.goto 16, 3) := by decide +kernel
theorem dX6_deliver_108 : decode prog_1_method_10_code 108 = .ok (.aload_n 0, 1) := by decide +kernel
theorem dX6_deliver_109 : decode prog_1_method_10_code 109 = .ok (.aload_n 2, 1) := by decide +kernel
theorem dX6_deliver_110 : decode prog_1_method_10_code 110 = .ok (.invokevirtual 120, 3) := by decide +kernel
theorem dX6_deliver_113 : decode prog_1_method_10_code 113 = .ok (.goto 8, 3) := by decide +kernel
theorem dX6_deliver_116 : decode prog_1_method_10_code 116 = .ok (.aload_n 0, 1) := by decide +kernel
theorem dX6_deliver_117 : decode prog_1_method_10_code 117 = .ok (.aload_n 2, 1) := by decide +kernel
theorem dX6_deliver_118 : decode prog_1_method_10_code 118 = .ok (.invokevirtual 123, 3) := by decide +kernel
theorem dX6_deliver_121 : decode prog_1_method_10_code 121 = .ok (.iconst 1, 1) := by decide +kernel
theorem dX6_deliver_122 : decode prog_1_method_10_code 122 = .ok (.ireturn, 1) := by decide +kernel
def pX6_deliver_0 (N a0 : Nat) (G : mm_M) (x1 : Int32) : Option (mm_M × Int32) :=
  q_gR G a0 7 1 fun r1_1 =>
  q_nn r1_1 fun b5_2 =>
  q_is G b5_2 3 <|
  q_cl (pX2_has_0 N b5_2 G x1) fun G v5_4 =>
  if v5_4 = 0 then
    some (G, (-1 : Int32))
  else
    q_gR G a0 7 1 fun r14_5 =>
    q_gR G a0 7 3 fun r19_6 =>
    q_nn r14_5 fun b22_7 =>
    q_is G b22_7 3 <|
    q_cl (pX2_copyOut_0 N b22_7 G x1 r19_6) fun G _ =>
    q_gR G a0 7 1 fun r26_9 =>
    q_nn r26_9 fun b30_10 =>
    q_is G b30_10 3 <|
    q_cl (pX2_remove_0 N b30_10 G x1) fun G _ =>
    q_gR G a0 7 3 fun r35_12 =>
    q_nn r35_12 fun b39_13 =>
    q_aI G b39_13 101 (2 : Int32) fun v39_14 =>
    q_is G a0 7 <|
    q_cl (pX6_upPeer_0 N a0 G v39_14) fun G r40_16 =>
    q_op r40_16 (
      some (G, (0 : Int32))) fun b45_17 =>
    q_gR G b45_17 5 1 fun r51_18 =>
    q_gR G a0 7 3 fun r55_19 =>
    q_nn r55_19 fun b59_20 =>
    q_aI G b59_20 101 (1 : Int32) fun v59_21 =>
    q_gI G a0 7 5 fun v61_22 =>
    q_nn r51_18 fun b64_23 =>
    q_is G b64_23 6 <|
    q_cl (pX5_see_0 N b64_23 G v59_21 v61_22) fun G _ =>
    q_gR G a0 7 3 fun r68_25 =>
    q_nn r68_25 fun b72_26 =>
    q_aI G b72_26 101 (0 : Int32) fun v72_27 =>
    if v72_27 = 0 then
      q_is G a0 7 <|
      q_cl (pX6_answerQuery_0 N a0 G (some b45_17)) fun G _ =>
      some (G, (1 : Int32))
    else
    if v72_27 = 1 then
      q_is G a0 7 <|
      q_cl (pX6_answerQuery_0 N a0 G (some b45_17)) fun G _ =>
      some (G, (1 : Int32))
    else
    if v72_27 = 2 then
      q_is G a0 7 <|
      q_cl (pX6_takeNodes_0 N a0 G (some b45_17)) fun G _ =>
      some (G, (1 : Int32))
    else
    q_is G a0 7 <|
    q_cl (pX6_takeStore_0 N a0 G (some b45_17)) fun G _ =>
    some (G, (1 : Int32))
set_option maxRecDepth 100000 in
set_option maxHeartbeats 4000000 in
theorem bX6_deliver_0 {p : Program} {l : Launch} {e : Env} {s : State} {m : MethodId} {args : Array Value} {below : List Frame} {meth : Method} {c : Code} {E : mm_E} {N a0 : Nat} {res : mm_M × Int32} (X : mm_X p s m args meth c prog_1_method_10_code 3 "XorOverlay" tw_T E) (hr : meth.sig.returnType = (Option.some .int)) {G : mm_M} {H : Heap} {locs : List Loc} {ls : Array Slot} {x1 : Int32} (V : mm_V E s G H locs) (hl : lx_has ls 3 [(0, .inr (some a0)), (1, .inl x1)]) (hp : pX6_deliver_0 N a0 G x1 = some res) : W p l e rX6_deliver s m args below meth c H locs 0 0 (MQ below (mm_Qi E res.1 res.2) args s 0 0 (mm_A E)) (F0 m 0 ls []) := by
  have hx := X.1.1
  have hb := X.1.2.1
  unfold pX6_deliver_0 at hp
  refine x_aload_n X dX6_deliver_0 hl 0 rfl rfl ?_
  refine q_getR (ci := 6) X V inX6 rfl (by decide) rfl 1 (by decide) rfl (tw_1 37 rfl rfl) rfl dX6_deliver_1 hp (fun r1_1 hp => ?_)
  refine x_iload_n X dX6_deliver_4 hl 1 rfl rfl ?_
  obtain ⟨b5_2, e0, hp2⟩ := q_nn_of hp
  clear hp; subst e0; have hp := hp2; clear hp2
  obtain ⟨hk, hp⟩ := q_is_of hp
  obtain ⟨⟨G, v5_4⟩, hq, hp⟩ := q_cl_of hp
  dsimp only at hp
  refine q_goi (cells' := 0) (slots' := 0) (va_runV (As := [.int x1]) (rest := []) X.1 (cX2_has l E hq) (tw_cwV 1 X.1.2.2.2.2 (tw_2 164 rfl rfl) kX2_has.2.1 kX2_has.2.2.1 kX2_has.2.2.2 kX2_has.1 rfl rfl hX2_has ⟨Nat.le_of_ble_eq_true rfl, Nat.le_of_ble_eq_true rfl⟩) (mm_preV X V rfl (by decide) rfl hk) rfl rfl hl.1 rfl (lv_room (Nat.le_of_ble_eq_true rfl)) dX6_deliver_5 ⟨by decide, by decide⟩) V ⟨rfl, rfl⟩ (fun H locs V => ?_)
  refine q_ifn hp (lv_if_ne (tgt := 13) hx hb dX6_deliver_8 (by decide)) (fun hp => ?_) (fun hp => ?_)
  · refine x_aload_n X dX6_deliver_13 hl 0 rfl rfl ?_
    refine q_getR (ci := 6) X V inX6 rfl (by decide) rfl 1 (by decide) rfl (tw_1 37 rfl rfl) rfl dX6_deliver_14 hp (fun r14_5 hp => ?_)
    refine x_iload_n X dX6_deliver_17 hl 1 rfl rfl ?_
    refine x_aload_n X dX6_deliver_18 hl 0 rfl rfl ?_
    refine q_getR (ci := 6) X V inX6 rfl (by decide) rfl 3 (by decide) rfl (tw_1 39 rfl rfl) rfl dX6_deliver_19 hp (fun r19_6 hp => ?_)
    obtain ⟨b22_7, e0, hp2⟩ := q_nn_of hp
    clear hp; subst e0; have hp := hp2; clear hp2
    obtain ⟨hk, hp⟩ := q_is_of hp
    obtain ⟨⟨G, u⟩, hq, hp⟩ := q_cl_of hp
    dsimp only at hp
    refine q_gov (cells' := 0) (slots' := 0) (va_runV (As := [.int x1, va_rf r19_6]) (rest := []) X.1 (cX2_copyOut l E hq) (tw_cwV 2 X.1.2.2.2.2 (tw_2 176 rfl rfl) kX2_copyOut.2.1 kX2_copyOut.2.2.1 kX2_copyOut.2.2.2 kX2_copyOut.1 rfl rfl hX2_copyOut ⟨Nat.le_of_ble_eq_true rfl, Nat.le_of_ble_eq_true rfl⟩) (mm_preV X V rfl (by decide) rfl hk) rfl rfl hl.1 rfl (lv_room (Nat.le_of_ble_eq_true rfl)) dX6_deliver_22 ⟨by decide, by decide⟩) V ⟨rfl, rfl⟩ (fun H locs V => ?_)
    refine x_aload_n X dX6_deliver_25 hl 0 rfl rfl ?_
    refine q_getR (ci := 6) X V inX6 rfl (by decide) rfl 1 (by decide) rfl (tw_1 37 rfl rfl) rfl dX6_deliver_26 hp (fun r26_9 hp => ?_)
    refine x_iload_n X dX6_deliver_29 hl 1 rfl rfl ?_
    obtain ⟨b30_10, e0, hp2⟩ := q_nn_of hp
    clear hp; subst e0; have hp := hp2; clear hp2
    obtain ⟨hk, hp⟩ := q_is_of hp
    obtain ⟨⟨G, u⟩, hq, hp⟩ := q_cl_of hp
    dsimp only at hp
    refine q_gov (cells' := 0) (slots' := 0) (va_runV (As := [.int x1]) (rest := []) X.1 (cX2_remove l E hq) (tw_cwV 1 X.1.2.2.2.2 (tw_2 180 rfl rfl) kX2_remove.2.1 kX2_remove.2.2.1 kX2_remove.2.2.2 kX2_remove.1 rfl rfl hX2_remove ⟨Nat.le_of_ble_eq_true rfl, Nat.le_of_ble_eq_true rfl⟩) (mm_preV X V rfl (by decide) rfl hk) rfl rfl hl.1 rfl (lv_room (Nat.le_of_ble_eq_true rfl)) dX6_deliver_30 ⟨by decide, by decide⟩) V ⟨rfl, rfl⟩ (fun H locs V => ?_)
    refine x_aload_n X dX6_deliver_33 hl 0 rfl rfl ?_
    refine x_aload_n X dX6_deliver_34 hl 0 rfl rfl ?_
    refine q_getR (ci := 6) X V inX6 rfl (by decide) rfl 3 (by decide) rfl (tw_1 39 rfl rfl) rfl dX6_deliver_35 hp (fun r35_12 hp => ?_)
    refine lv_iconst (v := (2 : Int32)) hx hb dX6_deliver_38 (by decide) ?_
    obtain ⟨b39_13, e0, hp2⟩ := q_nn_of hp
    clear hp; subst e0; have hp := hp2; clear hp2
    refine q_iald X V dX6_deliver_39 hp (fun v39_14 hp => ?_)
    obtain ⟨hk, hp⟩ := q_is_of hp
    obtain ⟨⟨G, r40_16⟩, hq, hp⟩ := q_cl_of hp
    dsimp only at hp
    refine q_goq (cells' := 0) (slots' := 0) (va_runV (As := [.int v39_14]) (rest := []) X.1 (cX6_upPeer l E hq) (tw_cwV 1 X.1.2.2.2.2 (tw_1 65 rfl rfl) kX6_upPeer.2.1 kX6_upPeer.2.2.1 kX6_upPeer.2.2.2 kX6_upPeer.1 rfl rfl hX6_upPeer ⟨Nat.le_of_ble_eq_true rfl, Nat.le_of_ble_eq_true rfl⟩) (mm_preV X V rfl (by decide) rfl hk) rfl rfl hl.1 rfl (lv_room (Nat.le_of_ble_eq_true rfl)) dX6_deliver_40 ⟨by decide, by decide⟩) V ⟨rfl, rfl⟩ (fun H locs V => ?_)
    refine x_astore_n (lst' := [(2, .inr r40_16), (0, .inr (some a0)), (1, .inl x1)]) X dX6_deliver_43 hl rfl (by decide) rfl (fun ls hl => ?_)
    refine x_aload_n X dX6_deliver_44 hl 0 rfl rfl ?_
    refine q_ifnonnull (tgt := 50) X dX6_deliver_45 (by decide) hp (fun e0 hp2 => ?_) (fun b45_17 e0 hp2 => ?_)
    · clear hp; subst e0; have hp := hp2; clear hp2
      refine lv_iconst (v := (0 : Int32)) hx hb dX6_deliver_48 (by decide) ?_
      exact q_iret X V hr ⟨by decide, by decide⟩ dX6_deliver_49 hp
    · clear hp; subst e0; have hp := hp2; clear hp2
      refine x_aload_n X dX6_deliver_50 hl 0 rfl rfl ?_
      refine q_getR (ci := 4) X V inX4 rfl (by decide) rfl 1 (by decide) rfl (tw_1 215 rfl rfl) rfl dX6_deliver_51 hp (fun r51_18 hp => ?_)
      refine x_aload_n X dX6_deliver_54 hl 1 rfl rfl ?_
      refine q_getR (ci := 6) X V inX6 rfl (by decide) rfl 3 (by decide) rfl (tw_1 39 rfl rfl) rfl dX6_deliver_55 hp (fun r55_19 hp => ?_)
      refine lv_iconst (v := (1 : Int32)) hx hb dX6_deliver_58 (by decide) ?_
      obtain ⟨b59_20, e0, hp2⟩ := q_nn_of hp
      clear hp; subst e0; have hp := hp2; clear hp2
      refine q_iald X V dX6_deliver_59 hp (fun v59_21 hp => ?_)
      refine x_aload_n X dX6_deliver_60 hl 1 rfl rfl ?_
      refine q_getI (ci := 6) X V inX6 rfl (by decide) rfl 5 (by decide) rfl (tw_1 41 rfl rfl) rfl dX6_deliver_61 hp (fun v61_22 hp => ?_)
      obtain ⟨b64_23, e0, hp2⟩ := q_nn_of hp
      clear hp; subst e0; have hp := hp2; clear hp2
      obtain ⟨hk, hp⟩ := q_is_of hp
      obtain ⟨⟨G, u⟩, hq, hp⟩ := q_cl_of hp
      dsimp only at hp
      refine q_gov (cells' := 0) (slots' := 0) (va_runV (As := [.int v59_21, .int v61_22]) (rest := []) X.1 (cX5_see l E hq) (tw_cwV 2 X.1.2.2.2.2 (tw_2 9 rfl rfl) kX5_see.2.1 kX5_see.2.2.1 kX5_see.2.2.2 kX5_see.1 rfl rfl hX5_see ⟨Nat.le_of_ble_eq_true rfl, Nat.le_of_ble_eq_true rfl⟩) (mm_preV X V rfl (by decide) rfl hk) rfl rfl hl.1 rfl (lv_room (Nat.le_of_ble_eq_true rfl)) dX6_deliver_64 ⟨by decide, by decide⟩) V ⟨rfl, rfl⟩ (fun H locs V => ?_)
      refine x_aload_n X dX6_deliver_67 hl 1 rfl rfl ?_
      refine q_getR (ci := 6) X V inX6 rfl (by decide) rfl 3 (by decide) rfl (tw_1 39 rfl rfl) rfl dX6_deliver_68 hp (fun r68_25 hp => ?_)
      refine lv_iconst (v := (0 : Int32)) hx hb dX6_deliver_71 (by decide) ?_
      obtain ⟨b72_26, e0, hp2⟩ := q_nn_of hp
      clear hp; subst e0; have hp := hp2; clear hp2
      refine q_iald X V dX6_deliver_72 hp (fun v72_27 hp => ?_)
      by_cases h73_0 : v72_27 = 0
      · rw [if_pos h73_0] at hp
        refine lv_tableIn (tgt := 100) hx hb dX6_deliver_73 (by rw [h73_0]; decide) (by rw [h73_0]; decide) (by rw [h73_0]; rfl) (by decide) ?_
        refine x_aload_n X dX6_deliver_100 hl 1 rfl rfl ?_
        refine x_aload_n X dX6_deliver_101 hl 0 rfl rfl ?_
        obtain ⟨hk, hp⟩ := q_is_of hp
        obtain ⟨⟨G, u⟩, hq, hp⟩ := q_cl_of hp
        dsimp only at hp
        refine q_gov (cells' := 0) (slots' := 0) (va_runV (As := [va_rf (some b45_17)]) (rest := []) X.1 (cX6_answerQuery l E hq) (tw_cwV 1 X.1.2.2.2.2 (tw_2 184 rfl rfl) kX6_answerQuery.2.1 kX6_answerQuery.2.2.1 kX6_answerQuery.2.2.2 kX6_answerQuery.1 rfl rfl hX6_answerQuery ⟨Nat.le_of_ble_eq_true rfl, Nat.le_of_ble_eq_true rfl⟩) (mm_preV X V rfl (by decide) rfl hk) rfl rfl hl.1 rfl (lv_room (Nat.le_of_ble_eq_true rfl)) dX6_deliver_102 ⟨by decide, by decide⟩) V ⟨rfl, rfl⟩ (fun H locs V => ?_)
        refine lv_goto (tgt := 121) hx hb dX6_deliver_105 (by decide) ?_
        refine lv_iconst (v := (1 : Int32)) hx hb dX6_deliver_121 (by decide) ?_
        exact q_iret X V hr ⟨by decide, by decide⟩ dX6_deliver_122 hp
      rw [if_neg h73_0] at hp
      by_cases h73_1 : v72_27 = 1
      · rw [if_pos h73_1] at hp
        refine lv_tableIn (tgt := 100) hx hb dX6_deliver_73 (by rw [h73_1]; decide) (by rw [h73_1]; decide) (by rw [h73_1]; rfl) (by decide) ?_
        refine x_aload_n X dX6_deliver_100 hl 1 rfl rfl ?_
        refine x_aload_n X dX6_deliver_101 hl 0 rfl rfl ?_
        obtain ⟨hk, hp⟩ := q_is_of hp
        obtain ⟨⟨G, u⟩, hq, hp⟩ := q_cl_of hp
        dsimp only at hp
        refine q_gov (cells' := 0) (slots' := 0) (va_runV (As := [va_rf (some b45_17)]) (rest := []) X.1 (cX6_answerQuery l E hq) (tw_cwV 1 X.1.2.2.2.2 (tw_2 184 rfl rfl) kX6_answerQuery.2.1 kX6_answerQuery.2.2.1 kX6_answerQuery.2.2.2 kX6_answerQuery.1 rfl rfl hX6_answerQuery ⟨Nat.le_of_ble_eq_true rfl, Nat.le_of_ble_eq_true rfl⟩) (mm_preV X V rfl (by decide) rfl hk) rfl rfl hl.1 rfl (lv_room (Nat.le_of_ble_eq_true rfl)) dX6_deliver_102 ⟨by decide, by decide⟩) V ⟨rfl, rfl⟩ (fun H locs V => ?_)
        refine lv_goto (tgt := 121) hx hb dX6_deliver_105 (by decide) ?_
        refine lv_iconst (v := (1 : Int32)) hx hb dX6_deliver_121 (by decide) ?_
        exact q_iret X V hr ⟨by decide, by decide⟩ dX6_deliver_122 hp
      rw [if_neg h73_1] at hp
      by_cases h73_2 : v72_27 = 2
      · rw [if_pos h73_2] at hp
        refine lv_tableIn (tgt := 108) hx hb dX6_deliver_73 (by rw [h73_2]; decide) (by rw [h73_2]; decide) (by rw [h73_2]; rfl) (by decide) ?_
        refine x_aload_n X dX6_deliver_108 hl 1 rfl rfl ?_
        refine x_aload_n X dX6_deliver_109 hl 0 rfl rfl ?_
        obtain ⟨hk, hp⟩ := q_is_of hp
        obtain ⟨⟨G, u⟩, hq, hp⟩ := q_cl_of hp
        dsimp only at hp
        refine q_gov (cells' := 0) (slots' := 0) (va_runV (As := [va_rf (some b45_17)]) (rest := []) X.1 (cX6_takeNodes l E hq) (tw_cwV 1 X.1.2.2.2.2 (tw_2 201 rfl rfl) kX6_takeNodes.2.1 kX6_takeNodes.2.2.1 kX6_takeNodes.2.2.2 kX6_takeNodes.1 rfl rfl hX6_takeNodes ⟨Nat.le_of_ble_eq_true rfl, Nat.le_of_ble_eq_true rfl⟩) (mm_preV X V rfl (by decide) rfl hk) rfl rfl hl.1 rfl (lv_room (Nat.le_of_ble_eq_true rfl)) dX6_deliver_110 ⟨by decide, by decide⟩) V ⟨rfl, rfl⟩ (fun H locs V => ?_)
        refine lv_goto (tgt := 121) hx hb dX6_deliver_113 (by decide) ?_
        refine lv_iconst (v := (1 : Int32)) hx hb dX6_deliver_121 (by decide) ?_
        exact q_iret X V hr ⟨by decide, by decide⟩ dX6_deliver_122 hp
      rw [if_neg h73_2] at hp
      refine lv_tableOut (tgt := 116) hx hb dX6_deliver_73 (by have g0 := lv_neT h73_0 (a := 0) rfl; have g1 := lv_neT h73_1 (a := 1) rfl; have g2 := lv_neT h73_2 (a := 2) rfl; omega) (by decide) ?_
      refine x_aload_n X dX6_deliver_116 hl 1 rfl rfl ?_
      refine x_aload_n X dX6_deliver_117 hl 0 rfl rfl ?_
      obtain ⟨hk, hp⟩ := q_is_of hp
      obtain ⟨⟨G, u⟩, hq, hp⟩ := q_cl_of hp
      dsimp only at hp
      refine q_gov (cells' := 0) (slots' := 0) (va_runV (As := [va_rf (some b45_17)]) (rest := []) X.1 (cX6_takeStore l E hq) (tw_cwV 1 X.1.2.2.2.2 (tw_2 210 rfl rfl) kX6_takeStore.2.1 kX6_takeStore.2.2.1 kX6_takeStore.2.2.2 kX6_takeStore.1 rfl rfl hX6_takeStore ⟨Nat.le_of_ble_eq_true rfl, Nat.le_of_ble_eq_true rfl⟩) (mm_preV X V rfl (by decide) rfl hk) rfl rfl hl.1 rfl (lv_room (Nat.le_of_ble_eq_true rfl)) dX6_deliver_118 ⟨by decide, by decide⟩) V ⟨rfl, rfl⟩ (fun H locs V => ?_)
      refine lv_iconst (v := (1 : Int32)) hx hb dX6_deliver_121 (by decide) ?_
      exact q_iret X V hr ⟨by decide, by decide⟩ dX6_deliver_122 hp
  · refine lv_iconst (v := (-1 : Int32)) hx hb dX6_deliver_11 (by decide) ?_
    exact q_iret X V hr ⟨by decide, by decide⟩ dX6_deliver_12 hp
theorem cX6_deliver (l : Launch) (E : mm_E) {N a0 : Nat} {G : mm_M} {x1 : Int32} {res : mm_M × Int32} (hp : pX6_deliver_0 N a0 G x1 = some res) : Met l yX6_deliver (Cond.code yX6_deliver prog_1_method_10_code 3 (Option.some .int) :: tw_T) rX6_deliver (mm_Pc E G [.ref a0, .int x1]) (mm_Qi E res.1 res.2) 0 0 (mm_A E) :=
  mm_met (own := "XorOverlay") E G [.inr (some a0), .inl x1] (by decide) rfl rfl (Nat.le_of_ble_eq_true rfl) (fun p e s m args below meth c ls X hr hi V hl => bX6_deliver_0 X hr V hl hp)
abbrev yX6_drop : MethodName := ⟨"XorOverlay", "drop", "(I)Z"⟩
abbrev rX6_drop : Room := { frames := 2, cells := 0, slots := 0, locals := 52 }
theorem kX6_drop : Cond.code yX6_drop prog_1_method_11_code 2 (Option.some .boolean) ∈ tw_T ∧ Cond.instanceMethod yX6_drop ∈ tw_T ∧ Cond.selects "XorOverlay" yX6_drop yX6_drop ∈ tw_T ∧ Cond.initialized "XorOverlay" ∈ tw_T := ⟨(tw_2 221 rfl rfl), (tw_2 219 rfl rfl), (tw_2 220 rfl rfl), (tw_1 1 rfl rfl)⟩
theorem hX6_drop : yX6_drop.cls = "XorOverlay" ∧ yX6_drop.cls ≠ "java/lang/invoke/MethodHandle" ∧ yX6_drop.cls ≠ "java/lang/invoke/VarHandle" ∧ (parseMethodDescriptor yX6_drop.desc).map (fun d => d.parameters.length) = some 1 := by decide +kernel
theorem dX6_drop_0 : decode prog_1_method_11_code 0 = .ok (.aload_n 0, 1) := by decide +kernel
theorem dX6_drop_1 : decode prog_1_method_11_code 1 = .ok (.getfield 18, 3) := by decide +kernel
theorem dX6_drop_4 : decode prog_1_method_11_code 4 = .ok (.iload_n 1, 1) := by decide +kernel
theorem dX6_drop_5 : decode prog_1_method_11_code 5 = .ok (.invokevirtual 102, 3) := by decide +kernel
theorem dX6_drop_8 : decode prog_1_method_11_code 8 = .ok (.ifCond .ne 5, 3) := by decide +kernel
theorem dX6_drop_11 : decode prog_1_method_11_code 11 = .ok (.iconst 0, 1) := by decide +kernel
theorem dX6_drop_12 : decode prog_1_method_11_code 12 = .ok (.ireturn, 1) := by decide +kernel
theorem dX6_drop_13 : decode prog_1_method_11_code 13 = .ok (.aload_n 0, 1) := by decide +kernel
theorem dX6_drop_14 : decode prog_1_method_11_code 14 = .ok (.getfield 18, 3) := by decide +kernel
theorem dX6_drop_17 : decode prog_1_method_11_code 17 = .ok (.iload_n 1, 1) := by decide +kernel
theorem dX6_drop_18 : decode prog_1_method_11_code 18 = .ok (.invokevirtual 113, 3) := by decide +kernel
theorem dX6_drop_21 : decode prog_1_method_11_code 21 = .ok (.iconst 1, 1) := by decide +kernel
theorem dX6_drop_22 : decode prog_1_method_11_code 22 = .ok (.ireturn, 1) := by decide +kernel
def pX6_drop_0 (N a0 : Nat) (G : mm_M) (x1 : Int32) : Option (mm_M × Int32) :=
  q_gR G a0 7 1 fun r1_1 =>
  q_nn r1_1 fun b5_2 =>
  q_is G b5_2 3 <|
  q_cl (pX2_has_0 N b5_2 G x1) fun G v5_4 =>
  if v5_4 = 0 then
    some (G, (0 : Int32))
  else
    q_gR G a0 7 1 fun r14_5 =>
    q_nn r14_5 fun b18_6 =>
    q_is G b18_6 3 <|
    q_cl (pX2_remove_0 N b18_6 G x1) fun G _ =>
    some (G, (1 : Int32))
set_option maxRecDepth 100000 in
set_option maxHeartbeats 4000000 in
theorem bX6_drop_0 {p : Program} {l : Launch} {e : Env} {s : State} {m : MethodId} {args : Array Value} {below : List Frame} {meth : Method} {c : Code} {E : mm_E} {N a0 : Nat} {res : mm_M × Int32} (X : mm_X p s m args meth c prog_1_method_11_code 2 "XorOverlay" tw_T E) (hr : meth.sig.returnType = (Option.some .boolean)) {G : mm_M} {H : Heap} {locs : List Loc} {ls : Array Slot} {x1 : Int32} (V : mm_V E s G H locs) (hl : lx_has ls 2 [(0, .inr (some a0)), (1, .inl x1)]) (hp : pX6_drop_0 N a0 G x1 = some res) : W p l e rX6_drop s m args below meth c H locs 0 0 (MQ below (mm_Qi E res.1 res.2) args s 0 0 (mm_A E)) (F0 m 0 ls []) := by
  have hx := X.1.1
  have hb := X.1.2.1
  unfold pX6_drop_0 at hp
  refine x_aload_n X dX6_drop_0 hl 0 rfl rfl ?_
  refine q_getR (ci := 6) X V inX6 rfl (by decide) rfl 1 (by decide) rfl (tw_1 37 rfl rfl) rfl dX6_drop_1 hp (fun r1_1 hp => ?_)
  refine x_iload_n X dX6_drop_4 hl 1 rfl rfl ?_
  obtain ⟨b5_2, e0, hp2⟩ := q_nn_of hp
  clear hp; subst e0; have hp := hp2; clear hp2
  obtain ⟨hk, hp⟩ := q_is_of hp
  obtain ⟨⟨G, v5_4⟩, hq, hp⟩ := q_cl_of hp
  dsimp only at hp
  refine q_goi (cells' := 0) (slots' := 0) (va_runV (As := [.int x1]) (rest := []) X.1 (cX2_has l E hq) (tw_cwV 1 X.1.2.2.2.2 (tw_2 164 rfl rfl) kX2_has.2.1 kX2_has.2.2.1 kX2_has.2.2.2 kX2_has.1 rfl rfl hX2_has ⟨Nat.le_of_ble_eq_true rfl, Nat.le_of_ble_eq_true rfl⟩) (mm_preV X V rfl (by decide) rfl hk) rfl rfl hl.1 rfl (lv_room (Nat.le_of_ble_eq_true rfl)) dX6_drop_5 ⟨by decide, by decide⟩) V ⟨rfl, rfl⟩ (fun H locs V => ?_)
  refine q_ifn hp (lv_if_ne (tgt := 13) hx hb dX6_drop_8 (by decide)) (fun hp => ?_) (fun hp => ?_)
  · refine x_aload_n X dX6_drop_13 hl 0 rfl rfl ?_
    refine q_getR (ci := 6) X V inX6 rfl (by decide) rfl 1 (by decide) rfl (tw_1 37 rfl rfl) rfl dX6_drop_14 hp (fun r14_5 hp => ?_)
    refine x_iload_n X dX6_drop_17 hl 1 rfl rfl ?_
    obtain ⟨b18_6, e0, hp2⟩ := q_nn_of hp
    clear hp; subst e0; have hp := hp2; clear hp2
    obtain ⟨hk, hp⟩ := q_is_of hp
    obtain ⟨⟨G, u⟩, hq, hp⟩ := q_cl_of hp
    dsimp only at hp
    refine q_gov (cells' := 0) (slots' := 0) (va_runV (As := [.int x1]) (rest := []) X.1 (cX2_remove l E hq) (tw_cwV 1 X.1.2.2.2.2 (tw_2 180 rfl rfl) kX2_remove.2.1 kX2_remove.2.2.1 kX2_remove.2.2.2 kX2_remove.1 rfl rfl hX2_remove ⟨Nat.le_of_ble_eq_true rfl, Nat.le_of_ble_eq_true rfl⟩) (mm_preV X V rfl (by decide) rfl hk) rfl rfl hl.1 rfl (lv_room (Nat.le_of_ble_eq_true rfl)) dX6_drop_18 ⟨by decide, by decide⟩) V ⟨rfl, rfl⟩ (fun H locs V => ?_)
    refine lv_iconst (v := (1 : Int32)) hx hb dX6_drop_21 (by decide) ?_
    exact q_zret X V hr rfl ⟨by decide, by decide⟩ dX6_drop_22 hp
  · refine lv_iconst (v := (0 : Int32)) hx hb dX6_drop_11 (by decide) ?_
    exact q_zret X V hr rfl ⟨by decide, by decide⟩ dX6_drop_12 hp
theorem cX6_drop (l : Launch) (E : mm_E) {N a0 : Nat} {G : mm_M} {x1 : Int32} {res : mm_M × Int32} (hp : pX6_drop_0 N a0 G x1 = some res) : Met l yX6_drop (Cond.code yX6_drop prog_1_method_11_code 2 (Option.some .boolean) :: tw_T) rX6_drop (mm_Pc E G [.ref a0, .int x1]) (mm_Qi E res.1 res.2) 0 0 (mm_A E) :=
  mm_met (own := "XorOverlay") E G [.inr (some a0), .inl x1] (by decide) rfl rfl (Nat.le_of_ble_eq_true rfl) (fun p e s m args below meth c ls X hr hi V hl => bX6_drop_0 X hr V hl hp)
abbrev yX6_lookup : MethodName := ⟨"XorOverlay", "lookup", "(I)I"⟩
abbrev rX6_lookup : Room := { frames := 2, cells := 0, slots := 0, locals := 45 }
theorem kX6_lookup : Cond.code yX6_lookup prog_1_method_12_code 3 (Option.some .int) ∈ tw_T ∧ Cond.instanceMethod yX6_lookup ∈ tw_T ∧ Cond.selects "XorOverlay" yX6_lookup yX6_lookup ∈ tw_T ∧ Cond.initialized "XorOverlay" ∈ tw_T := ⟨(tw_2 225 rfl rfl), (tw_2 223 rfl rfl), (tw_2 224 rfl rfl), (tw_1 1 rfl rfl)⟩
theorem hX6_lookup : yX6_lookup.cls = "XorOverlay" ∧ yX6_lookup.cls ≠ "java/lang/invoke/MethodHandle" ∧ yX6_lookup.cls ≠ "java/lang/invoke/VarHandle" ∧ (parseMethodDescriptor yX6_lookup.desc).map (fun d => d.parameters.length) = some 1 := by decide +kernel
theorem dX6_lookup_0 : decode prog_1_method_12_code 0 = .ok (.aload_n 0, 1) := by decide +kernel
theorem dX6_lookup_1 : decode prog_1_method_12_code 1 = .ok (.iload_n 1, 1) := by decide +kernel
theorem dX6_lookup_2 : decode prog_1_method_12_code 2 = .ok (.invokevirtual 43, 3) := by decide +kernel
theorem dX6_lookup_5 : decode prog_1_method_12_code 5 = .ok (.astore_n 2, 1) := by decide +kernel
theorem dX6_lookup_6 : decode prog_1_method_12_code 6 = .ok (.aload_n 2, 1) := by decide +kernel
theorem dX6_lookup_7 : decode prog_1_method_12_code 7 = .ok (.ifnonnull 7, 3) := by decide +kernel
theorem dX6_lookup_10 : decode prog_1_method_12_code 10 = .ok (.iconst (-1), 1) := by decide +kernel
theorem dX6_lookup_11 : decode prog_1_method_12_code 11 = .ok (.goto 10, 3) := by decide +kernel
theorem dX6_lookup_14 : decode prog_1_method_12_code 14 = .ok (.aload_n 2, 1) := by decide +kernel
theorem dX6_lookup_15 : decode prog_1_method_12_code 15 = .ok (.getfield 72, 3) := by decide +kernel
theorem dX6_lookup_18 : decode prog_1_method_12_code 18 = .ok (.getfield 126, 3) := by decide +kernel
theorem dX6_lookup_21 : decode prog_1_method_12_code 21 = .ok (.ireturn, 1) := by decide +kernel
def pX6_lookup_0 (N a0 : Nat) (G : mm_M) (x1 : Int32) : Option (mm_M × Int32) :=
  q_is G a0 7 <|
  q_cl (pX6_upPeer_0 N a0 G x1) fun G r2_2 =>
  q_op r2_2 (
    some (G, (-1 : Int32))) fun b7_3 =>
  q_gR G b7_3 5 2 fun r15_4 =>
  q_nn r15_4 fun b18_5 =>
  q_gI G b18_5 4 5 fun v18_6 =>
  some (G, v18_6)
set_option maxRecDepth 100000 in
set_option maxHeartbeats 4000000 in
theorem bX6_lookup_0 {p : Program} {l : Launch} {e : Env} {s : State} {m : MethodId} {args : Array Value} {below : List Frame} {meth : Method} {c : Code} {E : mm_E} {N a0 : Nat} {res : mm_M × Int32} (X : mm_X p s m args meth c prog_1_method_12_code 3 "XorOverlay" tw_T E) (hr : meth.sig.returnType = (Option.some .int)) {G : mm_M} {H : Heap} {locs : List Loc} {ls : Array Slot} {x1 : Int32} (V : mm_V E s G H locs) (hl : lx_has ls 3 [(0, .inr (some a0)), (1, .inl x1)]) (hp : pX6_lookup_0 N a0 G x1 = some res) : W p l e rX6_lookup s m args below meth c H locs 0 0 (MQ below (mm_Qi E res.1 res.2) args s 0 0 (mm_A E)) (F0 m 0 ls []) := by
  have hx := X.1.1
  have hb := X.1.2.1
  unfold pX6_lookup_0 at hp
  refine x_aload_n X dX6_lookup_0 hl 0 rfl rfl ?_
  refine x_iload_n X dX6_lookup_1 hl 1 rfl rfl ?_
  obtain ⟨hk, hp⟩ := q_is_of hp
  obtain ⟨⟨G, r2_2⟩, hq, hp⟩ := q_cl_of hp
  dsimp only at hp
  refine q_goq (cells' := 0) (slots' := 0) (va_runV (As := [.int x1]) (rest := []) X.1 (cX6_upPeer l E hq) (tw_cwV 1 X.1.2.2.2.2 (tw_1 65 rfl rfl) kX6_upPeer.2.1 kX6_upPeer.2.2.1 kX6_upPeer.2.2.2 kX6_upPeer.1 rfl rfl hX6_upPeer ⟨Nat.le_of_ble_eq_true rfl, Nat.le_of_ble_eq_true rfl⟩) (mm_preV X V rfl (by decide) rfl hk) rfl rfl hl.1 rfl (lv_room (Nat.le_of_ble_eq_true rfl)) dX6_lookup_2 ⟨by decide, by decide⟩) V ⟨rfl, rfl⟩ (fun H locs V => ?_)
  refine x_astore_n (lst' := [(2, .inr r2_2), (0, .inr (some a0)), (1, .inl x1)]) X dX6_lookup_5 hl rfl (by decide) rfl (fun ls hl => ?_)
  refine x_aload_n X dX6_lookup_6 hl 0 rfl rfl ?_
  refine q_ifnonnull (tgt := 14) X dX6_lookup_7 (by decide) hp (fun e0 hp2 => ?_) (fun b7_3 e0 hp2 => ?_)
  · clear hp; subst e0; have hp := hp2; clear hp2
    refine lv_iconst (v := (-1 : Int32)) hx hb dX6_lookup_10 (by decide) ?_
    refine lv_goto (tgt := 21) hx hb dX6_lookup_11 (by decide) ?_
    exact q_iret X V hr ⟨by decide, by decide⟩ dX6_lookup_21 hp
  · clear hp; subst e0; have hp := hp2; clear hp2
    refine x_aload_n X dX6_lookup_14 hl 0 rfl rfl ?_
    refine q_getR (ci := 4) X V inX4 rfl (by decide) rfl 2 (by decide) rfl (tw_1 217 rfl rfl) rfl dX6_lookup_15 hp (fun r15_4 hp => ?_)
    obtain ⟨b18_5, e0, hp2⟩ := q_nn_of hp
    clear hp; subst e0; have hp := hp2; clear hp2
    refine q_getI (ci := 3) X V inX3 rfl (by decide) rfl 5 (by decide) rfl (tw_1 154 rfl rfl) rfl dX6_lookup_18 hp (fun v18_6 hp => ?_)
    exact q_iret X V hr ⟨by decide, by decide⟩ dX6_lookup_21 hp
theorem cX6_lookup (l : Launch) (E : mm_E) {N a0 : Nat} {G : mm_M} {x1 : Int32} {res : mm_M × Int32} (hp : pX6_lookup_0 N a0 G x1 = some res) : Met l yX6_lookup (Cond.code yX6_lookup prog_1_method_12_code 3 (Option.some .int) :: tw_T) rX6_lookup (mm_Pc E G [.ref a0, .int x1]) (mm_Qi E res.1 res.2) 0 0 (mm_A E) :=
  mm_met (own := "XorOverlay") E G [.inr (some a0), .inl x1] (by decide) rfl rfl (Nat.le_of_ble_eq_true rfl) (fun p e s m args below meth c ls X hr hi V hl => bX6_lookup_0 X hr V hl hp)
abbrev yX3_hasCandidate : MethodName := ⟨"XorOverlay$Lookup", "hasCandidate", "(I)Z"⟩
abbrev rX3_hasCandidate : Room := { frames := 0, cells := 0, slots := 0, locals := 0 }
theorem kX3_hasCandidate : Cond.code yX3_hasCandidate prog_5_method_5_code 2 (Option.some .boolean) ∈ tw_T ∧ Cond.instanceMethod yX3_hasCandidate ∈ tw_T ∧ Cond.selects "XorOverlay$Lookup" yX3_hasCandidate yX3_hasCandidate ∈ tw_T ∧ Cond.initialized "XorOverlay$Lookup" ∈ tw_T := ⟨(tw_2 233 rfl rfl), (tw_2 231 rfl rfl), (tw_2 232 rfl rfl), (tw_1 7 rfl rfl)⟩
theorem hX3_hasCandidate : yX3_hasCandidate.cls = "XorOverlay$Lookup" ∧ yX3_hasCandidate.cls ≠ "java/lang/invoke/MethodHandle" ∧ yX3_hasCandidate.cls ≠ "java/lang/invoke/VarHandle" ∧ (parseMethodDescriptor yX3_hasCandidate.desc).map (fun d => d.parameters.length) = some 1 := by decide +kernel
theorem dX3_hasCandidate_0 : decode prog_5_method_5_code 0 = .ok (.iload_n 1, 1) := by decide +kernel
theorem dX3_hasCandidate_1 : decode prog_5_method_5_code 1 = .ok (.ifCond .lt 15, 3) := by decide +kernel
theorem dX3_hasCandidate_4 : decode prog_5_method_5_code 4 = .ok (.iload_n 1, 1) := by decide +kernel
theorem dX3_hasCandidate_5 : decode prog_5_method_5_code 5 = .ok (.aload_n 0, 1) := by decide +kernel
theorem dX3_hasCandidate_6 : decode prog_5_method_5_code 6 = .ok (.getfield 31, 3) := by decide +kernel
theorem dX3_hasCandidate_9 : decode prog_5_method_5_code 9 = .ok (.if_icmp .ge 7, 3) := by decide +kernel
theorem dX3_hasCandidate_12 : decode prog_5_method_5_code 12 = .ok (.iconst 1, 1) := by decide +kernel
theorem dX3_hasCandidate_13 : decode prog_5_method_5_code 13 = .ok (.goto 4, 3) := by decide +kernel
theorem dX3_hasCandidate_16 : decode prog_5_method_5_code 16 = .ok (.iconst 0, 1) := by decide +kernel
theorem dX3_hasCandidate_17 : decode prog_5_method_5_code 17 = .ok (.ireturn, 1) := by decide +kernel
def pX3_hasCandidate_0 (N a0 : Nat) (G : mm_M) (x1 : Int32) : Option (mm_M × Int32) :=
  if x1 < 0 then
    some (G, (0 : Int32))
  else
    q_gI G a0 4 9 fun v6_1 =>
    if v6_1 ≤ x1 then
      some (G, (0 : Int32))
    else
      some (G, (1 : Int32))
set_option maxRecDepth 100000 in
set_option maxHeartbeats 4000000 in
theorem bX3_hasCandidate_0 {p : Program} {l : Launch} {e : Env} {s : State} {m : MethodId} {args : Array Value} {below : List Frame} {meth : Method} {c : Code} {E : mm_E} {N a0 : Nat} {res : mm_M × Int32} (X : mm_X p s m args meth c prog_5_method_5_code 2 "XorOverlay$Lookup" tw_T E) (hr : meth.sig.returnType = (Option.some .boolean)) {G : mm_M} {H : Heap} {locs : List Loc} {ls : Array Slot} {x1 : Int32} (V : mm_V E s G H locs) (hl : lx_has ls 2 [(0, .inr (some a0)), (1, .inl x1)]) (hp : pX3_hasCandidate_0 N a0 G x1 = some res) : W p l e rX3_hasCandidate s m args below meth c H locs 0 0 (MQ below (mm_Qi E res.1 res.2) args s 0 0 (mm_A E)) (F0 m 0 ls []) := by
  have hx := X.1.1
  have hb := X.1.2.1
  unfold pX3_hasCandidate_0 at hp
  refine x_iload_n X dX3_hasCandidate_0 hl 1 rfl rfl ?_
  refine q_if hp (lv_if_lt (tgt := 16) hx hb dX3_hasCandidate_1 (by decide)) (fun hp => ?_) (fun hp => ?_)
  · refine lv_iconst (v := (0 : Int32)) hx hb dX3_hasCandidate_16 (by decide) ?_
    exact q_zret X V hr rfl ⟨by decide, by decide⟩ dX3_hasCandidate_17 hp
  · refine x_iload_n X dX3_hasCandidate_4 hl 1 rfl rfl ?_
    refine x_aload_n X dX3_hasCandidate_5 hl 0 rfl rfl ?_
    refine q_getI (ci := 3) X V inX3 rfl (by decide) rfl 9 (by decide) rfl (tw_1 161 rfl rfl) rfl dX3_hasCandidate_6 hp (fun v6_1 hp => ?_)
    refine q_if hp (lv_icmp_ge (tgt := 16) hx hb dX3_hasCandidate_9 (by decide)) (fun hp => ?_) (fun hp => ?_)
    · refine lv_iconst (v := (0 : Int32)) hx hb dX3_hasCandidate_16 (by decide) ?_
      exact q_zret X V hr rfl ⟨by decide, by decide⟩ dX3_hasCandidate_17 hp
    · refine lv_iconst (v := (1 : Int32)) hx hb dX3_hasCandidate_12 (by decide) ?_
      refine lv_goto (tgt := 17) hx hb dX3_hasCandidate_13 (by decide) ?_
      exact q_zret X V hr rfl ⟨by decide, by decide⟩ dX3_hasCandidate_17 hp
theorem cX3_hasCandidate (l : Launch) (E : mm_E) {N a0 : Nat} {G : mm_M} {x1 : Int32} {res : mm_M × Int32} (hp : pX3_hasCandidate_0 N a0 G x1 = some res) : Met l yX3_hasCandidate (Cond.code yX3_hasCandidate prog_5_method_5_code 2 (Option.some .boolean) :: tw_T) rX3_hasCandidate (mm_Pc E G [.ref a0, .int x1]) (mm_Qi E res.1 res.2) 0 0 (mm_A E) :=
  mm_met (own := "XorOverlay$Lookup") E G [.inr (some a0), .inl x1] (by decide) rfl rfl (Nat.le_of_ble_eq_true rfl) (fun p e s m args below meth c ls X hr hi V hl => bX3_hasCandidate_0 X hr V hl hp)
