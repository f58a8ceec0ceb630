abbrev yX7_size : MethodName := ⟨"XorOverlayModel", "size", "(II)I"⟩
abbrev rX7_size : Room := { frames := 0, cells := 0, slots := 0, locals := 0 }
theorem kX7_size : Cond.code yX7_size prog_9_method_7_code 3 (Option.some .int) ∈ tw_T ∧ Cond.instanceMethod yX7_size ∈ tw_T ∧ Cond.selects "XorOverlayModel" yX7_size yX7_size ∈ tw_T ∧ Cond.initialized "XorOverlayModel" ∈ tw_T := ⟨(tw_3 207 rfl rfl), (tw_3 206 rfl rfl), (tw_s 37 rfl rfl), (tw_1 3 rfl rfl)⟩
theorem hX7_size : yX7_size.cls = "XorOverlayModel" ∧ yX7_size.cls ≠ "java/lang/invoke/MethodHandle" ∧ yX7_size.cls ≠ "java/lang/invoke/VarHandle" ∧ (parseMethodDescriptor yX7_size.desc).map (fun d => d.parameters.length) = some 2 := by decide +kernel
theorem dX7_size_0 : decode prog_9_method_7_code 0 = .ok (.iload_n 2, 1) := by decide +kernel
theorem dX7_size_1 : decode prog_9_method_7_code 1 = .ok (.aload_n 0, 1) := by decide +kernel
theorem dX7_size_2 : decode prog_9_method_7_code 2 = .ok (.getfield 26, 3) := by decide +kernel
theorem dX7_size_5 : decode prog_9_method_7_code 5 = .ok (.iload_n 1, 1) := by decide +kernel
theorem dX7_size_6 : decode prog_9_method_7_code 6 = .ok (.iaload, 1) := by decide +kernel
theorem dX7_size_7 : decode prog_9_method_7_code 7 = .ok (.if_icmp .ge 12, 3) := by decide +kernel
theorem dX7_size_10 : decode prog_9_method_7_code 10 = .ok (.iconst 1, 1) := by decide +kernel
theorem dX7_size_11 : decode prog_9_method_7_code 11 = .ok (.bipush 7, 2) := by decide +kernel
theorem dX7_size_13 : decode prog_9_method_7_code 13 = .ok (.iload_n 2, 1) := by decide +kernel
theorem dX7_size_14 : decode prog_9_method_7_code 14 = .ok (.isub, 1) := by decide +kernel
theorem dX7_size_15 : decode prog_9_method_7_code 15 = .ok (.ishl, 1) := by decide +kernel
theorem dX7_size_16 : decode prog_9_method_7_code 16 = .ok (.goto 8, 3) := by decide +kernel
theorem dX7_size_19 : decode prog_9_method_7_code 19 = .ok (.sipush 256, 3) := by decide +kernel
theorem dX7_size_22 : decode prog_9_method_7_code 22 = .ok (.iload_n 2, 1) := by decide +kernel
theorem dX7_size_23 : decode prog_9_method_7_code 23 = .ok (.ishr, 1) := by decide +kernel
theorem dX7_size_24 : decode prog_9_method_7_code 24 = .ok (.ireturn, 1) := by decide +kernel
def pX7_size_0 (N a0 : Nat) (G : mm_M) (x1 : Int32) (x2 : Int32) : Option (mm_M × Int32) :=
  q_gR G a0 8 9 fun r2_1 =>
  q_nn r2_1 fun b6_2 =>
  q_aI G b6_2 101 x1 fun v6_3 =>
  if v6_3 ≤ x2 then
    some (G, ((256 : Int32) >>> (x2 &&& 31)))
  else
    some (G, ((1 : Int32) <<< (((7 : Int32) - x2) &&& 31)))
set_option maxRecDepth 100000 in
set_option maxHeartbeats 4000000 in
theorem bX7_size_0 {p : Program} {l : Launch} {e : Env} {s : State} {m : MethodId} {args : Array Value} {below : List Frame} {meth : Method} {c : Code} {E : mm_E} {N a0 : Nat} {res : mm_M × Int32} (X : mm_X p s m args meth c prog_9_method_7_code 3 "XorOverlayModel" tw_T E) (hr : meth.sig.returnType = (Option.some .int)) {G : mm_M} {H : Heap} {locs : List Loc} {ls : Array Slot} {x1 : Int32} {x2 : Int32} (V : mm_V E s G H locs) (hl : lx_has ls 3 [(0, .inr (some a0)), (1, .inl x1), (2, .inl x2)]) (hp : pX7_size_0 N a0 G x1 x2 = some res) : W p l e rX7_size s m args below meth c H locs 0 0 (MQ below (mm_Qi E res.1 res.2) args s 0 0 (mm_A E)) (F0 m 0 ls []) := by
  have hx := X.1.1
  have hb := X.1.2.1
  unfold pX7_size_0 at hp
  refine x_iload_n X dX7_size_0 hl 2 rfl rfl ?_
  refine x_aload_n X dX7_size_1 hl 0 rfl rfl ?_
  refine q_getR (ci := 7) X V inX7 rfl (by decide) rfl 9 (by decide) rfl (tw_3 38 rfl rfl) rfl dX7_size_2 hp (fun r2_1 hp => ?_)
  refine x_iload_n X dX7_size_5 hl 1 rfl rfl ?_
  obtain ⟨b6_2, e0, hp2⟩ := q_nn_of hp
  clear hp; subst e0; have hp := hp2; clear hp2
  refine q_iald X V dX7_size_6 hp (fun v6_3 hp => ?_)
  refine q_if hp (lv_icmp_ge (tgt := 19) hx hb dX7_size_7 (by decide)) (fun hp => ?_) (fun hp => ?_)
  · refine lv_sipush (v := (256 : Int32)) hx hb dX7_size_19 (by decide) ?_
    refine x_iload_n X dX7_size_22 hl 2 rfl rfl ?_
    refine lv_ishr hx hb dX7_size_23 ?_
    exact q_iret X V hr ⟨by decide, by decide⟩ dX7_size_24 hp
  · refine lv_iconst (v := (1 : Int32)) hx hb dX7_size_10 (by decide) ?_
    refine lv_bipush (v := (7 : Int32)) hx hb dX7_size_11 (by decide) ?_
    refine x_iload_n X dX7_size_13 hl 2 rfl rfl ?_
    refine lv_isub hx hb dX7_size_14 ?_
    refine lv_ishl hx hb dX7_size_15 ?_
    refine lv_goto (tgt := 24) hx hb dX7_size_16 (by decide) ?_
    exact q_iret X V hr ⟨by decide, by decide⟩ dX7_size_24 hp
theorem cX7_size (l : Launch) (E : mm_E) {N a0 : Nat} {G : mm_M} {x1 : Int32} {x2 : Int32} {res : mm_M × Int32} (hp : pX7_size_0 N a0 G x1 x2 = some res) : Met l yX7_size (Cond.code yX7_size prog_9_method_7_code 3 (Option.some .int) :: tw_T) rX7_size (mm_Pc E G [.ref a0, .int x1, .int x2]) (mm_Qi E res.1 res.2) 0 0 (mm_A E) :=
  mm_met (own := "XorOverlayModel") E G [.inr (some a0), .inl x1, .inl x2] (by decide) rfl rfl (Nat.le_of_ble_eq_true rfl) (fun p e s m args below meth c ls X hr hi V hl => bX7_size_0 X hr V hl hp)
abbrev yX7_bucketAt : MethodName := ⟨"XorOverlayModel", "bucketAt", "(II)I"⟩
abbrev rX7_bucketAt : Room := { frames := 1, cells := 0, slots := 0, locals := 22 }
theorem kX7_bucketAt : Cond.code yX7_bucketAt prog_9_method_8_code 6 (Option.some .int) ∈ tw_T ∧ Cond.instanceMethod yX7_bucketAt ∈ tw_T ∧ Cond.selects "XorOverlayModel" yX7_bucketAt yX7_bucketAt ∈ tw_T ∧ Cond.initialized "XorOverlayModel" ∈ tw_T := ⟨(tw_3 199 rfl rfl), (tw_3 198 rfl rfl), (tw_s 35 rfl rfl), (tw_1 3 rfl rfl)⟩
theorem hX7_bucketAt : yX7_bucketAt.cls = "XorOverlayModel" ∧ yX7_bucketAt.cls ≠ "java/lang/invoke/MethodHandle" ∧ yX7_bucketAt.cls ≠ "java/lang/invoke/VarHandle" ∧ (parseMethodDescriptor yX7_bucketAt.desc).map (fun d => d.parameters.length) = some 2 := by decide +kernel
theorem dX7_bucketAt_0 : decode prog_9_method_8_code 0 = .ok (.iconst 0, 1) := by decide +kernel
theorem dX7_bucketAt_1 : decode prog_9_method_8_code 1 = .ok (.istore_n 3, 1) := by decide +kernel
theorem dX7_bucketAt_2 : decode prog_9_method_8_code 2 = .ok (.iload_n 3, 1) := by decide +kernel
theorem dX7_bucketAt_3 : decode prog_9_method_8_code 3 = .ok (.aload_n 0, 1) := by decide +kernel
theorem dX7_bucketAt_4 : decode prog_9_method_8_code 4 = .ok (.getfield 26, 3) := by decide +kernel
theorem dX7_bucketAt_7 : decode prog_9_method_8_code 7 = .ok (.iload_n 1, 1) := by decide +kernel
theorem dX7_bucketAt_8 : decode prog_9_method_8_code 8 = .ok (.iaload, 1) := by decide +kernel
theorem dX7_bucketAt_9 : decode prog_9_method_8_code 9 = .ok (.if_icmp .gt 67, 3) := by decide +kernel
theorem dX7_bucketAt_12 : decode prog_9_method_8_code 12 = .ok (.iconst 0, 1) := by decide +kernel
theorem dX7_bucketAt_13 : decode prog_9_method_8_code 13 = .ok (.istore 4, 2) := by decide +kernel
theorem dX7_bucketAt_15 : decode prog_9_method_8_code 15 = .ok (.iconst 0, 1) := by decide +kernel
theorem dX7_bucketAt_16 : decode prog_9_method_8_code 16 = .ok (.istore 5, 2) := by decide +kernel
theorem dX7_bucketAt_18 : decode prog_9_method_8_code 18 = .ok (.iload 5, 2) := by decide +kernel
theorem dX7_bucketAt_20 : decode prog_9_method_8_code 20 = .ok (.aload_n 0, 1) := by decide +kernel
theorem dX7_bucketAt_21 : decode prog_9_method_8_code 21 = .ok (.getfield 26, 3) := by decide +kernel
theorem dX7_bucketAt_24 : decode prog_9_method_8_code 24 = .ok (.iload_n 1, 1) := by decide +kernel
theorem dX7_bucketAt_25 : decode prog_9_method_8_code 25 = .ok (.iaload, 1) := by decide +kernel
theorem dX7_bucketAt_26 : decode prog_9_method_8_code 26 = .ok (.if_icmp .gt 36, 3) := by decide +kernel
theorem dX7_bucketAt_29 : decode prog_9_method_8_code 29 = .ok (.aload_n 0, 1) := by decide +kernel
theorem dX7_bucketAt_30 : decode prog_9_method_8_code 30 = .ok (.iload_n 1, 1) := by decide +kernel
theorem dX7_bucketAt_31 : decode prog_9_method_8_code 31 = .ok (.iload 5, 2) := by decide +kernel
theorem dX7_bucketAt_33 : decode prog_9_method_8_code 33 = .ok (.invokevirtual 85, 3) := by decide +kernel
theorem dX7_bucketAt_36 : decode prog_9_method_8_code 36 = .ok (.aload_n 0, 1) := by decide +kernel
theorem dX7_bucketAt_37 : decode prog_9_method_8_code 37 = .ok (.iload_n 1, 1) := by decide +kernel
theorem dX7_bucketAt_38 : decode prog_9_method_8_code 38 = .ok (.iload_n 3, 1) := by decide +kernel
theorem dX7_bucketAt_39 : decode prog_9_method_8_code 39 = .ok (.invokevirtual 85, 3) := by decide +kernel
theorem dX7_bucketAt_42 : decode prog_9_method_8_code 42 = .ok (.if_icmp .ge 10, 3) := by decide +kernel
theorem dX7_bucketAt_45 : decode prog_9_method_8_code 45 = .ok (.iload 4, 2) := by decide +kernel
theorem dX7_bucketAt_47 : decode prog_9_method_8_code 47 = .ok (.iconst 1, 1) := by decide +kernel
theorem dX7_bucketAt_48 : decode prog_9_method_8_code 48 = .ok (.iadd, 1) := by decide +kernel
theorem dX7_bucketAt_49 : decode prog_9_method_8_code 49 = .ok (.goto 5, 3) := by decide +kernel
theorem dX7_bucketAt_52 : decode prog_9_method_8_code 52 = .ok (.iload 4, 2) := by decide +kernel
theorem dX7_bucketAt_54 : decode prog_9_method_8_code 54 = .ok (.istore 4, 2) := by decide +kernel
theorem dX7_bucketAt_56 : decode prog_9_method_8_code 56 = .ok (.iinc 5 1, 3) := by decide +kernel
theorem dX7_bucketAt_59 : decode prog_9_method_8_code 59 = .ok (.goto (-41), 3) := by decide +kernel
theorem dX7_bucketAt_62 : decode prog_9_method_8_code 62 = .ok (.iload 4, 2) := by decide +kernel
theorem dX7_bucketAt_64 : decode prog_9_method_8_code 64 = .ok (.iload_n 2, 1) := by decide +kernel
theorem dX7_bucketAt_65 : decode prog_9_method_8_code 65 = .ok (.if_icmp .ne 5, 3) := by decide +kernel
theorem dX7_bucketAt_68 : decode prog_9_method_8_code 68 = .ok (.iload_n 3, 1) := by decide +kernel
theorem dX7_bucketAt_69 : decode prog_9_method_8_code 69 = .ok (.ireturn, 1) := by decide +kernel
theorem dX7_bucketAt_70 : decode prog_9_method_8_code 70 = .ok (.iinc 3 1, 3) := by decide +kernel
theorem dX7_bucketAt_73 : decode prog_9_method_8_code 73 = .ok (.goto (-71), 3) := by decide +kernel
theorem dX7_bucketAt_76 : decode prog_9_method_8_code 76 = .ok (.iconst (-1), 1) := by decide +kernel
theorem dX7_bucketAt_77 : decode prog_9_method_8_code 77 = .ok (.ireturn, 1) := by decide +kernel
def pX7_bucketAt_18_b (N a0 : Nat) (kb : mm_M → Int32 → Int32 → Int32 → Int32 → Int32 → Option (mm_M × Int32)) (kx : mm_M → Int32 → Int32 → Int32 → Int32 → Option (mm_M × Int32)) (G : mm_M) (x1 : Int32) (x2 : Int32) (x3 : Int32) (x4 : Int32) (x5 : Int32) : Option (mm_M × Int32) :=
  q_gR G a0 8 9 fun r21_4 =>
  q_nn r21_4 fun b25_5 =>
  q_aI G b25_5 101 x1 fun v25_6 =>
  if v25_6 < x5 then
    kx G x1 x2 x3 x4
  else
    q_is G a0 8 <|
    q_cl (pX7_first_0 N a0 G x1 x5) fun G v33_8 =>
    q_is G a0 8 <|
    q_cl (pX7_first_0 N a0 G x1 x3) fun G v39_10 =>
    if v39_10 ≤ v33_8 then
      kb G x1 x2 x3 x4 (x5 + (1 : Int32))
    else
      kb G x1 x2 x3 (x4 + (1 : Int32)) (x5 + (1 : Int32))
def pX7_bucketAt_18 (N a0 : Nat) (kx : mm_M → Int32 → Int32 → Int32 → Int32 → Option (mm_M × Int32)) : Nat → mm_M → Int32 → Int32 → Int32 → Int32 → Int32 → Option (mm_M × Int32)
  | 0 => fun _ _ _ _ _ _ => none
  | n + 1 => pX7_bucketAt_18_b N a0 (pX7_bucketAt_18 N a0 kx n) kx
set_option maxRecDepth 100000 in
set_option maxHeartbeats 4000000 in
theorem bX7_bucketAt_18 {p : Program} {l : Launch} {e : Env} {s : State} {m : MethodId} {args : Array Value} {below : List Frame} {meth : Method} {c : Code} {E : mm_E} {N a0 : Nat} {res : mm_M × Int32} (X : mm_X p s m args meth c prog_9_method_8_code 6 "XorOverlayModel" tw_T E) (hr : meth.sig.returnType = (Option.some .int)) {kx : mm_M → Int32 → Int32 → Int32 → Int32 → Option (mm_M × Int32)} (hkx : ∀ (G : mm_M) (H : Heap) (locs : List Loc) (ls : Array Slot) (x1 : Int32) (x2 : Int32) (x3 : Int32) (x4 : Int32), mm_V E s G H locs → lx_has ls 6 [(0, .inr (some a0)), (1, .inl x1), (2, .inl x2), (3, .inl x3), (4, .inl x4)] → kx G x1 x2 x3 x4 = some res → W p l e rX7_bucketAt s m args below meth c H locs 0 0 (MQ below (mm_Qi E res.1 res.2) args s 0 0 (mm_A E)) (F0 m 62 ls [])) :
    ∀ (n : Nat) (G : mm_M) (H : Heap) (locs : List Loc) (ls : Array Slot) (x1 : Int32) (x2 : Int32) (x3 : Int32) (x4 : Int32) (x5 : Int32), mm_V E s G H locs → lx_has ls 6 [(0, .inr (some a0)), (1, .inl x1), (2, .inl x2), (3, .inl x3), (4, .inl x4), (5, .inl x5)] → pX7_bucketAt_18 N a0 kx n G x1 x2 x3 x4 x5 = some res → W p l e rX7_bucketAt s m args below meth c H locs 0 0 (MQ below (mm_Qi E res.1 res.2) args s 0 0 (mm_A E)) (F0 m 18 ls []) := by
  have hx := X.1.1
  have hb := X.1.2.1
  intro n
  induction n with
  | zero =>
    intro G H locs ls x1 x2 x3 x4 x5 V hl hp
    cases hp
  | succ n ih =>
    intro G H locs ls x1 x2 x3 x4 x5 V hl hp
    have hp : pX7_bucketAt_18_b N a0 (pX7_bucketAt_18 N a0 kx n) kx G x1 x2 x3 x4 x5 = some res := hp
    unfold pX7_bucketAt_18_b at hp
    refine x_iload X dX7_bucketAt_18 hl 5 rfl ?_
    refine x_aload_n X dX7_bucketAt_20 hl 0 rfl rfl ?_
    refine q_getR (ci := 7) X V inX7 rfl (by decide) rfl 9 (by decide) rfl (tw_3 38 rfl rfl) rfl dX7_bucketAt_21 hp (fun r21_4 hp => ?_)
    refine x_iload_n X dX7_bucketAt_24 hl 1 rfl rfl ?_
    obtain ⟨b25_5, e0, hp2⟩ := q_nn_of hp
    clear hp; subst e0; have hp := hp2; clear hp2
    refine q_iald X V dX7_bucketAt_25 hp (fun v25_6 hp => ?_)
    refine q_if hp (lv_icmp_gt (tgt := 62) hx hb dX7_bucketAt_26 (by decide)) (fun hp => ?_) (fun hp => ?_)
    · exact hkx _ _ _ _ _ _ _ _ V (lx_sub hl [0, 1, 2, 3, 4] rfl) hp
    · refine x_aload_n X dX7_bucketAt_29 hl 0 rfl rfl ?_
      refine x_iload_n X dX7_bucketAt_30 hl 1 rfl rfl ?_
      refine x_iload X dX7_bucketAt_31 hl 5 rfl ?_
      obtain ⟨hk, hp⟩ := q_is_of hp
      obtain ⟨⟨G, v33_8⟩, hq, hp⟩ := q_cl_of hp
      dsimp only at hp
      refine q_goi (cells' := 0) (slots' := 0) (va_runV (As := [.int x1, .int x5]) (rest := []) X.1 (cX7_first l E hq) (tw_cwV 2 X.1.2.2.2.2 (tw_3 200 rfl rfl) kX7_first.2.1 kX7_first.2.2.1 kX7_first.2.2.2 kX7_first.1 rfl rfl hX7_first ⟨Nat.le_of_ble_eq_true rfl, Nat.le_of_ble_eq_true rfl⟩) (mm_preV X V rfl (by decide) rfl hk) rfl rfl hl.1 rfl (lv_room (Nat.le_of_ble_eq_true rfl)) dX7_bucketAt_33 ⟨by decide, by decide⟩) V ⟨rfl, rfl⟩ (fun H locs V => ?_)
      refine x_aload_n X dX7_bucketAt_36 hl 0 rfl rfl ?_
      refine x_iload_n X dX7_bucketAt_37 hl 1 rfl rfl ?_
      refine x_iload_n X dX7_bucketAt_38 hl 3 rfl rfl ?_
      obtain ⟨hk, hp⟩ := q_is_of hp
      obtain ⟨⟨G, v39_10⟩, hq, hp⟩ := q_cl_of hp
      dsimp only at hp
      refine q_goi (cells' := 0) (slots' := 0) (va_runV (As := [.int x1, .int x3]) (rest := [.int v33_8]) X.1 (cX7_first l E hq) (tw_cwV 2 X.1.2.2.2.2 (tw_3 200 rfl rfl) kX7_first.2.1 kX7_first.2.2.1 kX7_first.2.2.2 kX7_first.1 rfl rfl hX7_first ⟨Nat.le_of_ble_eq_true rfl, Nat.le_of_ble_eq_true rfl⟩) (mm_preV X V rfl (by decide) rfl hk) rfl rfl hl.1 rfl (lv_room (Nat.le_of_ble_eq_true rfl)) dX7_bucketAt_39 ⟨by decide, by decide⟩) V ⟨rfl, rfl⟩ (fun H locs V => ?_)
      refine q_if hp (lv_icmp_ge (tgt := 52) hx hb dX7_bucketAt_42 (by decide)) (fun hp => ?_) (fun hp => ?_)
      · refine x_iload X dX7_bucketAt_52 hl 4 rfl ?_
        refine x_istore (lst' := [(4, .inl x4), (0, .inr (some a0)), (1, .inl x1), (2, .inl x2), (3, .inl x3), (5, .inl x5)]) X dX7_bucketAt_54 hl (by decide) rfl (fun ls hl => ?_)
        refine x_iinc (v := (1 : Int32)) (lst' := [(5, .inl (x5 + (1 : Int32))), (4, .inl x4), (0, .inr (some a0)), (1, .inl x1), (2, .inl x2), (3, .inl x3)]) X dX7_bucketAt_56 hl 5 rfl (by decide) (by decide) rfl (fun ls hl => ?_)
        refine lv_goto (tgt := 18) hx hb dX7_bucketAt_59 (by decide) ?_
        exact ih _ _ _ _ _ _ _ _ _ V (lx_sub hl [2, 3, 4, 5, 1, 0] rfl) hp
      · refine x_iload X dX7_bucketAt_45 hl 4 rfl ?_
        refine lv_iconst (v := (1 : Int32)) hx hb dX7_bucketAt_47 (by decide) ?_
        refine lv_iadd hx hb dX7_bucketAt_48 ?_
        refine lv_goto (tgt := 54) hx hb dX7_bucketAt_49 (by decide) ?_
        refine x_istore (lst' := [(4, .inl (x4 + (1 : Int32))), (0, .inr (some a0)), (1, .inl x1), (2, .inl x2), (3, .inl x3), (5, .inl x5)]) X dX7_bucketAt_54 hl (by decide) rfl (fun ls hl => ?_)
        refine x_iinc (v := (1 : Int32)) (lst' := [(5, .inl (x5 + (1 : Int32))), (4, .inl (x4 + (1 : Int32))), (0, .inr (some a0)), (1, .inl x1), (2, .inl x2), (3, .inl x3)]) X dX7_bucketAt_56 hl 5 rfl (by decide) (by decide) rfl (fun ls hl => ?_)
        refine lv_goto (tgt := 18) hx hb dX7_bucketAt_59 (by decide) ?_
        exact ih _ _ _ _ _ _ _ _ _ V (lx_sub hl [2, 3, 4, 5, 1, 0] rfl) hp
def pX7_bucketAt_2_b (N a0 : Nat) (kb : mm_M → Int32 → Int32 → Int32 → Option (mm_M × Int32)) (kx : mm_M → Option (mm_M × Int32)) (G : mm_M) (x1 : Int32) (x2 : Int32) (x3 : Int32) : Option (mm_M × Int32) :=
  q_gR G a0 8 9 fun r4_1 =>
  q_nn r4_1 fun b8_2 =>
  q_aI G b8_2 101 x1 fun v8_3 =>
  if v8_3 < x3 then
    kx G
  else
    pX7_bucketAt_18 N a0 (fun (G : mm_M) (x1 : Int32) (x2 : Int32) (x3 : Int32) (x4 : Int32) =>
      if x4 = x2 then
        some (G, x3)
      else
        kb G x1 x2 (x3 + (1 : Int32))) N G x1 x2 x3 (0 : Int32) (0 : Int32)
def pX7_bucketAt_2 (N a0 : Nat) (kx : mm_M → Option (mm_M × Int32)) : Nat → mm_M → Int32 → Int32 → Int32 → Option (mm_M × Int32)
  | 0 => fun _ _ _ _ => none
  | n + 1 => pX7_bucketAt_2_b N a0 (pX7_bucketAt_2 N a0 kx n) kx
set_option maxRecDepth 100000 in
set_option maxHeartbeats 4000000 in
theorem bX7_bucketAt_2 {p : Program} {l : Launch} {e : Env} {s : State} {m : MethodId} {args : Array Value} {below : List Frame} {meth : Method} {c : Code} {E : mm_E} {N a0 : Nat} {res : mm_M × Int32} (X : mm_X p s m args meth c prog_9_method_8_code 6 "XorOverlayModel" tw_T E) (hr : meth.sig.returnType = (Option.some .int)) {kx : mm_M → Option (mm_M × Int32)} (hkx : ∀ (G : mm_M) (H : Heap) (locs : List Loc) (ls : Array Slot), mm_V E s G H locs → lx_has ls 6 [(0, .inr (some a0))] → kx G = some res → W p l e rX7_bucketAt s m args below meth c H locs 0 0 (MQ below (mm_Qi E res.1 res.2) args s 0 0 (mm_A E)) (F0 m 76 ls [])) :
    ∀ (n : Nat) (G : mm_M) (H : Heap) (locs : List Loc) (ls : Array Slot) (x1 : Int32) (x2 : Int32) (x3 : Int32), mm_V E s G H locs → lx_has ls 6 [(0, .inr (some a0)), (1, .inl x1), (2, .inl x2), (3, .inl x3)] → pX7_bucketAt_2 N a0 kx n G x1 x2 x3 = some res → W p l e rX7_bucketAt s m args below meth c H locs 0 0 (MQ below (mm_Qi E res.1 res.2) args s 0 0 (mm_A E)) (F0 m 2 ls []) := by
  have hx := X.1.1
  have hb := X.1.2.1
  intro n
  induction n with
  | zero =>
    intro G H locs ls x1 x2 x3 V hl hp
    cases hp
  | succ n ih =>
    intro G H locs ls x1 x2 x3 V hl hp
    have hp : pX7_bucketAt_2_b N a0 (pX7_bucketAt_2 N a0 kx n) kx G x1 x2 x3 = some res := hp
    unfold pX7_bucketAt_2_b at hp
    refine x_iload_n X dX7_bucketAt_2 hl 3 rfl rfl ?_
    refine x_aload_n X dX7_bucketAt_3 hl 0 rfl rfl ?_
    refine q_getR (ci := 7) X V inX7 rfl (by decide) rfl 9 (by decide) rfl (tw_3 38 rfl rfl) rfl dX7_bucketAt_4 hp (fun r4_1 hp => ?_)
    refine x_iload_n X dX7_bucketAt_7 hl 1 rfl rfl ?_
    obtain ⟨b8_2, e0, hp2⟩ := q_nn_of hp
    clear hp; subst e0; have hp := hp2; clear hp2
    refine q_iald X V dX7_bucketAt_8 hp (fun v8_3 hp => ?_)
    refine q_if hp (lv_icmp_gt (tgt := 76) hx hb dX7_bucketAt_9 (by decide)) (fun hp => ?_) (fun hp => ?_)
    · exact hkx _ _ _ _ V (lx_sub hl [0] rfl) hp
    · refine lv_iconst (v := (0 : Int32)) hx hb dX7_bucketAt_12 (by decide) ?_
      refine x_istore (lst' := [(4, .inl (0 : Int32)), (0, .inr (some a0)), (1, .inl x1), (2, .inl x2), (3, .inl x3)]) X dX7_bucketAt_13 hl (by decide) rfl (fun ls hl => ?_)
      refine lv_iconst (v := (0 : Int32)) hx hb dX7_bucketAt_15 (by decide) ?_
      refine x_istore (lst' := [(5, .inl (0 : Int32)), (4, .inl (0 : Int32)), (0, .inr (some a0)), (1, .inl x1), (2, .inl x2), (3, .inl x3)]) X dX7_bucketAt_16 hl (by decide) rfl (fun ls hl => ?_)
      refine bX7_bucketAt_18 X hr (fun G H locs ls x1 x2 x3 x4 V hl hp => ?_) _ _ _ _ _ _ _ _ _ _ V (lx_sub hl [2, 3, 4, 5, 1, 0] rfl) hp
      refine x_iload X dX7_bucketAt_62 hl 4 rfl ?_
      refine x_iload_n X dX7_bucketAt_64 hl 2 rfl rfl ?_
      refine q_ifn hp (lv_icmp_ne (tgt := 70) hx hb dX7_bucketAt_65 (by decide)) (fun hp => ?_) (fun hp => ?_)
      · refine x_iinc (v := (1 : Int32)) (lst' := [(3, .inl (x3 + (1 : Int32))), (0, .inr (some a0)), (1, .inl x1), (2, .inl x2), (4, .inl x4)]) X dX7_bucketAt_70 hl 3 rfl (by decide) (by decide) rfl (fun ls hl => ?_)
        refine lv_goto (tgt := 2) hx hb dX7_bucketAt_73 (by decide) ?_
        exact ih _ _ _ _ _ _ _ V (lx_sub hl [1, 2, 3, 0] rfl) hp
      · refine x_iload_n X dX7_bucketAt_68 hl 3 rfl rfl ?_
        exact q_iret X V hr ⟨by decide, by decide⟩ dX7_bucketAt_69 hp
def pX7_bucketAt_0 (N a0 : Nat) (G : mm_M) (x1 : Int32) (x2 : Int32) : Option (mm_M × Int32) :=
  pX7_bucketAt_2 N a0 (fun (G : mm_M) =>
    some (G, (-1 : Int32))) N G x1 x2 (0 : Int32)
set_option maxRecDepth 100000 in
set_option maxHeartbeats 4000000 in
theorem bX7_bucketAt_0 {p : Program} {l : Launch} {e : Env} {s : State} {m : MethodId} {args : Array Value} {below : List Frame} {meth : Method} {c : Code} {E : mm_E} {N a0 : Nat} {res : mm_M × Int32} (X : mm_X p s m args meth c prog_9_method_8_code 6 "XorOverlayModel" tw_T E) (hr : meth.sig.returnType = (Option.some .int)) {G : mm_M} {H : Heap} {locs : List Loc} {ls : Array Slot} {x1 : Int32} {x2 : Int32} (V : mm_V E s G H locs) (hl : lx_has ls 6 [(0, .inr (some a0)), (1, .inl x1), (2, .inl x2)]) (hp : pX7_bucketAt_0 N a0 G x1 x2 = some res) : W p l e rX7_bucketAt s m args below meth c H locs 0 0 (MQ below (mm_Qi E res.1 res.2) args s 0 0 (mm_A E)) (F0 m 0 ls []) := by
  have hx := X.1.1
  have hb := X.1.2.1
  unfold pX7_bucketAt_0 at hp
  refine lv_iconst (v := (0 : Int32)) hx hb dX7_bucketAt_0 (by decide) ?_
  refine x_istore_n (lst' := [(3, .inl (0 : Int32)), (0, .inr (some a0)), (1, .inl x1), (2, .inl x2)]) X dX7_bucketAt_1 hl rfl (by decide) rfl (fun ls hl => ?_)
  refine bX7_bucketAt_2 X hr (fun G H locs ls V hl hp => ?_) _ _ _ _ _ _ _ _ V (lx_sub hl [1, 2, 3, 0] rfl) hp
  refine lv_iconst (v := (-1 : Int32)) hx hb dX7_bucketAt_76 (by decide) ?_
  exact q_iret X V hr ⟨by decide, by decide⟩ dX7_bucketAt_77 hp
theorem cX7_bucketAt (l : Launch) (E : mm_E) {N a0 : Nat} {G : mm_M} {x1 : Int32} {x2 : Int32} {res : mm_M × Int32} (hp : pX7_bucketAt_0 N a0 G x1 x2 = some res) : Met l yX7_bucketAt (Cond.code yX7_bucketAt prog_9_method_8_code 6 (Option.some .int) :: tw_T) rX7_bucketAt (mm_Pc E G [.ref a0, .int x1, .int x2]) (mm_Qi E res.1 res.2) 0 0 (mm_A E) :=
  mm_met (own := "XorOverlayModel") E G [.inr (some a0), .inl x1, .inl x2] (by decide) rfl rfl (Nat.le_of_ble_eq_true rfl) (fun p e s m args below meth c ls X hr hi V hl => bX7_bucketAt_0 X hr V hl hp)
abbrev yX7_holds : MethodName := ⟨"XorOverlayModel", "holds", "(III)Z"⟩
abbrev rX7_holds : Room := { frames := 1, cells := 0, slots := 0, locals := 23 }
theorem kX7_holds : Cond.code yX7_holds prog_9_method_9_code 4 (Option.some .boolean) ∈ tw_T ∧ Cond.instanceMethod yX7_holds ∈ tw_T ∧ Cond.selects "XorOverlayModel" yX7_holds yX7_holds ∈ tw_T ∧ Cond.initialized "XorOverlayModel" ∈ tw_T := ⟨(tw_3 147 rfl rfl), (tw_3 146 rfl rfl), (tw_s 25 rfl rfl), (tw_1 3 rfl rfl)⟩
theorem hX7_holds : yX7_holds.cls = "XorOverlayModel" ∧ yX7_holds.cls ≠ "java/lang/invoke/MethodHandle" ∧ yX7_holds.cls ≠ "java/lang/invoke/VarHandle" ∧ (parseMethodDescriptor yX7_holds.desc).map (fun d => d.parameters.length) = some 3 := by decide +kernel
theorem dX7_holds_0 : decode prog_9_method_9_code 0 = .ok (.aload_n 0, 1) := by decide +kernel
theorem dX7_holds_1 : decode prog_9_method_9_code 1 = .ok (.getfield 17, 3) := by decide +kernel
theorem dX7_holds_4 : decode prog_9_method_9_code 4 = .ok (.bipush 12, 2) := by decide +kernel
theorem dX7_holds_6 : decode prog_9_method_9_code 6 = .ok (.iload_n 1, 1) := by decide +kernel
theorem dX7_holds_7 : decode prog_9_method_9_code 7 = .ok (.imul, 1) := by decide +kernel
theorem dX7_holds_8 : decode prog_9_method_9_code 8 = .ok (.iload_n 3, 1) := by decide +kernel
theorem dX7_holds_9 : decode prog_9_method_9_code 9 = .ok (.iadd, 1) := by decide +kernel
theorem dX7_holds_10 : decode prog_9_method_9_code 10 = .ok (.baload, 1) := by decide +kernel
theorem dX7_holds_11 : decode prog_9_method_9_code 11 = .ok (.ifCond .eq 22, 3) := by decide +kernel
theorem dX7_holds_14 : decode prog_9_method_9_code 14 = .ok (.aload_n 0, 1) := by decide +kernel
theorem dX7_holds_15 : decode prog_9_method_9_code 15 = .ok (.iload_n 1, 1) := by decide +kernel
theorem dX7_holds_16 : decode prog_9_method_9_code 16 = .ok (.aload_n 0, 1) := by decide +kernel
theorem dX7_holds_17 : decode prog_9_method_9_code 17 = .ok (.getfield 7, 3) := by decide +kernel
theorem dX7_holds_20 : decode prog_9_method_9_code 20 = .ok (.iload_n 3, 1) := by decide +kernel
theorem dX7_holds_21 : decode prog_9_method_9_code 21 = .ok (.iaload, 1) := by decide +kernel
theorem dX7_holds_22 : decode prog_9_method_9_code 22 = .ok (.invokevirtual 89, 3) := by decide +kernel
theorem dX7_holds_25 : decode prog_9_method_9_code 25 = .ok (.iload_n 2, 1) := by decide +kernel
theorem dX7_holds_26 : decode prog_9_method_9_code 26 = .ok (.if_icmp .ne 7, 3) := by decide +kernel
theorem dX7_holds_29 : decode prog_9_method_9_code 29 = .ok (.iconst 1, 1) := by decide +kernel
theorem dX7_holds_30 : decode prog_9_method_9_code 30 = .ok (.goto 4, 3) := by decide +kernel
theorem dX7_holds_33 : decode prog_9_method_9_code 33 = .ok (.iconst 0, 1) := by decide +kernel
theorem dX7_holds_34 : decode prog_9_method_9_code 34 = .ok (.ireturn, 1) := by decide +kernel
def pX7_holds_0 (N a0 : Nat) (G : mm_M) (x1 : Int32) (x2 : Int32) (x3 : Int32) : Option (mm_M × Int32) :=
  q_gR G a0 8 6 fun r1_1 =>
  q_nn r1_1 fun b10_2 =>
  q_aI G b10_2 102 (((12 : Int32) * x1) + x3) fun v10_3 =>
  if v10_3 = 0 then
    some (G, (0 : Int32))
  else
    q_gR G a0 8 4 fun r17_4 =>
    q_nn r17_4 fun b21_5 =>
    q_aI G b21_5 101 x3 fun v21_6 =>
    q_is G a0 8 <|
    q_cl (pX7_bucketOf_0 N a0 G x1 v21_6) fun G v22_8 =>
    if v22_8 = x2 then
      some (G, (1 : Int32))
    else
      some (G, (0 : Int32))
set_option maxRecDepth 100000 in
set_option maxHeartbeats 4000000 in
theorem bX7_holds_0 {p : Program} {l : Launch} {e : Env} {s : State} {m : MethodId} {args : Array Value} {below : List Frame} {meth : Method} {c : Code} {E : mm_E} {N a0 : Nat} {res : mm_M × Int32} (X : mm_X p s m args meth c prog_9_method_9_code 4 "XorOverlayModel" tw_T E) (hr : meth.sig.returnType = (Option.some .boolean)) {G : mm_M} {H : Heap} {locs : List Loc} {ls : Array Slot} {x1 : Int32} {x2 : Int32} {x3 : Int32} (V : mm_V E s G H locs) (hl : lx_has ls 4 [(0, .inr (some a0)), (1, .inl x1), (2, .inl x2), (3, .inl x3)]) (hp : pX7_holds_0 N a0 G x1 x2 x3 = some res) : W p l e rX7_holds s m args below meth c H locs 0 0 (MQ below (mm_Qi E res.1 res.2) args s 0 0 (mm_A E)) (F0 m 0 ls []) := by
  have hx := X.1.1
  have hb := X.1.2.1
  unfold pX7_holds_0 at hp
  refine x_aload_n X dX7_holds_0 hl 0 rfl rfl ?_
  refine q_getR (ci := 7) X V inX7 rfl (by decide) rfl 6 (by decide) rfl (tw_3 35 rfl rfl) rfl dX7_holds_1 hp (fun r1_1 hp => ?_)
  refine lv_bipush (v := (12 : Int32)) hx hb dX7_holds_4 (by decide) ?_
  refine x_iload_n X dX7_holds_6 hl 1 rfl rfl ?_
  refine lv_imul hx hb dX7_holds_7 ?_
  refine x_iload_n X dX7_holds_8 hl 3 rfl rfl ?_
  refine lv_iadd hx hb dX7_holds_9 ?_
  obtain ⟨b10_2, e0, hp2⟩ := q_nn_of hp
  clear hp; subst e0; have hp := hp2; clear hp2
  refine q_zald X V dX7_holds_10 hp (fun v10_3 hp => ?_)
  refine q_if hp (lv_if_eq (tgt := 33) hx hb dX7_holds_11 (by decide)) (fun hp => ?_) (fun hp => ?_)
  · refine lv_iconst (v := (0 : Int32)) hx hb dX7_holds_33 (by decide) ?_
    exact q_zret X V hr rfl ⟨by decide, by decide⟩ dX7_holds_34 hp
  · refine x_aload_n X dX7_holds_14 hl 0 rfl rfl ?_
    refine x_iload_n X dX7_holds_15 hl 1 rfl rfl ?_
    refine x_aload_n X dX7_holds_16 hl 0 rfl rfl ?_
    refine q_getR (ci := 7) X V inX7 rfl (by decide) rfl 4 (by decide) rfl (tw_3 33 rfl rfl) rfl dX7_holds_17 hp (fun r17_4 hp => ?_)
    refine x_iload_n X dX7_holds_20 hl 3 rfl rfl ?_
    obtain ⟨b21_5, e0, hp2⟩ := q_nn_of hp
    clear hp; subst e0; have hp := hp2; clear hp2
    refine q_iald X V dX7_holds_21 hp (fun v21_6 hp => ?_)
    obtain ⟨hk, hp⟩ := q_is_of hp
    obtain ⟨⟨G, v22_8⟩, hq, hp⟩ := q_cl_of hp
    dsimp only at hp
    refine q_goi (cells' := 0) (slots' := 0) (va_runV (As := [.int x1, .int v21_6]) (rest := []) X.1 (cX7_bucketOf l E hq) (tw_cwV 2 X.1.2.2.2.2 (tw_3 136 rfl rfl) kX7_bucketOf.2.1 kX7_bucketOf.2.2.1 kX7_bucketOf.2.2.2 kX7_bucketOf.1 rfl rfl hX7_bucketOf ⟨Nat.le_of_ble_eq_true rfl, Nat.le_of_ble_eq_true rfl⟩) (mm_preV X V rfl (by decide) rfl hk) rfl rfl hl.1 rfl (lv_room (Nat.le_of_ble_eq_true rfl)) dX7_holds_22 ⟨by decide, by decide⟩) V ⟨rfl, rfl⟩ (fun H locs V => ?_)
    refine x_iload_n X dX7_holds_25 hl 2 rfl rfl ?_
    refine q_ifn hp (lv_icmp_ne (tgt := 33) hx hb dX7_holds_26 (by decide)) (fun hp => ?_) (fun hp => ?_)
    · refine lv_iconst (v := (0 : Int32)) hx hb dX7_holds_33 (by decide) ?_
      exact q_zret X V hr rfl ⟨by decide, by decide⟩ dX7_holds_34 hp
    · refine lv_iconst (v := (1 : Int32)) hx hb dX7_holds_29 (by decide) ?_
      refine lv_goto (tgt := 34) hx hb dX7_holds_30 (by decide) ?_
      exact q_zret X V hr rfl ⟨by decide, by decide⟩ dX7_holds_34 hp
theorem cX7_holds (l : Launch) (E : mm_E) {N a0 : Nat} {G : mm_M} {x1 : Int32} {x2 : Int32} {x3 : Int32} {res : mm_M × Int32} (hp : pX7_holds_0 N a0 G x1 x2 x3 = some res) : Met l yX7_holds (Cond.code yX7_holds prog_9_method_9_code 4 (Option.some .boolean) :: tw_T) rX7_holds (mm_Pc E G [.ref a0, .int x1, .int x2, .int x3]) (mm_Qi E res.1 res.2) 0 0 (mm_A E) :=
  mm_met (own := "XorOverlayModel") E G [.inr (some a0), .inl x1, .inl x2, .inl x3] (by decide) rfl rfl (Nat.le_of_ble_eq_true rfl) (fun p e s m args below meth c ls X hr hi V hl => bX7_holds_0 X hr V hl hp)
abbrev yX7_held : MethodName := ⟨"XorOverlayModel", "held", "(II)I"⟩
abbrev rX7_held : Room := { frames := 2, cells := 0, slots := 0, locals := 46 }
theorem kX7_held : Cond.code yX7_held prog_9_method_10_code 5 (Option.some .int) ∈ tw_T ∧ Cond.instanceMethod yX7_held ∈ tw_T ∧ Cond.selects "XorOverlayModel" yX7_held yX7_held ∈ tw_T ∧ Cond.initialized "XorOverlayModel" ∈ tw_T := ⟨(tw_3 143 rfl rfl), (tw_3 142 rfl rfl), (tw_s 24 rfl rfl), (tw_1 3 rfl rfl)⟩
theorem hX7_held : yX7_held.cls = "XorOverlayModel" ∧ yX7_held.cls ≠ "java/lang/invoke/MethodHandle" ∧ yX7_held.cls ≠ "java/lang/invoke/VarHandle" ∧ (parseMethodDescriptor yX7_held.desc).map (fun d => d.parameters.length) = some 2 := by decide +kernel
theorem dX7_held_0 : decode prog_9_method_10_code 0 = .ok (.iconst 0, 1) := by decide +kernel
theorem dX7_held_1 : decode prog_9_method_10_code 1 = .ok (.istore_n 3, 1) := by decide +kernel
theorem dX7_held_2 : decode prog_9_method_10_code 2 = .ok (.iconst 0, 1) := by decide +kernel
theorem dX7_held_3 : decode prog_9_method_10_code 3 = .ok (.istore 4, 2) := by decide +kernel
theorem dX7_held_5 : decode prog_9_method_10_code 5 = .ok (.iload 4, 2) := by decide +kernel
theorem dX7_held_7 : decode prog_9_method_10_code 7 = .ok (.aload_n 0, 1) := by decide +kernel
theorem dX7_held_8 : decode prog_9_method_10_code 8 = .ok (.getfield 77, 3) := by decide +kernel
theorem dX7_held_11 : decode prog_9_method_10_code 11 = .ok (.if_icmp .ge 28, 3) := by decide +kernel
theorem dX7_held_14 : decode prog_9_method_10_code 14 = .ok (.aload_n 0, 1) := by decide +kernel
theorem dX7_held_15 : decode prog_9_method_10_code 15 = .ok (.iload_n 1, 1) := by decide +kernel
theorem dX7_held_16 : decode prog_9_method_10_code 16 = .ok (.iload_n 2, 1) := by decide +kernel
theorem dX7_held_17 : decode prog_9_method_10_code 17 = .ok (.iload 4, 2) := by decide +kernel
theorem dX7_held_19 : decode prog_9_method_10_code 19 = .ok (.invokevirtual 92, 3) := by decide +kernel
theorem dX7_held_22 : decode prog_9_method_10_code 22 = .ok (.ifCond .eq 9, 3) := by decide +kernel
theorem dX7_held_25 : decode prog_9_method_10_code 25 = .ok (.iload_n 3, 1) := by decide +kernel
theorem dX7_held_26 : decode prog_9_method_10_code 26 = .ok (.iconst 1, 1) := by decide +kernel
theorem dX7_held_27 : decode prog_9_method_10_code 27 = .ok (.iadd, 1) := by decide +kernel
theorem dX7_held_28 : decode prog_9_method_10_code 28 = .ok (.goto 4, 3) := by decide +kernel
theorem dX7_held_31 : decode prog_9_method_10_code 31 = .ok (.iload_n 3, 1) := by decide +kernel
theorem dX7_held_32 : decode prog_9_method_10_code 32 = .ok (.istore_n 3, 1) := by decide +kernel
theorem dX7_held_33 : decode prog_9_method_10_code 33 = .ok (.iinc 4 1, 3) := by decide +kernel
theorem dX7_held_36 : decode prog_9_method_10_code 36 = .ok (.goto (-31), 3) := by decide +kernel
theorem dX7_held_39 : decode prog_9_method_10_code 39 = .ok (.iload_n 3, 1) := by decide +kernel
theorem dX7_held_40 : decode prog_9_method_10_code 40 = .ok (.ireturn, 1) := by decide +kernel
def pX7_held_5_b (N a0 : Nat) (kb : mm_M → Int32 → Int32 → Int32 → Int32 → Option (mm_M × Int32)) (kx : mm_M → Int32 → Option (mm_M × Int32)) (G : mm_M) (x1 : Int32) (x2 : Int32) (x3 : Int32) (x4 : Int32) : Option (mm_M × Int32) :=
  q_gI G a0 8 3 fun v8_1 =>
  if v8_1 ≤ x4 then
    kx G x3
  else
    q_is G a0 8 <|
    q_cl (pX7_holds_0 N a0 G x1 x2 x4) fun G v19_3 =>
    if v19_3 = 0 then
      kb G x1 x2 x3 (x4 + (1 : Int32))
    else
      kb G x1 x2 (x3 + (1 : Int32)) (x4 + (1 : Int32))
def pX7_held_5 (N a0 : Nat) (kx : mm_M → Int32 → Option (mm_M × Int32)) : Nat → mm_M → Int32 → Int32 → Int32 → Int32 → Option (mm_M × Int32)
  | 0 => fun _ _ _ _ _ => none
  | n + 1 => pX7_held_5_b N a0 (pX7_held_5 N a0 kx n) kx
set_option maxRecDepth 100000 in
set_option maxHeartbeats 4000000 in
theorem bX7_held_5 {p : Program} {l : Launch} {e : Env} {s : State} {m : MethodId} {args : Array Value} {below : List Frame} {meth : Method} {c : Code} {E : mm_E} {N a0 : Nat} {res : mm_M × Int32} (X : mm_X p s m args meth c prog_9_method_10_code 5 "XorOverlayModel" tw_T E) (hr : meth.sig.returnType = (Option.some .int)) {kx : mm_M → Int32 → Option (mm_M × Int32)} (hkx : ∀ (G : mm_M) (H : Heap) (locs : List Loc) (ls : Array Slot) (x3 : Int32), mm_V E s G H locs → lx_has ls 5 [(0, .inr (some a0)), (3, .inl x3)] → kx G x3 = some res → W p l e rX7_held s m args below meth c H locs 0 0 (MQ below (mm_Qi E res.1 res.2) args s 0 0 (mm_A E)) (F0 m 39 ls [])) :
    ∀ (n : Nat) (G : mm_M) (H : Heap) (locs : List Loc) (ls : Array Slot) (x1 : Int32) (x2 : Int32) (x3 : Int32) (x4 : Int32), mm_V E s G H locs → lx_has ls 5 [(0, .inr (some a0)), (1, .inl x1), (2, .inl x2), (3, .inl x3), (4, .inl x4)] → pX7_held_5 N a0 kx n G x1 x2 x3 x4 = some res → W p l e rX7_held s m args below meth c H locs 0 0 (MQ below (mm_Qi E res.1 res.2) args s 0 0 (mm_A E)) (F0 m 5 ls []) := by
  have hx := X.1.1
  have hb := X.1.2.1
  intro n
  induction n with
  | zero =>
    intro G H locs ls x1 x2 x3 x4 V hl hp
    cases hp
  | succ n ih =>
    intro G H locs ls x1 x2 x3 x4 V hl hp
    have hp : pX7_held_5_b N a0 (pX7_held_5 N a0 kx n) kx G x1 x2 x3 x4 = some res := hp
    unfold pX7_held_5_b at hp
    refine x_iload X dX7_held_5 hl 4 rfl ?_
    refine x_aload_n X dX7_held_7 hl 0 rfl rfl ?_
    refine q_getI (ci := 7) X V inX7 rfl (by decide) rfl 3 (by decide) rfl (tw_3 32 rfl rfl) rfl dX7_held_8 hp (fun v8_1 hp => ?_)
    refine q_if hp (lv_icmp_ge (tgt := 39) hx hb dX7_held_11 (by decide)) (fun hp => ?_) (fun hp => ?_)
    · exact hkx _ _ _ _ _ V (lx_sub hl [0, 3] rfl) hp
    · refine x_aload_n X dX7_held_14 hl 0 rfl rfl ?_
      refine x_iload_n X dX7_held_15 hl 1 rfl rfl ?_
      refine x_iload_n X dX7_held_16 hl 2 rfl rfl ?_
      refine x_iload X dX7_held_17 hl 4 rfl ?_
      obtain ⟨hk, hp⟩ := q_is_of hp
      obtain ⟨⟨G, v19_3⟩, hq, hp⟩ := q_cl_of hp
      dsimp only at hp
      refine q_goi (cells' := 0) (slots' := 0) (va_runV (As := [.int x1, .int x2, .int x4]) (rest := []) X.1 (cX7_holds l E hq) (tw_cwV 3 X.1.2.2.2.2 (tw_3 144 rfl rfl) kX7_holds.2.1 kX7_holds.2.2.1 kX7_holds.2.2.2 kX7_holds.1 rfl rfl hX7_holds ⟨Nat.le_of_ble_eq_true rfl, Nat.le_of_ble_eq_true rfl⟩) (mm_preV X V rfl (by decide) rfl hk) rfl rfl hl.1 rfl (lv_room (Nat.le_of_ble_eq_true rfl)) dX7_held_19 ⟨by decide, by decide⟩) V ⟨rfl, rfl⟩ (fun H locs V => ?_)
      refine q_if hp (lv_if_eq (tgt := 31) hx hb dX7_held_22 (by decide)) (fun hp => ?_) (fun hp => ?_)
      · refine x_iload_n X dX7_held_31 hl 3 rfl rfl ?_
        refine x_istore_n (lst' := [(3, .inl x3), (0, .inr (some a0)), (1, .inl x1), (2, .inl x2), (4, .inl x4)]) X dX7_held_32 hl rfl (by decide) rfl (fun ls hl => ?_)
        refine x_iinc (v := (1 : Int32)) (lst' := [(4, .inl (x4 + (1 : Int32))), (3, .inl x3), (0, .inr (some a0)), (1, .inl x1), (2, .inl x2)]) X dX7_held_33 hl 4 rfl (by decide) (by decide) rfl (fun ls hl => ?_)
        refine lv_goto (tgt := 5) hx hb dX7_held_36 (by decide) ?_
        exact ih _ _ _ _ _ _ _ _ V (lx_sub hl [2, 3, 4, 1, 0] rfl) hp
      · refine x_iload_n X dX7_held_25 hl 3 rfl rfl ?_
        refine lv_iconst (v := (1 : Int32)) hx hb dX7_held_26 (by decide) ?_
        refine lv_iadd hx hb dX7_held_27 ?_
        refine lv_goto (tgt := 32) hx hb dX7_held_28 (by decide) ?_
        refine x_istore_n (lst' := [(3, .inl (x3 + (1 : Int32))), (0, .inr (some a0)), (1, .inl x1), (2, .inl x2), (4, .inl x4)]) X dX7_held_32 hl rfl (by decide) rfl (fun ls hl => ?_)
        refine x_iinc (v := (1 : Int32)) (lst' := [(4, .inl (x4 + (1 : Int32))), (3, .inl (x3 + (1 : Int32))), (0, .inr (some a0)), (1, .inl x1), (2, .inl x2)]) X dX7_held_33 hl 4 rfl (by decide) (by decide) rfl (fun ls hl => ?_)
        refine lv_goto (tgt := 5) hx hb dX7_held_36 (by decide) ?_
        exact ih _ _ _ _ _ _ _ _ V (lx_sub hl [2, 3, 4, 1, 0] rfl) hp
def pX7_held_0 (N a0 : Nat) (G : mm_M) (x1 : Int32) (x2 : Int32) : Option (mm_M × Int32) :=
  pX7_held_5 N a0 (fun (G : mm_M) (x3 : Int32) =>
    some (G, x3)) N G x1 x2 (0 : Int32) (0 : Int32)
set_option maxRecDepth 100000 in
set_option maxHeartbeats 4000000 in
theorem bX7_held_0 {p : Program} {l : Launch} {e : Env} {s : State} {m : MethodId} {args : Array Value} {below : List Frame} {meth : Method} {c : Code} {E : mm_E} {N a0 : Nat} {res : mm_M × Int32} (X : mm_X p s m args meth c prog_9_method_10_code 5 "XorOverlayModel" tw_T E) (hr : meth.sig.returnType = (Option.some .int)) {G : mm_M} {H : Heap} {locs : List Loc} {ls : Array Slot} {x1 : Int32} {x2 : Int32} (V : mm_V E s G H locs) (hl : lx_has ls 5 [(0, .inr (some a0)), (1, .inl x1), (2, .inl x2)]) (hp : pX7_held_0 N a0 G x1 x2 = some res) : W p l e rX7_held s m args below meth c H locs 0 0 (MQ below (mm_Qi E res.1 res.2) args s 0 0 (mm_A E)) (F0 m 0 ls []) := by
  have hx := X.1.1
  have hb := X.1.2.1
  unfold pX7_held_0 at hp
  refine lv_iconst (v := (0 : Int32)) hx hb dX7_held_0 (by decide) ?_
  refine x_istore_n (lst' := [(3, .inl (0 : Int32)), (0, .inr (some a0)), (1, .inl x1), (2, .inl x2)]) X dX7_held_1 hl rfl (by decide) rfl (fun ls hl => ?_)
  refine lv_iconst (v := (0 : Int32)) hx hb dX7_held_2 (by decide) ?_
  refine x_istore (lst' := [(4, .inl (0 : Int32)), (3, .inl (0 : Int32)), (0, .inr (some a0)), (1, .inl x1), (2, .inl x2)]) X dX7_held_3 hl (by decide) rfl (fun ls hl => ?_)
  refine bX7_held_5 X hr (fun G H locs ls x3 V hl hp => ?_) _ _ _ _ _ _ _ _ _ V (lx_sub hl [2, 3, 4, 1, 0] rfl) hp
  refine x_iload_n X dX7_held_39 hl 1 rfl rfl ?_
  exact q_iret X V hr ⟨by decide, by decide⟩ dX7_held_40 hp
theorem cX7_held (l : Launch) (E : mm_E) {N a0 : Nat} {G : mm_M} {x1 : Int32} {x2 : Int32} {res : mm_M × Int32} (hp : pX7_held_0 N a0 G x1 x2 = some res) : Met l yX7_held (Cond.code yX7_held prog_9_method_10_code 5 (Option.some .int) :: tw_T) rX7_held (mm_Pc E G [.ref a0, .int x1, .int x2]) (mm_Qi E res.1 res.2) 0 0 (mm_A E) :=
  mm_met (own := "XorOverlayModel") E G [.inr (some a0), .inl x1, .inl x2] (by decide) rfl rfl (Nat.le_of_ble_eq_true rfl) (fun p e s m args below meth c ls X hr hi V hl => bX7_held_0 X hr V hl hp)
abbrev yX7_inOrder : MethodName := ⟨"XorOverlayModel", "inOrder", "(III)I"⟩
abbrev rX7_inOrder : Room := { frames := 2, cells := 0, slots := 0, locals := 46 }
theorem kX7_inOrder : Cond.code yX7_inOrder prog_9_method_11_code 7 (Option.some .int) ∈ tw_T ∧ Cond.instanceMethod yX7_inOrder ∈ tw_T ∧ Cond.selects "XorOverlayModel" yX7_inOrder yX7_inOrder ∈ tw_T ∧ Cond.initialized "XorOverlayModel" ∈ tw_T := ⟨(tw_3 151 rfl rfl), (tw_3 150 rfl rfl), (tw_s 26 rfl rfl), (tw_1 3 rfl rfl)⟩
theorem hX7_inOrder : yX7_inOrder.cls = "XorOverlayModel" ∧ yX7_inOrder.cls ≠ "java/lang/invoke/MethodHandle" ∧ yX7_inOrder.cls ≠ "java/lang/invoke/VarHandle" ∧ (parseMethodDescriptor yX7_inOrder.desc).map (fun d => d.parameters.length) = some 3 := by decide +kernel
theorem dX7_inOrder_0 : decode prog_9_method_11_code 0 = .ok (.iconst 0, 1) := by decide +kernel
theorem dX7_inOrder_1 : decode prog_9_method_11_code 1 = .ok (.istore 4, 2) := by decide +kernel
theorem dX7_inOrder_3 : decode prog_9_method_11_code 3 = .ok (.iload 4, 2) := by decide +kernel
theorem dX7_inOrder_5 : decode prog_9_method_11_code 5 = .ok (.aload_n 0, 1) := by decide +kernel
theorem dX7_inOrder_6 : decode prog_9_method_11_code 6 = .ok (.getfield 77, 3) := by decide +kernel
theorem dX7_inOrder_9 : decode prog_9_method_11_code 9 = .ok (.if_icmp .ge 99, 3) := by decide +kernel
theorem dX7_inOrder_12 : decode prog_9_method_11_code 12 = .ok (.iconst 0, 1) := by decide +kernel
theorem dX7_inOrder_13 : decode prog_9_method_11_code 13 = .ok (.istore 5, 2) := by decide +kernel
theorem dX7_inOrder_15 : decode prog_9_method_11_code 15 = .ok (.iconst 0, 1) := by decide +kernel
theorem dX7_inOrder_16 : decode prog_9_method_11_code 16 = .ok (.istore 6, 2) := by decide +kernel
theorem dX7_inOrder_18 : decode prog_9_method_11_code 18 = .ok (.iload 6, 2) := by decide +kernel
theorem dX7_inOrder_20 : decode prog_9_method_11_code 20 = .ok (.aload_n 0, 1) := by decide +kernel
theorem dX7_inOrder_21 : decode prog_9_method_11_code 21 = .ok (.getfield 77, 3) := by decide +kernel
theorem dX7_inOrder_24 : decode prog_9_method_11_code 24 = .ok (.if_icmp .ge 58, 3) := by decide +kernel
theorem dX7_inOrder_27 : decode prog_9_method_11_code 27 = .ok (.aload_n 0, 1) := by decide +kernel
theorem dX7_inOrder_28 : decode prog_9_method_11_code 28 = .ok (.iload_n 1, 1) := by decide +kernel
theorem dX7_inOrder_29 : decode prog_9_method_11_code 29 = .ok (.iload_n 2, 1) := by decide +kernel
theorem dX7_inOrder_30 : decode prog_9_method_11_code 30 = .ok (.iload 6, 2) := by decide +kernel
theorem dX7_inOrder_32 : decode prog_9_method_11_code 32 = .ok (.invokevirtual 92, 3) := by decide +kernel
theorem dX7_inOrder_35 : decode prog_9_method_11_code 35 = .ok (.ifCond .eq 37, 3) := by decide +kernel
theorem dX7_inOrder_38 : decode prog_9_method_11_code 38 = .ok (.aload_n 0, 1) := by decide +kernel
theorem dX7_inOrder_39 : decode prog_9_method_11_code 39 = .ok (.getfield 20, 3) := by decide +kernel
theorem dX7_inOrder_42 : decode prog_9_method_11_code 42 = .ok (.bipush 12, 2) := by decide +kernel
theorem dX7_inOrder_44 : decode prog_9_method_11_code 44 = .ok (.iload_n 1, 1) := by decide +kernel
theorem dX7_inOrder_45 : decode prog_9_method_11_code 45 = .ok (.imul, 1) := by decide +kernel
theorem dX7_inOrder_46 : decode prog_9_method_11_code 46 = .ok (.iload 6, 2) := by decide +kernel
theorem dX7_inOrder_48 : decode prog_9_method_11_code 48 = .ok (.iadd, 1) := by decide +kernel
theorem dX7_inOrder_49 : decode prog_9_method_11_code 49 = .ok (.iaload, 1) := by decide +kernel
theorem dX7_inOrder_50 : decode prog_9_method_11_code 50 = .ok (.aload_n 0, 1) := by decide +kernel
theorem dX7_inOrder_51 : decode prog_9_method_11_code 51 = .ok (.getfield 20, 3) := by decide +kernel
theorem dX7_inOrder_54 : decode prog_9_method_11_code 54 = .ok (.bipush 12, 2) := by decide +kernel
theorem dX7_inOrder_56 : decode prog_9_method_11_code 56 = .ok (.iload_n 1, 1) := by decide +kernel
theorem dX7_inOrder_57 : decode prog_9_method_11_code 57 = .ok (.imul, 1) := by decide +kernel
theorem dX7_inOrder_58 : decode prog_9_method_11_code 58 = .ok (.iload 4, 2) := by decide +kernel
theorem dX7_inOrder_60 : decode prog_9_method_11_code 60 = .ok (.iadd, 1) := by decide +kernel
theorem dX7_inOrder_61 : decode prog_9_method_11_code 61 = .ok (.iaload, 1) := by decide +kernel
theorem dX7_inOrder_62 : decode prog_9_method_11_code 62 = .ok (.if_icmp .ge 10, 3) := by decide +kernel
theorem dX7_inOrder_65 : decode prog_9_method_11_code 65 = .ok (.iload 5, 2) := by decide +kernel
theorem dX7_inOrder_67 : decode prog_9_method_11_code 67 = .ok (.iconst 1, 1) := by decide +kernel
theorem dX7_inOrder_68 : decode prog_9_method_11_code 68 = .ok (.iadd, 1) := by decide +kernel
theorem dX7_inOrder_69 : decode prog_9_method_11_code 69 = .ok (.goto 5, 3) := by decide +kernel
theorem dX7_inOrder_72 : decode prog_9_method_11_code 72 = .ok (.iload 5, 2) := by decide +kernel
theorem dX7_inOrder_74 : decode prog_9_method_11_code 74 = .ok (.istore 5, 2) := by decide +kernel
theorem dX7_inOrder_76 : decode prog_9_method_11_code 76 = .ok (.iinc 6 1, 3) := by decide +kernel
theorem dX7_inOrder_79 : decode prog_9_method_11_code 79 = .ok (.goto (-61), 3) := by decide +kernel
theorem dX7_inOrder_82 : decode prog_9_method_11_code 82 = .ok (.aload_n 0, 1) := by decide +kernel
theorem dX7_inOrder_83 : decode prog_9_method_11_code 83 = .ok (.iload_n 1, 1) := by decide +kernel
theorem dX7_inOrder_84 : decode prog_9_method_11_code 84 = .ok (.iload_n 2, 1) := by decide +kernel
theorem dX7_inOrder_85 : decode prog_9_method_11_code 85 = .ok (.iload 4, 2) := by decide +kernel
theorem dX7_inOrder_87 : decode prog_9_method_11_code 87 = .ok (.invokevirtual 92, 3) := by decide +kernel
theorem dX7_inOrder_90 : decode prog_9_method_11_code 90 = .ok (.ifCond .eq 12, 3) := by decide +kernel
theorem dX7_inOrder_93 : decode prog_9_method_11_code 93 = .ok (.iload 5, 2) := by decide +kernel
theorem dX7_inOrder_95 : decode prog_9_method_11_code 95 = .ok (.iload_n 3, 1) := by decide +kernel
theorem dX7_inOrder_96 : decode prog_9_method_11_code 96 = .ok (.if_icmp .ne 6, 3) := by decide +kernel
theorem dX7_inOrder_99 : decode prog_9_method_11_code 99 = .ok (.iload 4, 2) := by decide +kernel
theorem dX7_inOrder_101 : decode prog_9_method_11_code 101 = .ok (.ireturn, 1) := by decide +kernel
theorem dX7_inOrder_102 : decode prog_9_method_11_code 102 = .ok (.iinc 4 1, 3) := by decide +kernel
theorem dX7_inOrder_105 : decode prog_9_method_11_code 105 = .ok (.goto (-102), 3) := by decide +kernel
theorem dX7_inOrder_108 : decode prog_9_method_11_code 108 = .ok (.iconst (-1), 1) := by decide +kernel
theorem dX7_inOrder_109 : decode prog_9_method_11_code 109 = .ok (.ireturn, 1) := by decide +kernel
def pX7_inOrder_18_b (N a0 : Nat) (kb : mm_M → Int32 → Int32 → Int32 → Int32 → Int32 → Int32 → Option (mm_M × Int32)) (kx : mm_M → Int32 → Int32 → Int32 → Int32 → Int32 → Option (mm_M × Int32)) (G : mm_M) (x1 : Int32) (x2 : Int32) (x3 : Int32) (x4 : Int32) (x5 : Int32) (x6 : Int32) : Option (mm_M × Int32) :=
  q_gI G a0 8 3 fun v21_2 =>
  if v21_2 ≤ x6 then
    kx G x1 x2 x3 x4 x5
  else
    q_is G a0 8 <|
    q_cl (pX7_holds_0 N a0 G x1 x2 x6) fun G v32_4 =>
    if v32_4 = 0 then
      kb G x1 x2 x3 x4 x5 (x6 + (1 : Int32))
    else
      q_gR G a0 8 7 fun r39_5 =>
      q_nn r39_5 fun b49_6 =>
      q_aI G b49_6 101 (((12 : Int32) * x1) + x6) fun v49_7 =>
      q_gR G a0 8 7 fun r51_8 =>
      q_nn r51_8 fun b61_9 =>
      q_aI G b61_9 101 (((12 : Int32) * x1) + x4) fun v61_10 =>
      if v61_10 ≤ v49_7 then
        kb G x1 x2 x3 x4 x5 (x6 + (1 : Int32))
      else
        kb G x1 x2 x3 x4 (x5 + (1 : Int32)) (x6 + (1 : Int32))
def pX7_inOrder_18 (N a0 : Nat) (kx : mm_M → Int32 → Int32 → Int32 → Int32 → Int32 → Option (mm_M × Int32)) : Nat → mm_M → Int32 → Int32 → Int32 → Int32 → Int32 → Int32 → Option (mm_M × Int32)
  | 0 => fun _ _ _ _ _ _ _ => none
  | n + 1 => pX7_inOrder_18_b N a0 (pX7_inOrder_18 N a0 kx n) kx
set_option maxRecDepth 100000 in
set_option maxHeartbeats 4000000 in
theorem bX7_inOrder_18 {p : Program} {l : Launch} {e : Env} {s : State} {m : MethodId} {args : Array Value} {below : List Frame} {meth : Method} {c : Code} {E : mm_E} {N a0 : Nat} {res : mm_M × Int32} (X : mm_X p s m args meth c prog_9_method_11_code 7 "XorOverlayModel" tw_T E) (hr : meth.sig.returnType = (Option.some .int)) {kx : mm_M → Int32 → Int32 → Int32 → Int32 → Int32 → Option (mm_M × Int32)} (hkx : ∀ (G : mm_M) (H : Heap) (locs : List Loc) (ls : Array Slot) (x1 : Int32) (x2 : Int32) (x3 : Int32) (x4 : Int32) (x5 : Int32), mm_V E s G H locs → lx_has ls 7 [(0, .inr (some a0)), (1, .inl x1), (2, .inl x2), (3, .inl x3), (4, .inl x4), (5, .inl x5)] → kx G x1 x2 x3 x4 x5 = some res → W p l e rX7_inOrder s m args below meth c H locs 0 0 (MQ below (mm_Qi E res.1 res.2) args s 0 0 (mm_A E)) (F0 m 82 ls [])) :
    ∀ (n : Nat) (G : mm_M) (H : Heap) (locs : List Loc) (ls : Array Slot) (x1 : Int32) (x2 : Int32) (x3 : Int32) (x4 : Int32) (x5 : Int32) (x6 : Int32), mm_V E s G H locs → lx_has ls 7 [(0, .inr (some a0)), (1, .inl x1), (2, .inl x2), (3, .inl x3), (4, .inl x4), (5, .inl x5), (6, .inl x6)] → pX7_inOrder_18 N a0 kx n G x1 x2 x3 x4 x5 x6 = some res → W p l e rX7_inOrder s m args below meth c H locs 0 0 (MQ below (mm_Qi E res.1 res.2) args s 0 0 (mm_A E)) (F0 m 18 ls []) := by
  have hx := X.1.1
  have hb := X.1.2.1
  intro n
  induction n with
  | zero =>
    intro G H locs ls x1 x2 x3 x4 x5 x6 V hl hp
    cases hp
  | succ n ih =>
    intro G H locs ls x1 x2 x3 x4 x5 x6 V hl hp
    have hp : pX7_inOrder_18_b N a0 (pX7_inOrder_18 N a0 kx n) kx G x1 x2 x3 x4 x5 x6 = some res := hp
    unfold pX7_inOrder_18_b at hp
    refine x_iload X dX7_inOrder_18 hl 6 rfl ?_
    refine x_aload_n X dX7_inOrder_20 hl 0 rfl rfl ?_
    refine q_getI (ci := 7) X V inX7 rfl (by decide) rfl 3 (by decide) rfl (tw_3 32 rfl rfl) rfl dX7_inOrder_21 hp (fun v21_2 hp => ?_)
    refine q_if hp (lv_icmp_ge (tgt := 82) hx hb dX7_inOrder_24 (by decide)) (fun hp => ?_) (fun hp => ?_)
    · exact hkx _ _ _ _ _ _ _ _ _ V (lx_sub hl [0, 1, 2, 3, 4, 5] rfl) hp
    · refine x_aload_n X dX7_inOrder_27 hl 0 rfl rfl ?_
      refine x_iload_n X dX7_inOrder_28 hl 1 rfl rfl ?_
      refine x_iload_n X dX7_inOrder_29 hl 2 rfl rfl ?_
      refine x_iload X dX7_inOrder_30 hl 6 rfl ?_
      obtain ⟨hk, hp⟩ := q_is_of hp
      obtain ⟨⟨G, v32_4⟩, hq, hp⟩ := q_cl_of hp
      dsimp only at hp
      refine q_goi (cells' := 0) (slots' := 0) (va_runV (As := [.int x1, .int x2, .int x6]) (rest := []) X.1 (cX7_holds l E hq) (tw_cwV 3 X.1.2.2.2.2 (tw_3 144 rfl rfl) kX7_holds.2.1 kX7_holds.2.2.1 kX7_holds.2.2.2 kX7_holds.1 rfl rfl hX7_holds ⟨Nat.le_of_ble_eq_true rfl, Nat.le_of_ble_eq_true rfl⟩) (mm_preV X V rfl (by decide) rfl hk) rfl rfl hl.1 rfl (lv_room (Nat.le_of_ble_eq_true rfl)) dX7_inOrder_32 ⟨by decide, by decide⟩) V ⟨rfl, rfl⟩ (fun H locs V => ?_)
      refine q_if hp (lv_if_eq (tgt := 72) hx hb dX7_inOrder_35 (by decide)) (fun hp => ?_) (fun hp => ?_)
      · refine x_iload X dX7_inOrder_72 hl 5 rfl ?_
        refine x_istore (lst' := [(5, .inl x5), (0, .inr (some a0)), (1, .inl x1), (2, .inl x2), (3, .inl x3), (4, .inl x4), (6, .inl x6)]) X dX7_inOrder_74 hl (by decide) rfl (fun ls hl => ?_)
        refine x_iinc (v := (1 : Int32)) (lst' := [(6, .inl (x6 + (1 : Int32))), (5, .inl x5), (0, .inr (some a0)), (1, .inl x1), (2, .inl x2), (3, .inl x3), (4, .inl x4)]) X dX7_inOrder_76 hl 6 rfl (by decide) (by decide) rfl (fun ls hl => ?_)
        refine lv_goto (tgt := 18) hx hb dX7_inOrder_79 (by decide) ?_
        exact ih _ _ _ _ _ _ _ _ _ _ V (lx_sub hl [2, 3, 4, 5, 6, 1, 0] rfl) hp
      · refine x_aload_n X dX7_inOrder_38 hl 0 rfl rfl ?_
        refine q_getR (ci := 7) X V inX7 rfl (by decide) rfl 7 (by decide) rfl (tw_3 36 rfl rfl) rfl dX7_inOrder_39 hp (fun r39_5 hp => ?_)
        refine lv_bipush (v := (12 : Int32)) hx hb dX7_inOrder_42 (by decide) ?_
        refine x_iload_n X dX7_inOrder_44 hl 1 rfl rfl ?_
        refine lv_imul hx hb dX7_inOrder_45 ?_
        refine x_iload X dX7_inOrder_46 hl 6 rfl ?_
        refine lv_iadd hx hb dX7_inOrder_48 ?_
        obtain ⟨b49_6, e0, hp2⟩ := q_nn_of hp
        clear hp; subst e0; have hp := hp2; clear hp2
        refine q_iald X V dX7_inOrder_49 hp (fun v49_7 hp => ?_)
        refine x_aload_n X dX7_inOrder_50 hl 0 rfl rfl ?_
        refine q_getR (ci := 7) X V inX7 rfl (by decide) rfl 7 (by decide) rfl (tw_3 36 rfl rfl) rfl dX7_inOrder_51 hp (fun r51_8 hp => ?_)
        refine lv_bipush (v := (12 : Int32)) hx hb dX7_inOrder_54 (by decide) ?_
        refine x_iload_n X dX7_inOrder_56 hl 1 rfl rfl ?_
        refine lv_imul hx hb dX7_inOrder_57 ?_
        refine x_iload X dX7_inOrder_58 hl 4 rfl ?_
        refine lv_iadd hx hb dX7_inOrder_60 ?_
        obtain ⟨b61_9, e0, hp2⟩ := q_nn_of hp
        clear hp; subst e0; have hp := hp2; clear hp2
        refine q_iald X V dX7_inOrder_61 hp (fun v61_10 hp => ?_)
        refine q_if hp (lv_icmp_ge (tgt := 72) hx hb dX7_inOrder_62 (by decide)) (fun hp => ?_) (fun hp => ?_)
        · refine x_iload X dX7_inOrder_72 hl 5 rfl ?_
          refine x_istore (lst' := [(5, .inl x5), (0, .inr (some a0)), (1, .inl x1), (2, .inl x2), (3, .inl x3), (4, .inl x4), (6, .inl x6)]) X dX7_inOrder_74 hl (by decide) rfl (fun ls hl => ?_)
          refine x_iinc (v := (1 : Int32)) (lst' := [(6, .inl (x6 + (1 : Int32))), (5, .inl x5), (0, .inr (some a0)), (1, .inl x1), (2, .inl x2), (3, .inl x3), (4, .inl x4)]) X dX7_inOrder_76 hl 6 rfl (by decide) (by decide) rfl (fun ls hl => ?_)
          refine lv_goto (tgt := 18) hx hb dX7_inOrder_79 (by decide) ?_
          exact ih _ _ _ _ _ _ _ _ _ _ V (lx_sub hl [2, 3, 4, 5, 6, 1, 0] rfl) hp
        · refine x_iload X dX7_inOrder_65 hl 5 rfl ?_
          refine lv_iconst (v := (1 : Int32)) hx hb dX7_inOrder_67 (by decide) ?_
          refine lv_iadd hx hb dX7_inOrder_68 ?_
          refine lv_goto (tgt := 74) hx hb dX7_inOrder_69 (by decide) ?_
          refine x_istore (lst' := [(5, .inl (x5 + (1 : Int32))), (0, .inr (some a0)), (1, .inl x1), (2, .inl x2), (3, .inl x3), (4, .inl x4), (6, .inl x6)]) X dX7_inOrder_74 hl (by decide) rfl (fun ls hl => ?_)
          refine x_iinc (v := (1 : Int32)) (lst' := [(6, .inl (x6 + (1 : Int32))), (5, .inl (x5 + (1 : Int32))), (0, .inr (some a0)), (1, .inl x1), (2, .inl x2), (3, .inl x3), (4, .inl x4)]) X dX7_inOrder_76 hl 6 rfl (by decide) (by decide) rfl (fun ls hl => ?_)
          refine lv_goto (tgt := 18) hx hb dX7_inOrder_79 (by decide) ?_
          exact ih _ _ _ _ _ _ _ _ _ _ V (lx_sub hl [2, 3, 4, 5, 6, 1, 0] rfl) hp
def pX7_inOrder_3_b (N a0 : Nat) (kb : mm_M → Int32 → Int32 → Int32 → Int32 → Option (mm_M × Int32)) (kx : mm_M → Option (mm_M × Int32)) (G : mm_M) (x1 : Int32) (x2 : Int32) (x3 : Int32) (x4 : Int32) : Option (mm_M × Int32) :=
  q_gI G a0 8 3 fun v6_1 =>
  if v6_1 ≤ x4 then
    kx G
  else
    pX7_inOrder_18 N a0 (fun (G : mm_M) (x1 : Int32) (x2 : Int32) (x3 : Int32) (x4 : Int32) (x5 : Int32) =>
      q_is G a0 8 <|
      q_cl (pX7_holds_0 N a0 G x1 x2 x4) fun G v87_12 =>
      if v87_12 = 0 then
        kb G x1 x2 x3 (x4 + (1 : Int32))
      else
        if x5 = x3 then
          some (G, x4)
        else
          kb G x1 x2 x3 (x4 + (1 : Int32))) N G x1 x2 x3 x4 (0 : Int32) (0 : Int32)
def pX7_inOrder_3 (N a0 : Nat) (kx : mm_M → Option (mm_M × Int32)) : Nat → mm_M → Int32 → Int32 → Int32 → Int32 → Option (mm_M × Int32)
  | 0 => fun _ _ _ _ _ => none
  | n + 1 => pX7_inOrder_3_b N a0 (pX7_inOrder_3 N a0 kx n) kx
set_option maxRecDepth 100000 in
set_option maxHeartbeats 4000000 in
theorem bX7_inOrder_3 {p : Program} {l : Launch} {e : Env} {s : State} {m : MethodId} {args : Array Value} {below : List Frame} {meth : Method} {c : Code} {E : mm_E} {N a0 : Nat} {res : mm_M × Int32} (X : mm_X p s m args meth c prog_9_method_11_code 7 "XorOverlayModel" tw_T E) (hr : meth.sig.returnType = (Option.some .int)) {kx : mm_M → Option (mm_M × Int32)} (hkx : ∀ (G : mm_M) (H : Heap) (locs : List Loc) (ls : Array Slot), mm_V E s G H locs → lx_has ls 7 [(0, .inr (some a0))] → kx G = some res → W p l e rX7_inOrder s m args below meth c H locs 0 0 (MQ below (mm_Qi E res.1 res.2) args s 0 0 (mm_A E)) (F0 m 108 ls [])) :
    ∀ (n : Nat) (G : mm_M) (H : Heap) (locs : List Loc) (ls : Array Slot) (x1 : Int32) (x2 : Int32) (x3 : Int32) (x4 : Int32), mm_V E s G H locs → lx_has ls 7 [(0, .inr (some a0)), (1, .inl x1), (2, .inl x2), (3, .inl x3), (4, .inl x4)] → pX7_inOrder_3 N a0 kx n G x1 x2 x3 x4 = some res → W p l e rX7_inOrder s m args below meth c H locs 0 0 (MQ below (mm_Qi E res.1 res.2) args s 0 0 (mm_A E)) (F0 m 3 ls []) := by
  have hx := X.1.1
  have hb := X.1.2.1
  intro n
  induction n with
  | zero =>
    intro G H locs ls x1 x2 x3 x4 V hl hp
    cases hp
  | succ n ih =>
    intro G H locs ls x1 x2 x3 x4 V hl hp
    have hp : pX7_inOrder_3_b N a0 (pX7_inOrder_3 N a0 kx n) kx G x1 x2 x3 x4 = some res := hp
    unfold pX7_inOrder_3_b at hp
    refine x_iload X dX7_inOrder_3 hl 4 rfl ?_
    refine x_aload_n X dX7_inOrder_5 hl 0 rfl rfl ?_
    refine q_getI (ci := 7) X V inX7 rfl (by decide) rfl 3 (by decide) rfl (tw_3 32 rfl rfl) rfl dX7_inOrder_6 hp (fun v6_1 hp => ?_)
    refine q_if hp (lv_icmp_ge (tgt := 108) hx hb dX7_inOrder_9 (by decide)) (fun hp => ?_) (fun hp => ?_)
    · exact hkx _ _ _ _ V (lx_sub hl [0] rfl) hp
    · refine lv_iconst (v := (0 : Int32)) hx hb dX7_inOrder_12 (by decide) ?_
      refine x_istore (lst' := [(5, .inl (0 : Int32)), (0, .inr (some a0)), (1, .inl x1), (2, .inl x2), (3, .inl x3), (4, .inl x4)]) X dX7_inOrder_13 hl (by decide) rfl (fun ls hl => ?_)
      refine lv_iconst (v := (0 : Int32)) hx hb dX7_inOrder_15 (by decide) ?_
      refine x_istore (lst' := [(6, .inl (0 : Int32)), (5, .inl (0 : Int32)), (0, .inr (some a0)), (1, .inl x1), (2, .inl x2), (3, .inl x3), (4, .inl x4)]) X dX7_inOrder_16 hl (by decide) rfl (fun ls hl => ?_)
      refine bX7_inOrder_18 X hr (fun G H locs ls x1 x2 x3 x4 x5 V hl hp => ?_) _ _ _ _ _ _ _ _ _ _ _ V (lx_sub hl [2, 3, 4, 5, 6, 1, 0] rfl) hp
      refine x_aload_n X dX7_inOrder_82 hl 0 rfl rfl ?_
      refine x_iload_n X dX7_inOrder_83 hl 1 rfl rfl ?_
      refine x_iload_n X dX7_inOrder_84 hl 2 rfl rfl ?_
      refine x_iload X dX7_inOrder_85 hl 4 rfl ?_
      obtain ⟨hk, hp⟩ := q_is_of hp
      obtain ⟨⟨G, v87_12⟩, hq, hp⟩ := q_cl_of hp
      dsimp only at hp
      refine q_goi (cells' := 0) (slots' := 0) (va_runV (As := [.int x1, .int x2, .int x4]) (rest := []) X.1 (cX7_holds l E hq) (tw_cwV 3 X.1.2.2.2.2 (tw_3 144 rfl rfl) kX7_holds.2.1 kX7_holds.2.2.1 kX7_holds.2.2.2 kX7_holds.1 rfl rfl hX7_holds ⟨Nat.le_of_ble_eq_true rfl, Nat.le_of_ble_eq_true rfl⟩) (mm_preV X V rfl (by decide) rfl hk) rfl rfl hl.1 rfl (lv_room (Nat.le_of_ble_eq_true rfl)) dX7_inOrder_87 ⟨by decide, by decide⟩) V ⟨rfl, rfl⟩ (fun H locs V => ?_)
      refine q_if hp (lv_if_eq (tgt := 102) hx hb dX7_inOrder_90 (by decide)) (fun hp => ?_) (fun hp => ?_)
      · refine x_iinc (v := (1 : Int32)) (lst' := [(4, .inl (x4 + (1 : Int32))), (0, .inr (some a0)), (1, .inl x1), (2, .inl x2), (3, .inl x3), (5, .inl x5)]) X dX7_inOrder_102 hl 4 rfl (by decide) (by decide) rfl (fun ls hl => ?_)
        refine lv_goto (tgt := 3) hx hb dX7_inOrder_105 (by decide) ?_
        exact ih _ _ _ _ _ _ _ _ V (lx_sub hl [1, 2, 3, 4, 0] rfl) hp
      · refine x_iload X dX7_inOrder_93 hl 5 rfl ?_
        refine x_iload_n X dX7_inOrder_95 hl 3 rfl rfl ?_
        refine q_ifn hp (lv_icmp_ne (tgt := 102) hx hb dX7_inOrder_96 (by decide)) (fun hp => ?_) (fun hp => ?_)
        · refine x_iinc (v := (1 : Int32)) (lst' := [(4, .inl (x4 + (1 : Int32))), (0, .inr (some a0)), (1, .inl x1), (2, .inl x2), (3, .inl x3), (5, .inl x5)]) X dX7_inOrder_102 hl 4 rfl (by decide) (by decide) rfl (fun ls hl => ?_)
          refine lv_goto (tgt := 3) hx hb dX7_inOrder_105 (by decide) ?_
          exact ih _ _ _ _ _ _ _ _ V (lx_sub hl [1, 2, 3, 4, 0] rfl) hp
        · refine x_iload X dX7_inOrder_99 hl 4 rfl ?_
          exact q_iret X V hr ⟨by decide, by decide⟩ dX7_inOrder_101 hp
def pX7_inOrder_0 (N a0 : Nat) (G : mm_M) (x1 : Int32) (x2 : Int32) (x3 : Int32) : Option (mm_M × Int32) :=
  pX7_inOrder_3 N a0 (fun (G : mm_M) =>
    some (G, (-1 : Int32))) N G x1 x2 x3 (0 : Int32)
set_option maxRecDepth 100000 in
set_option maxHeartbeats 4000000 in
theorem bX7_inOrder_0 {p : Program} {l : Launch} {e : Env} {s : State} {m : MethodId} {args : Array Value} {below : List Frame} {meth : Method} {c : Code} {E : mm_E} {N a0 : Nat} {res : mm_M × Int32} (X : mm_X p s m args meth c prog_9_method_11_code 7 "XorOverlayModel" tw_T E) (hr : meth.sig.returnType = (Option.some .int)) {G : mm_M} {H : Heap} {locs : List Loc} {ls : Array Slot} {x1 : Int32} {x2 : Int32} {x3 : Int32} (V : mm_V E s G H locs) (hl : lx_has ls 7 [(0, .inr (some a0)), (1, .inl x1), (2, .inl x2), (3, .inl x3)]) (hp : pX7_inOrder_0 N a0 G x1 x2 x3 = some res) : W p l e rX7_inOrder s m args below meth c H locs 0 0 (MQ below (mm_Qi E res.1 res.2) args s 0 0 (mm_A E)) (F0 m 0 ls []) := by
  have hx := X.1.1
  have hb := X.1.2.1
  unfold pX7_inOrder_0 at hp
  refine lv_iconst (v := (0 : Int32)) hx hb dX7_inOrder_0 (by decide) ?_
  refine x_istore (lst' := [(4, .inl (0 : Int32)), (0, .inr (some a0)), (1, .inl x1), (2, .inl x2), (3, .inl x3)]) X dX7_inOrder_1 hl (by decide) rfl (fun ls hl => ?_)
  refine bX7_inOrder_3 X hr (fun G H locs ls V hl hp => ?_) _ _ _ _ _ _ _ _ _ V (lx_sub hl [1, 2, 3, 4, 0] rfl) hp
  refine lv_iconst (v := (-1 : Int32)) hx hb dX7_inOrder_108 (by decide) ?_
  exact q_iret X V hr ⟨by decide, by decide⟩ dX7_inOrder_109 hp
theorem cX7_inOrder (l : Launch) (E : mm_E) {N a0 : Nat} {G : mm_M} {x1 : Int32} {x2 : Int32} {x3 : Int32} {res : mm_M × Int32} (hp : pX7_inOrder_0 N a0 G x1 x2 x3 = some res) : Met l yX7_inOrder (Cond.code yX7_inOrder prog_9_method_11_code 7 (Option.some .int) :: tw_T) rX7_inOrder (mm_Pc E G [.ref a0, .int x1, .int x2, .int x3]) (mm_Qi E res.1 res.2) 0 0 (mm_A E) :=
  mm_met (own := "XorOverlayModel") E G [.inr (some a0), .inl x1, .inl x2, .inl x3] (by decide) rfl rfl (Nat.le_of_ble_eq_true rfl) (fun p e s m args below meth c ls X hr hi V hl => bX7_inOrder_0 X hr V hl hp)
abbrev yX7_putLast : MethodName := ⟨"XorOverlayModel", "putLast", "(II)V"⟩
abbrev rX7_putLast : Room := { frames := 1, cells := 0, slots := 0, locals := 23 }
theorem kX7_putLast : Cond.code yX7_putLast prog_9_method_12_code 4 none ∈ tw_T ∧ Cond.instanceMethod yX7_putLast ∈ tw_T ∧ Cond.selects "XorOverlayModel" yX7_putLast yX7_putLast ∈ tw_T ∧ Cond.initialized "XorOverlayModel" ∈ tw_T := ⟨(tw_3 135 rfl rfl), (tw_3 134 rfl rfl), (tw_s 22 rfl rfl), (tw_1 3 rfl rfl)⟩
theorem hX7_putLast : yX7_putLast.cls = "XorOverlayModel" ∧ yX7_putLast.cls ≠ "java/lang/invoke/MethodHandle" ∧ yX7_putLast.cls ≠ "java/lang/invoke/VarHandle" ∧ (parseMethodDescriptor yX7_putLast.desc).map (fun d => d.parameters.length) = some 2 := by decide +kernel
theorem dX7_putLast_0 : decode prog_9_method_12_code 0 = .ok (.aload_n 0, 1) := by decide +kernel
theorem dX7_putLast_1 : decode prog_9_method_12_code 1 = .ok (.getfield 17, 3) := by decide +kernel
theorem dX7_putLast_4 : decode prog_9_method_12_code 4 = .ok (.bipush 12, 2) := by decide +kernel
theorem dX7_putLast_6 : decode prog_9_method_12_code 6 = .ok (.iload_n 1, 1) := by decide +kernel
theorem dX7_putLast_7 : decode prog_9_method_12_code 7 = .ok (.imul, 1) := by decide +kernel
theorem dX7_putLast_8 : decode prog_9_method_12_code 8 = .ok (.iload_n 2, 1) := by decide +kernel
theorem dX7_putLast_9 : decode prog_9_method_12_code 9 = .ok (.iadd, 1) := by decide +kernel
theorem dX7_putLast_10 : decode prog_9_method_12_code 10 = .ok (.iconst 1, 1) := by decide +kernel
theorem dX7_putLast_11 : decode prog_9_method_12_code 11 = .ok (.bastore, 1) := by decide +kernel
theorem dX7_putLast_12 : decode prog_9_method_12_code 12 = .ok (.aload_n 0, 1) := by decide +kernel
theorem dX7_putLast_13 : decode prog_9_method_12_code 13 = .ok (.getfield 23, 3) := by decide +kernel
theorem dX7_putLast_16 : decode prog_9_method_12_code 16 = .ok (.bipush 12, 2) := by decide +kernel
theorem dX7_putLast_18 : decode prog_9_method_12_code 18 = .ok (.iload_n 1, 1) := by decide +kernel
theorem dX7_putLast_19 : decode prog_9_method_12_code 19 = .ok (.imul, 1) := by decide +kernel
theorem dX7_putLast_20 : decode prog_9_method_12_code 20 = .ok (.iload_n 2, 1) := by decide +kernel
theorem dX7_putLast_21 : decode prog_9_method_12_code 21 = .ok (.iadd, 1) := by decide +kernel
theorem dX7_putLast_22 : decode prog_9_method_12_code 22 = .ok (.iconst 0, 1) := by decide +kernel
theorem dX7_putLast_23 : decode prog_9_method_12_code 23 = .ok (.iastore, 1) := by decide +kernel
theorem dX7_putLast_24 : decode prog_9_method_12_code 24 = .ok (.aload_n 0, 1) := by decide +kernel
theorem dX7_putLast_25 : decode prog_9_method_12_code 25 = .ok (.dup, 1) := by decide +kernel
theorem dX7_putLast_26 : decode prog_9_method_12_code 26 = .ok (.getfield 96, 3) := by decide +kernel
theorem dX7_putLast_29 : decode prog_9_method_12_code 29 = .ok (.iconst 1, 1) := by decide +kernel
theorem dX7_putLast_30 : decode prog_9_method_12_code 30 = .ok (.iadd, 1) := by decide +kernel
theorem dX7_putLast_31 : decode prog_9_method_12_code 31 = .ok (.putfield 96, 3) := by decide +kernel
theorem dX7_putLast_34 : decode prog_9_method_12_code 34 = .ok (.aload_n 0, 1) := by decide +kernel
theorem dX7_putLast_35 : decode prog_9_method_12_code 35 = .ok (.getfield 20, 3) := by decide +kernel
theorem dX7_putLast_38 : decode prog_9_method_12_code 38 = .ok (.bipush 12, 2) := by decide +kernel
theorem dX7_putLast_40 : decode prog_9_method_12_code 40 = .ok (.iload_n 1, 1) := by decide +kernel
theorem dX7_putLast_41 : decode prog_9_method_12_code 41 = .ok (.imul, 1) := by decide +kernel
theorem dX7_putLast_42 : decode prog_9_method_12_code 42 = .ok (.iload_n 2, 1) := by decide +kernel
theorem dX7_putLast_43 : decode prog_9_method_12_code 43 = .ok (.iadd, 1) := by decide +kernel
theorem dX7_putLast_44 : decode prog_9_method_12_code 44 = .ok (.aload_n 0, 1) := by decide +kernel
theorem dX7_putLast_45 : decode prog_9_method_12_code 45 = .ok (.getfield 96, 3) := by decide +kernel
theorem dX7_putLast_48 : decode prog_9_method_12_code 48 = .ok (.iastore, 1) := by decide +kernel
theorem dX7_putLast_49 : decode prog_9_method_12_code 49 = .ok (.aload_n 0, 1) := by decide +kernel
theorem dX7_putLast_50 : decode prog_9_method_12_code 50 = .ok (.iload_n 1, 1) := by decide +kernel
theorem dX7_putLast_51 : decode prog_9_method_12_code 51 = .ok (.aload_n 0, 1) := by decide +kernel
theorem dX7_putLast_52 : decode prog_9_method_12_code 52 = .ok (.getfield 7, 3) := by decide +kernel
theorem dX7_putLast_55 : decode prog_9_method_12_code 55 = .ok (.iload_n 2, 1) := by decide +kernel
theorem dX7_putLast_56 : decode prog_9_method_12_code 56 = .ok (.iaload, 1) := by decide +kernel
theorem dX7_putLast_57 : decode prog_9_method_12_code 57 = .ok (.invokevirtual 89, 3) := by decide +kernel
theorem dX7_putLast_60 : decode prog_9_method_12_code 60 = .ok (.istore_n 3, 1) := by decide +kernel
theorem dX7_putLast_61 : decode prog_9_method_12_code 61 = .ok (.aload_n 0, 1) := by decide +kernel
theorem dX7_putLast_62 : decode prog_9_method_12_code 62 = .ok (.getfield 29, 3) := by decide +kernel
theorem dX7_putLast_65 : decode prog_9_method_12_code 65 = .ok (.bipush 9, 2) := by decide +kernel
theorem dX7_putLast_67 : decode prog_9_method_12_code 67 = .ok (.iload_n 1, 1) := by decide +kernel
theorem dX7_putLast_68 : decode prog_9_method_12_code 68 = .ok (.imul, 1) := by decide +kernel
theorem dX7_putLast_69 : decode prog_9_method_12_code 69 = .ok (.iload_n 3, 1) := by decide +kernel
theorem dX7_putLast_70 : decode prog_9_method_12_code 70 = .ok (.iadd, 1) := by decide +kernel
theorem dX7_putLast_71 : decode prog_9_method_12_code 71 = .ok (.aload_n 0, 1) := by decide +kernel
theorem dX7_putLast_72 : decode prog_9_method_12_code 72 = .ok (.getfield 99, 3) := by decide +kernel
theorem dX7_putLast_75 : decode prog_9_method_12_code 75 = .ok (.iastore, 1) := by decide +kernel
theorem dX7_putLast_76 : decode prog_9_method_12_code 76 = .ok (.return_, 1) := by decide +kernel
def pX7_putLast_0 (N a0 : Nat) (G : mm_M) (x1 : Int32) (x2 : Int32) : Option (mm_M × Unit) :=
  q_gR G a0 8 6 fun r1_1 =>
  q_nn r1_1 fun b11_2 =>
  q_sZ G b11_2 102 (((12 : Int32) * x1) + x2) (1 : Int32) fun G =>
  q_gR G a0 8 8 fun r13_3 =>
  q_nn r13_3 fun b23_4 =>
  q_sI G b23_4 101 (((12 : Int32) * x1) + x2) (0 : Int32) fun G =>
  q_gI G a0 8 2 fun v26_5 =>
  q_pI G a0 8 2 (v26_5 + (1 : Int32)) fun G =>
  q_gR G a0 8 7 fun r35_6 =>
  q_gI G a0 8 2 fun v45_7 =>
  q_nn r35_6 fun b48_8 =>
  q_sI G b48_8 101 (((12 : Int32) * x1) + x2) v45_7 fun G =>
  q_gR G a0 8 4 fun r52_9 =>
  q_nn r52_9 fun b56_10 =>
  q_aI G b56_10 101 x2 fun v56_11 =>
  q_is G a0 8 <|
  q_cl (pX7_bucketOf_0 N a0 G x1 v56_11) fun G v57_13 =>
  q_gR G a0 8 10 fun r62_14 =>
  q_gI G a0 8 0 fun v72_15 =>
  q_nn r62_14 fun b75_16 =>
  q_sI G b75_16 101 (((9 : Int32) * x1) + v57_13) v72_15 fun G =>
  some (G, ())
set_option maxRecDepth 100000 in
set_option maxHeartbeats 4000000 in
theorem bX7_putLast_0 {p : Program} {l : Launch} {e : Env} {s : State} {m : MethodId} {args : Array Value} {below : List Frame} {meth : Method} {c : Code} {E : mm_E} {N a0 : Nat} {res : mm_M × Unit} (X : mm_X p s m args meth c prog_9_method_12_code 4 "XorOverlayModel" tw_T E) (hr : meth.sig.returnType = none) {G : mm_M} {H : Heap} {locs : List Loc} {ls : Array Slot} {x1 : Int32} {x2 : Int32} (V : mm_V E s G H locs) (hl : lx_has ls 4 [(0, .inr (some a0)), (1, .inl x1), (2, .inl x2)]) (hp : pX7_putLast_0 N a0 G x1 x2 = some res) : W p l e rX7_putLast s m args below meth c H locs 0 0 (MQ below (mm_Qv E res.1) args s 0 0 (mm_A E)) (F0 m 0 ls []) := by
  have hx := X.1.1
  have hb := X.1.2.1
  unfold pX7_putLast_0 at hp
  refine x_aload_n X dX7_putLast_0 hl 0 rfl rfl ?_
  refine q_getR (ci := 7) X V inX7 rfl (by decide) rfl 6 (by decide) rfl (tw_3 35 rfl rfl) rfl dX7_putLast_1 hp (fun r1_1 hp => ?_)
  refine lv_bipush (v := (12 : Int32)) hx hb dX7_putLast_4 (by decide) ?_
  refine x_iload_n X dX7_putLast_6 hl 1 rfl rfl ?_
  refine lv_imul hx hb dX7_putLast_7 ?_
  refine x_iload_n X dX7_putLast_8 hl 2 rfl rfl ?_
  refine lv_iadd hx hb dX7_putLast_9 ?_
  refine lv_iconst (v := (1 : Int32)) hx hb dX7_putLast_10 (by decide) ?_
  obtain ⟨b11_2, e0, hp2⟩ := q_nn_of hp
  clear hp; subst e0; have hp := hp2; clear hp2
  refine q_zast X V dX7_putLast_11 hp (fun G H locs V hp => ?_)
  refine x_aload_n X dX7_putLast_12 hl 0 rfl rfl ?_
  refine q_getR (ci := 7) X V inX7 rfl (by decide) rfl 8 (by decide) rfl (tw_3 37 rfl rfl) rfl dX7_putLast_13 hp (fun r13_3 hp => ?_)
  refine lv_bipush (v := (12 : Int32)) hx hb dX7_putLast_16 (by decide) ?_
  refine x_iload_n X dX7_putLast_18 hl 1 rfl rfl ?_
  refine lv_imul hx hb dX7_putLast_19 ?_
  refine x_iload_n X dX7_putLast_20 hl 2 rfl rfl ?_
  refine lv_iadd hx hb dX7_putLast_21 ?_
  refine lv_iconst (v := (0 : Int32)) hx hb dX7_putLast_22 (by decide) ?_
  obtain ⟨b23_4, e0, hp2⟩ := q_nn_of hp
  clear hp; subst e0; have hp := hp2; clear hp2
  refine q_iast X V dX7_putLast_23 hp (fun G H locs V hp => ?_)
  refine x_aload_n X dX7_putLast_24 hl 0 rfl rfl ?_
  refine lv_dup hx hb dX7_putLast_25 (va_rf_cat _) ?_
  refine q_getI (ci := 7) X V inX7 rfl (by decide) rfl 2 (by decide) rfl (tw_3 31 rfl rfl) rfl dX7_putLast_26 hp (fun v26_5 hp => ?_)
  refine lv_iconst (v := (1 : Int32)) hx hb dX7_putLast_29 (by decide) ?_
  refine lv_iadd hx hb dX7_putLast_30 ?_
  refine q_putI (ci := 7) X V inX7 rfl tyX7 tyX7_ok nmX7 (by decide) rfl 2 (by decide) rfl (tw_3 31 rfl rfl) rfl (Or.inl rfl) .int rfl rfl rfl dX7_putLast_31 hp (fun G H locs V hp => ?_)
  refine x_aload_n X dX7_putLast_34 hl 0 rfl rfl ?_
  refine q_getR (ci := 7) X V inX7 rfl (by decide) rfl 7 (by decide) rfl (tw_3 36 rfl rfl) rfl dX7_putLast_35 hp (fun r35_6 hp => ?_)
  refine lv_bipush (v := (12 : Int32)) hx hb dX7_putLast_38 (by decide) ?_
  refine x_iload_n X dX7_putLast_40 hl 1 rfl rfl ?_
  refine lv_imul hx hb dX7_putLast_41 ?_
  refine x_iload_n X dX7_putLast_42 hl 2 rfl rfl ?_
  refine lv_iadd hx hb dX7_putLast_43 ?_
  refine x_aload_n X dX7_putLast_44 hl 0 rfl rfl ?_
  refine q_getI (ci := 7) X V inX7 rfl (by decide) rfl 2 (by decide) rfl (tw_3 31 rfl rfl) rfl dX7_putLast_45 hp (fun v45_7 hp => ?_)
  obtain ⟨b48_8, e0, hp2⟩ := q_nn_of hp
  clear hp; subst e0; have hp := hp2; clear hp2
  refine q_iast X V dX7_putLast_48 hp (fun G H locs V hp => ?_)
  refine x_aload_n X dX7_putLast_49 hl 0 rfl rfl ?_
  refine x_iload_n X dX7_putLast_50 hl 1 rfl rfl ?_
  refine x_aload_n X dX7_putLast_51 hl 0 rfl rfl ?_
  refine q_getR (ci := 7) X V inX7 rfl (by decide) rfl 4 (by decide) rfl (tw_3 33 rfl rfl) rfl dX7_putLast_52 hp (fun r52_9 hp => ?_)
  refine x_iload_n X dX7_putLast_55 hl 2 rfl rfl ?_
  obtain ⟨b56_10, e0, hp2⟩ := q_nn_of hp
  clear hp; subst e0; have hp := hp2; clear hp2
  refine q_iald X V dX7_putLast_56 hp (fun v56_11 hp => ?_)
  obtain ⟨hk, hp⟩ := q_is_of hp
  obtain ⟨⟨G, v57_13⟩, hq, hp⟩ := q_cl_of hp
  dsimp only at hp
  refine q_goi (cells' := 0) (slots' := 0) (va_runV (As := [.int x1, .int v56_11]) (rest := []) X.1 (cX7_bucketOf l E hq) (tw_cwV 2 X.1.2.2.2.2 (tw_3 136 rfl rfl) kX7_bucketOf.2.1 kX7_bucketOf.2.2.1 kX7_bucketOf.2.2.2 kX7_bucketOf.1 rfl rfl hX7_bucketOf ⟨Nat.le_of_ble_eq_true rfl, Nat.le_of_ble_eq_true rfl⟩) (mm_preV X V rfl (by decide) rfl hk) rfl rfl hl.1 rfl (lv_room (Nat.le_of_ble_eq_true rfl)) dX7_putLast_57 ⟨by decide, by decide⟩) V ⟨rfl, rfl⟩ (fun H locs V => ?_)
  refine x_istore_n (lst' := [(3, .inl v57_13), (0, .inr (some a0)), (1, .inl x1), (2, .inl x2)]) X dX7_putLast_60 hl rfl (by decide) rfl (fun ls hl => ?_)
  refine x_aload_n X dX7_putLast_61 hl 1 rfl rfl ?_
  refine q_getR (ci := 7) X V inX7 rfl (by decide) rfl 10 (by decide) rfl (tw_3 39 rfl rfl) rfl dX7_putLast_62 hp (fun r62_14 hp => ?_)
  refine lv_bipush (v := (9 : Int32)) hx hb dX7_putLast_65 (by decide) ?_
  refine x_iload_n X dX7_putLast_67 hl 2 rfl rfl ?_
  refine lv_imul hx hb dX7_putLast_68 ?_
  refine x_iload_n X dX7_putLast_69 hl 0 rfl rfl ?_
  refine lv_iadd hx hb dX7_putLast_70 ?_
  refine x_aload_n X dX7_putLast_71 hl 1 rfl rfl ?_
  refine q_getI (ci := 7) X V inX7 rfl (by decide) rfl 0 (by decide) rfl (tw_3 29 rfl rfl) rfl dX7_putLast_72 hp (fun v72_15 hp => ?_)
  obtain ⟨b75_16, e0, hp2⟩ := q_nn_of hp
  clear hp; subst e0; have hp := hp2; clear hp2
  refine q_iast X V dX7_putLast_75 hp (fun G H locs V hp => ?_)
  exact q_vret X V hr ⟨by decide, by decide⟩ dX7_putLast_76 hp
theorem cX7_putLast (l : Launch) (E : mm_E) {N a0 : Nat} {G : mm_M} {x1 : Int32} {x2 : Int32} {res : mm_M × Unit} (hp : pX7_putLast_0 N a0 G x1 x2 = some res) : Met l yX7_putLast (Cond.code yX7_putLast prog_9_method_12_code 4 none :: tw_T) rX7_putLast (mm_Pc E G [.ref a0, .int x1, .int x2]) (mm_Qv E res.1) 0 0 (mm_A E) :=
  mm_met (own := "XorOverlayModel") E G [.inr (some a0), .inl x1, .inl x2] (by decide) rfl rfl (Nat.le_of_ble_eq_true rfl) (fun p e s m args below meth c ls X hr hi V hl => bX7_putLast_0 X hr V hl hp)
abbrev yX7_see : MethodName := ⟨"XorOverlayModel", "see", "(II)V"⟩
abbrev rX7_see : Room := { frames := 3, cells := 0, slots := 0, locals := 72 }
theorem kX7_see : Cond.code yX7_see prog_9_method_13_code 6 none ∈ tw_T ∧ Cond.instanceMethod yX7_see ∈ tw_T ∧ Cond.selects "XorOverlayModel" yX7_see yX7_see ∈ tw_T ∧ Cond.initialized "XorOverlayModel" ∈ tw_T := ⟨(tw_3 131 rfl rfl), (tw_3 130 rfl rfl), (tw_s 21 rfl rfl), (tw_1 3 rfl rfl)⟩
theorem hX7_see : yX7_see.cls = "XorOverlayModel" ∧ yX7_see.cls ≠ "java/lang/invoke/MethodHandle" ∧ yX7_see.cls ≠ "java/lang/invoke/VarHandle" ∧ (parseMethodDescriptor yX7_see.desc).map (fun d => d.parameters.length) = some 2 := by decide +kernel
theorem dX7_see_0 : decode prog_9_method_13_code 0 = .ok (.aload_n 0, 1) := by decide +kernel
theorem dX7_see_1 : decode prog_9_method_13_code 1 = .ok (.getfield 17, 3) := by decide +kernel
theorem dX7_see_4 : decode prog_9_method_13_code 4 = .ok (.bipush 12, 2) := by decide +kernel
theorem dX7_see_6 : decode prog_9_method_13_code 6 = .ok (.iload_n 1, 1) := by decide +kernel
theorem dX7_see_7 : decode prog_9_method_13_code 7 = .ok (.imul, 1) := by decide +kernel
theorem dX7_see_8 : decode prog_9_method_13_code 8 = .ok (.iload_n 2, 1) := by decide +kernel
theorem dX7_see_9 : decode prog_9_method_13_code 9 = .ok (.iadd, 1) := by decide +kernel
theorem dX7_see_10 : decode prog_9_method_13_code 10 = .ok (.baload, 1) := by decide +kernel
theorem dX7_see_11 : decode prog_9_method_13_code 11 = .ok (.ifCond .eq 10, 3) := by decide +kernel
theorem dX7_see_14 : decode prog_9_method_13_code 14 = .ok (.aload_n 0, 1) := by decide +kernel
theorem dX7_see_15 : decode prog_9_method_13_code 15 = .ok (.iload_n 1, 1) := by decide +kernel
theorem dX7_see_16 : decode prog_9_method_13_code 16 = .ok (.iload_n 2, 1) := by decide +kernel
theorem dX7_see_17 : decode prog_9_method_13_code 17 = .ok (.invokevirtual 102, 3) := by decide +kernel
theorem dX7_see_20 : decode prog_9_method_13_code 20 = .ok (.return_, 1) := by decide +kernel
theorem dX7_see_21 : decode prog_9_method_13_code 21 = .ok (.aload_n 0, 1) := by decide +kernel
theorem dX7_see_22 : decode prog_9_method_13_code 22 = .ok (.iload_n 1, 1) := by decide +kernel
theorem dX7_see_23 : decode prog_9_method_13_code 23 = .ok (.aload_n 0, 1) := by decide +kernel
theorem dX7_see_24 : decode prog_9_method_13_code 24 = .ok (.getfield 7, 3) := by decide +kernel
theorem dX7_see_27 : decode prog_9_method_13_code 27 = .ok (.iload_n 2, 1) := by decide +kernel
theorem dX7_see_28 : decode prog_9_method_13_code 28 = .ok (.iaload, 1) := by decide +kernel
theorem dX7_see_29 : decode prog_9_method_13_code 29 = .ok (.invokevirtual 89, 3) := by decide +kernel
theorem dX7_see_32 : decode prog_9_method_13_code 32 = .ok (.istore_n 3, 1) := by decide +kernel
theorem dX7_see_33 : decode prog_9_method_13_code 33 = .ok (.iconst 0, 1) := by decide +kernel
theorem dX7_see_34 : decode prog_9_method_13_code 34 = .ok (.istore 4, 2) := by decide +kernel
theorem dX7_see_36 : decode prog_9_method_13_code 36 = .ok (.iload 4, 2) := by decide +kernel
theorem dX7_see_38 : decode prog_9_method_13_code 38 = .ok (.bipush 9, 2) := by decide +kernel
theorem dX7_see_40 : decode prog_9_method_13_code 40 = .ok (.if_icmp .ge 79, 3) := by decide +kernel
theorem dX7_see_43 : decode prog_9_method_13_code 43 = .ok (.iload_n 3, 1) := by decide +kernel
theorem dX7_see_44 : decode prog_9_method_13_code 44 = .ok (.aload_n 0, 1) := by decide +kernel
theorem dX7_see_45 : decode prog_9_method_13_code 45 = .ok (.getfield 26, 3) := by decide +kernel
theorem dX7_see_48 : decode prog_9_method_13_code 48 = .ok (.iload_n 1, 1) := by decide +kernel
theorem dX7_see_49 : decode prog_9_method_13_code 49 = .ok (.iaload, 1) := by decide +kernel
theorem dX7_see_50 : decode prog_9_method_13_code 50 = .ok (.if_icmp .ne 69, 3) := by decide +kernel
theorem dX7_see_53 : decode prog_9_method_13_code 53 = .ok (.aload_n 0, 1) := by decide +kernel
theorem dX7_see_54 : decode prog_9_method_13_code 54 = .ok (.iload_n 1, 1) := by decide +kernel
theorem dX7_see_55 : decode prog_9_method_13_code 55 = .ok (.iload_n 3, 1) := by decide +kernel
theorem dX7_see_56 : decode prog_9_method_13_code 56 = .ok (.invokevirtual 106, 3) := by decide +kernel
theorem dX7_see_59 : decode prog_9_method_13_code 59 = .ok (.iconst 3, 1) := by decide +kernel
theorem dX7_see_60 : decode prog_9_method_13_code 60 = .ok (.if_icmp .lt 59, 3) := by decide +kernel
theorem dX7_see_63 : decode prog_9_method_13_code 63 = .ok (.aload_n 0, 1) := by decide +kernel
theorem dX7_see_64 : decode prog_9_method_13_code 64 = .ok (.getfield 29, 3) := by decide +kernel
theorem dX7_see_67 : decode prog_9_method_13_code 67 = .ok (.bipush 9, 2) := by decide +kernel
theorem dX7_see_69 : decode prog_9_method_13_code 69 = .ok (.iload_n 1, 1) := by decide +kernel
theorem dX7_see_70 : decode prog_9_method_13_code 70 = .ok (.imul, 1) := by decide +kernel
theorem dX7_see_71 : decode prog_9_method_13_code 71 = .ok (.iload_n 3, 1) := by decide +kernel
theorem dX7_see_72 : decode prog_9_method_13_code 72 = .ok (.iadd, 1) := by decide +kernel
theorem dX7_see_73 : decode prog_9_method_13_code 73 = .ok (.iconst 1, 1) := by decide +kernel
theorem dX7_see_74 : decode prog_9_method_13_code 74 = .ok (.iadd, 1) := by decide +kernel
theorem dX7_see_75 : decode prog_9_method_13_code 75 = .ok (.aload_n 0, 1) := by decide +kernel
theorem dX7_see_76 : decode prog_9_method_13_code 76 = .ok (.getfield 29, 3) := by decide +kernel
theorem dX7_see_79 : decode prog_9_method_13_code 79 = .ok (.bipush 9, 2) := by decide +kernel
theorem dX7_see_81 : decode prog_9_method_13_code 81 = .ok (.iload_n 1, 1) := by decide +kernel
theorem dX7_see_82 : decode prog_9_method_13_code 82 = .ok (.imul, 1) := by decide +kernel
theorem dX7_see_83 : decode prog_9_method_13_code 83 = .ok (.iload_n 3, 1) := by decide +kernel
theorem dX7_see_84 : decode prog_9_method_13_code 84 = .ok (.iadd, 1) := by decide +kernel
theorem dX7_see_85 : decode prog_9_method_13_code 85 = .ok (.iaload, 1) := by decide +kernel
theorem dX7_see_86 : decode prog_9_method_13_code 86 = .ok (.iastore, 1) := by decide +kernel
theorem dX7_see_87 : decode prog_9_method_13_code 87 = .ok (.aload_n 0, 1) := by decide +kernel
theorem dX7_see_88 : decode prog_9_method_13_code 88 = .ok (.getfield 26, 3) := by decide +kernel
theorem dX7_see_91 : decode prog_9_method_13_code 91 = .ok (.iload_n 1, 1) := by decide +kernel
theorem dX7_see_92 : decode prog_9_method_13_code 92 = .ok (.aload_n 0, 1) := by decide +kernel
theorem dX7_see_93 : decode prog_9_method_13_code 93 = .ok (.getfield 26, 3) := by decide +kernel
theorem dX7_see_96 : decode prog_9_method_13_code 96 = .ok (.iload_n 1, 1) := by decide +kernel
theorem dX7_see_97 : decode prog_9_method_13_code 97 = .ok (.iaload, 1) := by decide +kernel
theorem dX7_see_98 : decode prog_9_method_13_code 98 = .ok (.iconst 1, 1) := by decide +kernel
theorem dX7_see_99 : decode prog_9_method_13_code 99 = .ok (.iadd, 1) := by decide +kernel
theorem dX7_see_100 : decode prog_9_method_13_code 100 = .ok (.iastore, 1) := by decide +kernel
theorem dX7_see_101 : decode prog_9_method_13_code 101 = .ok (.aload_n 0, 1) := by decide +kernel
theorem dX7_see_102 : decode prog_9_method_13_code 102 = .ok (.iload_n 1, 1) := by decide +kernel
theorem dX7_see_103 : decode prog_9_method_13_code 103 = .ok (.aload_n 0, 1) := by decide +kernel
theorem dX7_see_104 : decode prog_9_method_13_code 104 = .ok (.getfield 7, 3) := by decide +kernel
theorem dX7_see_107 : decode prog_9_method_13_code 107 = .ok (.iload_n 2, 1) := by decide +kernel
theorem dX7_see_108 : decode prog_9_method_13_code 108 = .ok (.iaload, 1) := by decide +kernel
theorem dX7_see_109 : decode prog_9_method_13_code 109 = .ok (.invokevirtual 89, 3) := by decide +kernel
theorem dX7_see_112 : decode prog_9_method_13_code 112 = .ok (.istore_n 3, 1) := by decide +kernel
theorem dX7_see_113 : decode prog_9_method_13_code 113 = .ok (.iinc 4 1, 3) := by decide +kernel
theorem dX7_see_116 : decode prog_9_method_13_code 116 = .ok (.goto (-80), 3) := by decide +kernel
theorem dX7_see_119 : decode prog_9_method_13_code 119 = .ok (.aload_n 0, 1) := by decide +kernel
theorem dX7_see_120 : decode prog_9_method_13_code 120 = .ok (.iload_n 1, 1) := by decide +kernel
theorem dX7_see_121 : decode prog_9_method_13_code 121 = .ok (.iload_n 3, 1) := by decide +kernel
theorem dX7_see_122 : decode prog_9_method_13_code 122 = .ok (.invokevirtual 106, 3) := by decide +kernel
theorem dX7_see_125 : decode prog_9_method_13_code 125 = .ok (.iconst 3, 1) := by decide +kernel
theorem dX7_see_126 : decode prog_9_method_13_code 126 = .ok (.if_icmp .ge 10, 3) := by decide +kernel
theorem dX7_see_129 : decode prog_9_method_13_code 129 = .ok (.aload_n 0, 1) := by decide +kernel
theorem dX7_see_130 : decode prog_9_method_13_code 130 = .ok (.iload_n 1, 1) := by decide +kernel
theorem dX7_see_131 : decode prog_9_method_13_code 131 = .ok (.iload_n 2, 1) := by decide +kernel
theorem dX7_see_132 : decode prog_9_method_13_code 132 = .ok (.invokevirtual 102, 3) := by decide +kernel
theorem dX7_see_135 : decode prog_9_method_13_code 135 = .ok (.return_, 1) := by decide +kernel
theorem dX7_see_136 : decode prog_9_method_13_code 136 = .ok (.iconst 0, 1) := by decide +kernel
theorem dX7_see_137 : decode prog_9_method_13_code 137 = .ok (.istore 4, 2) := by decide +kernel
theorem dX7_see_139 : decode prog_9_method_13_code 139 = .ok (.iload 4, 2) := by decide +kernel
theorem dX7_see_141 : decode prog_9_method_13_code 141 = .ok (.iconst 3, 1) := by decide +kernel
theorem dX7_see_142 : decode prog_9_method_13_code 142 = .ok (.if_icmp .ge 60, 3) := by decide +kernel
theorem dX7_see_145 : decode prog_9_method_13_code 145 = .ok (.aload_n 0, 1) := by decide +kernel
theorem dX7_see_146 : decode prog_9_method_13_code 146 = .ok (.iload_n 1, 1) := by decide +kernel
theorem dX7_see_147 : decode prog_9_method_13_code 147 = .ok (.iload_n 3, 1) := by decide +kernel
theorem dX7_see_148 : decode prog_9_method_13_code 148 = .ok (.iload 4, 2) := by decide +kernel
theorem dX7_see_150 : decode prog_9_method_13_code 150 = .ok (.invokevirtual 109, 3) := by decide +kernel
theorem dX7_see_153 : decode prog_9_method_13_code 153 = .ok (.istore 5, 2) := by decide +kernel
theorem dX7_see_155 : decode prog_9_method_13_code 155 = .ok (.iload 5, 2) := by decide +kernel
theorem dX7_see_157 : decode prog_9_method_13_code 157 = .ok (.ifCond .lt 39, 3) := by decide +kernel
theorem dX7_see_160 : decode prog_9_method_13_code 160 = .ok (.aload_n 0, 1) := by decide +kernel
theorem dX7_see_161 : decode prog_9_method_13_code 161 = .ok (.getfield 23, 3) := by decide +kernel
theorem dX7_see_164 : decode prog_9_method_13_code 164 = .ok (.bipush 12, 2) := by decide +kernel
theorem dX7_see_166 : decode prog_9_method_13_code 166 = .ok (.iload_n 1, 1) := by decide +kernel
theorem dX7_see_167 : decode prog_9_method_13_code 167 = .ok (.imul, 1) := by decide +kernel
theorem dX7_see_168 : decode prog_9_method_13_code 168 = .ok (.iload 5, 2) := by decide +kernel
theorem dX7_see_170 : decode prog_9_method_13_code 170 = .ok (.iadd, 1) := by decide +kernel
theorem dX7_see_171 : decode prog_9_method_13_code 171 = .ok (.iaload, 1) := by decide +kernel
theorem dX7_see_172 : decode prog_9_method_13_code 172 = .ok (.iconst 2, 1) := by decide +kernel
theorem dX7_see_173 : decode prog_9_method_13_code 173 = .ok (.if_icmp .lt 23, 3) := by decide +kernel
theorem dX7_see_176 : decode prog_9_method_13_code 176 = .ok (.aload_n 0, 1) := by decide +kernel
theorem dX7_see_177 : decode prog_9_method_13_code 177 = .ok (.getfield 17, 3) := by decide +kernel
theorem dX7_see_180 : decode prog_9_method_13_code 180 = .ok (.bipush 12, 2) := by decide +kernel
theorem dX7_see_182 : decode prog_9_method_13_code 182 = .ok (.iload_n 1, 1) := by decide +kernel
theorem dX7_see_183 : decode prog_9_method_13_code 183 = .ok (.imul, 1) := by decide +kernel
theorem dX7_see_184 : decode prog_9_method_13_code 184 = .ok (.iload 5, 2) := by decide +kernel
theorem dX7_see_186 : decode prog_9_method_13_code 186 = .ok (.iadd, 1) := by decide +kernel
theorem dX7_see_187 : decode prog_9_method_13_code 187 = .ok (.iconst 0, 1) := by decide +kernel
theorem dX7_see_188 : decode prog_9_method_13_code 188 = .ok (.bastore, 1) := by decide +kernel
theorem dX7_see_189 : decode prog_9_method_13_code 189 = .ok (.aload_n 0, 1) := by decide +kernel
theorem dX7_see_190 : decode prog_9_method_13_code 190 = .ok (.iload_n 1, 1) := by decide +kernel
theorem dX7_see_191 : decode prog_9_method_13_code 191 = .ok (.iload_n 2, 1) := by decide +kernel
theorem dX7_see_192 : decode prog_9_method_13_code 192 = .ok (.invokevirtual 102, 3) := by decide +kernel
theorem dX7_see_195 : decode prog_9_method_13_code 195 = .ok (.return_, 1) := by decide +kernel
theorem dX7_see_196 : decode prog_9_method_13_code 196 = .ok (.iinc 4 1, 3) := by decide +kernel
theorem dX7_see_199 : decode prog_9_method_13_code 199 = .ok (.goto (-60), 3) := by decide +kernel
theorem dX7_see_202 : decode prog_9_method_13_code 202 = .ok (.return_, 1) := by decide +kernel
def pX7_see_36_b (N a0 : Nat) (kb : mm_M → Int32 → Int32 → Int32 → Int32 → Option (mm_M × Unit)) (kx : mm_M → Int32 → Int32 → Int32 → Option (mm_M × Unit)) (G : mm_M) (x1 : Int32) (x2 : Int32) (x3 : Int32) (x4 : Int32) : Option (mm_M × Unit) :=
  if (9 : Int32) ≤ x4 then
    kx G x1 x2 x3
  else
    q_gR G a0 8 9 fun r45_9 =>
    q_nn r45_9 fun b49_10 =>
    q_aI G b49_10 101 x1 fun v49_11 =>
    if x3 = v49_11 then
      q_is G a0 8 <|
      q_cl (pX7_held_0 N a0 G x1 x3) fun G v56_13 =>
      if v56_13 < (3 : Int32) then
        kx G x1 x2 x3
      else
        q_gR G a0 8 10 fun r64_14 =>
        q_gR G a0 8 10 fun r76_15 =>
        q_nn r76_15 fun b85_16 =>
        q_aI G b85_16 101 (((9 : Int32) * x1) + x3) fun v85_17 =>
        q_nn r64_14 fun b86_18 =>
        q_sI G b86_18 101 ((((9 : Int32) * x1) + x3) + (1 : Int32)) v85_17 fun G =>
        q_gR G a0 8 9 fun r88_19 =>
        q_gR G a0 8 9 fun r93_20 =>
        q_nn r93_20 fun b97_21 =>
        q_aI G b97_21 101 x1 fun v97_22 =>
        q_nn r88_19 fun b100_23 =>
        q_sI G b100_23 101 x1 (v97_22 + (1 : Int32)) fun G =>
        q_gR G a0 8 4 fun r104_24 =>
        q_nn r104_24 fun b108_25 =>
        q_aI G b108_25 101 x2 fun v108_26 =>
        q_is G a0 8 <|
        q_cl (pX7_bucketOf_0 N a0 G x1 v108_26) fun G v109_28 =>
        kb G x1 x2 v109_28 (x4 + (1 : Int32))
    else
      kx G x1 x2 x3
def pX7_see_36 (N a0 : Nat) (kx : mm_M → Int32 → Int32 → Int32 → Option (mm_M × Unit)) : Nat → mm_M → Int32 → Int32 → Int32 → Int32 → Option (mm_M × Unit)
  | 0 => fun _ _ _ _ _ => none
  | n + 1 => pX7_see_36_b N a0 (pX7_see_36 N a0 kx n) kx
set_option maxRecDepth 100000 in
set_option maxHeartbeats 4000000 in
theorem bX7_see_36 {p : Program} {l : Launch} {e : Env} {s : State} {m : MethodId} {args : Array Value} {below : List Frame} {meth : Method} {c : Code} {E : mm_E} {N a0 : Nat} {res : mm_M × Unit} (X : mm_X p s m args meth c prog_9_method_13_code 6 "XorOverlayModel" tw_T E) (hr : meth.sig.returnType = none) {kx : mm_M → Int32 → Int32 → Int32 → Option (mm_M × Unit)} (hkx : ∀ (G : mm_M) (H : Heap) (locs : List Loc) (ls : Array Slot) (x1 : Int32) (x2 : Int32) (x3 : Int32), mm_V E s G H locs → lx_has ls 6 [(0, .inr (some a0)), (1, .inl x1), (2, .inl x2), (3, .inl x3)] → kx G x1 x2 x3 = some res → W p l e rX7_see s m args below meth c H locs 0 0 (MQ below (mm_Qv E res.1) args s 0 0 (mm_A E)) (F0 m 119 ls [])) :
    ∀ (n : Nat) (G : mm_M) (H : Heap) (locs : List Loc) (ls : Array Slot) (x1 : Int32) (x2 : Int32) (x3 : Int32) (x4 : Int32), mm_V E s G H locs → lx_has ls 6 [(0, .inr (some a0)), (1, .inl x1), (2, .inl x2), (3, .inl x3), (4, .inl x4)] → pX7_see_36 N a0 kx n G x1 x2 x3 x4 = some res → W p l e rX7_see s m args below meth c H locs 0 0 (MQ below (mm_Qv E res.1) args s 0 0 (mm_A E)) (F0 m 36 ls []) := by
  have hx := X.1.1
  have hb := X.1.2.1
  intro n
  induction n with
  | zero =>
    intro G H locs ls x1 x2 x3 x4 V hl hp
    cases hp
  | succ n ih =>
    intro G H locs ls x1 x2 x3 x4 V hl hp
    have hp : pX7_see_36_b N a0 (pX7_see_36 N a0 kx n) kx G x1 x2 x3 x4 = some res := hp
    unfold pX7_see_36_b at hp
    refine x_iload X dX7_see_36 hl 4 rfl ?_
    refine lv_bipush (v := (9 : Int32)) hx hb dX7_see_38 (by decide) ?_
    refine q_if hp (lv_icmp_ge (tgt := 119) hx hb dX7_see_40 (by decide)) (fun hp => ?_) (fun hp => ?_)
    · exact hkx _ _ _ _ _ _ _ V (lx_sub hl [0, 1, 2, 3] rfl) hp
    · refine x_iload_n X dX7_see_43 hl 3 rfl rfl ?_
      refine x_aload_n X dX7_see_44 hl 0 rfl rfl ?_
      refine q_getR (ci := 7) X V inX7 rfl (by decide) rfl 9 (by decide) rfl (tw_3 38 rfl rfl) rfl dX7_see_45 hp (fun r45_9 hp => ?_)
      refine x_iload_n X dX7_see_48 hl 1 rfl rfl ?_
      obtain ⟨b49_10, e0, hp2⟩ := q_nn_of hp
      clear hp; subst e0; have hp := hp2; clear hp2
      refine q_iald X V dX7_see_49 hp (fun v49_11 hp => ?_)
      refine q_ifn hp (lv_icmp_ne (tgt := 119) hx hb dX7_see_50 (by decide)) (fun hp => ?_) (fun hp => ?_)
      · exact hkx _ _ _ _ _ _ _ V (lx_sub hl [0, 1, 2, 3] rfl) hp
      · refine x_aload_n X dX7_see_53 hl 0 rfl rfl ?_
        refine x_iload_n X dX7_see_54 hl 1 rfl rfl ?_
        refine x_iload_n X dX7_see_55 hl 3 rfl rfl ?_
        obtain ⟨hk, hp⟩ := q_is_of hp
        obtain ⟨⟨G, v56_13⟩, hq, hp⟩ := q_cl_of hp
        dsimp only at hp
        refine q_goi (cells' := 0) (slots' := 0) (va_runV (As := [.int x1, .int x3]) (rest := []) X.1 (cX7_held l E hq) (tw_cwV 2 X.1.2.2.2.2 (tw_3 140 rfl rfl) kX7_held.2.1 kX7_held.2.2.1 kX7_held.2.2.2 kX7_held.1 rfl rfl hX7_held ⟨Nat.le_of_ble_eq_true rfl, Nat.le_of_ble_eq_true rfl⟩) (mm_preV X V rfl (by decide) rfl hk) rfl rfl hl.1 rfl (lv_room (Nat.le_of_ble_eq_true rfl)) dX7_see_56 ⟨by decide, by decide⟩) V ⟨rfl, rfl⟩ (fun H locs V => ?_)
        refine lv_iconst (v := (3 : Int32)) hx hb dX7_see_59 (by decide) ?_
        refine q_if hp (lv_icmp_lt (tgt := 119) hx hb dX7_see_60 (by decide)) (fun hp => ?_) (fun hp => ?_)
        · exact hkx _ _ _ _ _ _ _ V (lx_sub hl [0, 1, 2, 3] rfl) hp
        · refine x_aload_n X dX7_see_63 hl 0 rfl rfl ?_
          refine q_getR (ci := 7) X V inX7 rfl (by decide) rfl 10 (by decide) rfl (tw_3 39 rfl rfl) rfl dX7_see_64 hp (fun r64_14 hp => ?_)
          refine lv_bipush (v := (9 : Int32)) hx hb dX7_see_67 (by decide) ?_
          refine x_iload_n X dX7_see_69 hl 1 rfl rfl ?_
          refine lv_imul hx hb dX7_see_70 ?_
          refine x_iload_n X dX7_see_71 hl 3 rfl rfl ?_
          refine lv_iadd hx hb dX7_see_72 ?_
          refine lv_iconst (v := (1 : Int32)) hx hb dX7_see_73 (by decide) ?_
          refine lv_iadd hx hb dX7_see_74 ?_
          refine x_aload_n X dX7_see_75 hl 0 rfl rfl ?_
          refine q_getR (ci := 7) X V inX7 rfl (by decide) rfl 10 (by decide) rfl (tw_3 39 rfl rfl) rfl dX7_see_76 hp (fun r76_15 hp => ?_)
          refine lv_bipush (v := (9 : Int32)) hx hb dX7_see_79 (by decide) ?_
          refine x_iload_n X dX7_see_81 hl 1 rfl rfl ?_
          refine lv_imul hx hb dX7_see_82 ?_
          refine x_iload_n X dX7_see_83 hl 3 rfl rfl ?_
          refine lv_iadd hx hb dX7_see_84 ?_
          obtain ⟨b85_16, e0, hp2⟩ := q_nn_of hp
          clear hp; subst e0; have hp := hp2; clear hp2
          refine q_iald X V dX7_see_85 hp (fun v85_17 hp => ?_)
          obtain ⟨b86_18, e0, hp2⟩ := q_nn_of hp
          clear hp; subst e0; have hp := hp2; clear hp2
          refine q_iast X V dX7_see_86 hp (fun G H locs V hp => ?_)
          refine x_aload_n X dX7_see_87 hl 0 rfl rfl ?_
          refine q_getR (ci := 7) X V inX7 rfl (by decide) rfl 9 (by decide) rfl (tw_3 38 rfl rfl) rfl dX7_see_88 hp (fun r88_19 hp => ?_)
          refine x_iload_n X dX7_see_91 hl 1 rfl rfl ?_
          refine x_aload_n X dX7_see_92 hl 0 rfl rfl ?_
          refine q_getR (ci := 7) X V inX7 rfl (by decide) rfl 9 (by decide) rfl (tw_3 38 rfl rfl) rfl dX7_see_93 hp (fun r93_20 hp => ?_)
          refine x_iload_n X dX7_see_96 hl 1 rfl rfl ?_
          obtain ⟨b97_21, e0, hp2⟩ := q_nn_of hp
          clear hp; subst e0; have hp := hp2; clear hp2
          refine q_iald X V dX7_see_97 hp (fun v97_22 hp => ?_)
          refine lv_iconst (v := (1 : Int32)) hx hb dX7_see_98 (by decide) ?_
          refine lv_iadd hx hb dX7_see_99 ?_
          obtain ⟨b100_23, e0, hp2⟩ := q_nn_of hp
          clear hp; subst e0; have hp := hp2; clear hp2
          refine q_iast X V dX7_see_100 hp (fun G H locs V hp => ?_)
          refine x_aload_n X dX7_see_101 hl 0 rfl rfl ?_
          refine x_iload_n X dX7_see_102 hl 1 rfl rfl ?_
          refine x_aload_n X dX7_see_103 hl 0 rfl rfl ?_
          refine q_getR (ci := 7) X V inX7 rfl (by decide) rfl 4 (by decide) rfl (tw_3 33 rfl rfl) rfl dX7_see_104 hp (fun r104_24 hp => ?_)
          refine x_iload_n X dX7_see_107 hl 2 rfl rfl ?_
          obtain ⟨b108_25, e0, hp2⟩ := q_nn_of hp
          clear hp; subst e0; have hp := hp2; clear hp2
          refine q_iald X V dX7_see_108 hp (fun v108_26 hp => ?_)
          obtain ⟨hk, hp⟩ := q_is_of hp
          obtain ⟨⟨G, v109_28⟩, hq, hp⟩ := q_cl_of hp
          dsimp only at hp
          refine q_goi (cells' := 0) (slots' := 0) (va_runV (As := [.int x1, .int v108_26]) (rest := []) X.1 (cX7_bucketOf l E hq) (tw_cwV 2 X.1.2.2.2.2 (tw_3 136 rfl rfl) kX7_bucketOf.2.1 kX7_bucketOf.2.2.1 kX7_bucketOf.2.2.2 kX7_bucketOf.1 rfl rfl hX7_bucketOf ⟨Nat.le_of_ble_eq_true rfl, Nat.le_of_ble_eq_true rfl⟩) (mm_preV X V rfl (by decide) rfl hk) rfl rfl hl.1 rfl (lv_room (Nat.le_of_ble_eq_true rfl)) dX7_see_109 ⟨by decide, by decide⟩) V ⟨rfl, rfl⟩ (fun H locs V => ?_)
          refine x_istore_n (lst' := [(3, .inl v109_28), (0, .inr (some a0)), (1, .inl x1), (2, .inl x2), (4, .inl x4)]) X dX7_see_112 hl rfl (by decide) rfl (fun ls hl => ?_)
          refine x_iinc (v := (1 : Int32)) (lst' := [(4, .inl (x4 + (1 : Int32))), (3, .inl v109_28), (0, .inr (some a0)), (1, .inl x1), (2, .inl x2)]) X dX7_see_113 hl 4 rfl (by decide) (by decide) rfl (fun ls hl => ?_)
          refine lv_goto (tgt := 36) hx hb dX7_see_116 (by decide) ?_
          exact ih _ _ _ _ _ _ _ _ V (lx_sub hl [2, 3, 4, 1, 0] rfl) hp
def pX7_see_139_b (N a0 : Nat) (kb : mm_M → Int32 → Int32 → Int32 → Int32 → Option (mm_M × Unit)) (kx : mm_M → Option (mm_M × Unit)) (G : mm_M) (x1 : Int32) (x2 : Int32) (x3 : Int32) (x4 : Int32) : Option (mm_M × Unit) :=
  if (3 : Int32) ≤ x4 then
    kx G
  else
    q_is G a0 8 <|
    q_cl (pX7_inOrder_0 N a0 G x1 x3 x4) fun G v150_32 =>
    if v150_32 < 0 then
      kb G x1 x2 x3 (x4 + (1 : Int32))
    else
      q_gR G a0 8 8 fun r161_33 =>
      q_nn r161_33 fun b171_34 =>
      q_aI G b171_34 101 (((12 : Int32) * x1) + v150_32) fun v171_35 =>
      if v171_35 < (2 : Int32) then
        kb G x1 x2 x3 (x4 + (1 : Int32))
      else
        q_gR G a0 8 6 fun r177_36 =>
        q_nn r177_36 fun b188_37 =>
        q_sZ G b188_37 102 (((12 : Int32) * x1) + v150_32) (0 : Int32) fun G =>
        q_is G a0 8 <|
        q_cl (pX7_putLast_0 N a0 G x1 x2) fun G _ =>
        some (G, ())
def pX7_see_139 (N a0 : Nat) (kx : mm_M → Option (mm_M × Unit)) : Nat → mm_M → Int32 → Int32 → Int32 → Int32 → Option (mm_M × Unit)
  | 0 => fun _ _ _ _ _ => none
  | n + 1 => pX7_see_139_b N a0 (pX7_see_139 N a0 kx n) kx
set_option maxRecDepth 100000 in
set_option maxHeartbeats 4000000 in
theorem bX7_see_139 {p : Program} {l : Launch} {e : Env} {s : State} {m : MethodId} {args : Array Value} {below : List Frame} {meth : Method} {c : Code} {E : mm_E} {N a0 : Nat} {res : mm_M × Unit} (X : mm_X p s m args meth c prog_9_method_13_code 6 "XorOverlayModel" tw_T E) (hr : meth.sig.returnType = none) {kx : mm_M → Option (mm_M × Unit)} (hkx : ∀ (G : mm_M) (H : Heap) (locs : List Loc) (ls : Array Slot), mm_V E s G H locs → lx_has ls 6 [(0, .inr (some a0))] → kx G = some res → W p l e rX7_see s m args below meth c H locs 0 0 (MQ below (mm_Qv E res.1) args s 0 0 (mm_A E)) (F0 m 202 ls [])) :
    ∀ (n : Nat) (G : mm_M) (H : Heap) (locs : List Loc) (ls : Array Slot) (x1 : Int32) (x2 : Int32) (x3 : Int32) (x4 : Int32), mm_V E s G H locs → lx_has ls 6 [(0, .inr (some a0)), (1, .inl x1), (2, .inl x2), (3, .inl x3), (4, .inl x4)] → pX7_see_139 N a0 kx n G x1 x2 x3 x4 = some res → W p l e rX7_see s m args below meth c H locs 0 0 (MQ below (mm_Qv E res.1) args s 0 0 (mm_A E)) (F0 m 139 ls []) := by
  have hx := X.1.1
  have hb := X.1.2.1
  intro n
  induction n with
  | zero =>
    intro G H locs ls x1 x2 x3 x4 V hl hp
    cases hp
  | succ n ih =>
    intro G H locs ls x1 x2 x3 x4 V hl hp
    have hp : pX7_see_139_b N a0 (pX7_see_139 N a0 kx n) kx G x1 x2 x3 x4 = some res := hp
    unfold pX7_see_139_b at hp
    refine x_iload X dX7_see_139 hl 4 rfl ?_
    refine lv_iconst (v := (3 : Int32)) hx hb dX7_see_141 (by decide) ?_
    refine q_if hp (lv_icmp_ge (tgt := 202) hx hb dX7_see_142 (by decide)) (fun hp => ?_) (fun hp => ?_)
    · exact hkx _ _ _ _ V (lx_sub hl [0] rfl) hp
    · refine x_aload_n X dX7_see_145 hl 0 rfl rfl ?_
      refine x_iload_n X dX7_see_146 hl 1 rfl rfl ?_
      refine x_iload_n X dX7_see_147 hl 3 rfl rfl ?_
      refine x_iload X dX7_see_148 hl 4 rfl ?_
      obtain ⟨hk, hp⟩ := q_is_of hp
      obtain ⟨⟨G, v150_32⟩, hq, hp⟩ := q_cl_of hp
      dsimp only at hp
      refine q_goi (cells' := 0) (slots' := 0) (va_runV (As := [.int x1, .int x3, .int x4]) (rest := []) X.1 (cX7_inOrder l E hq) (tw_cwV 3 X.1.2.2.2.2 (tw_3 148 rfl rfl) kX7_inOrder.2.1 kX7_inOrder.2.2.1 kX7_inOrder.2.2.2 kX7_inOrder.1 rfl rfl hX7_inOrder ⟨Nat.le_of_ble_eq_true rfl, Nat.le_of_ble_eq_true rfl⟩) (mm_preV X V rfl (by decide) rfl hk) rfl rfl hl.1 rfl (lv_room (Nat.le_of_ble_eq_true rfl)) dX7_see_150 ⟨by decide, by decide⟩) V ⟨rfl, rfl⟩ (fun H locs V => ?_)
      refine x_istore (lst' := [(5, .inl v150_32), (0, .inr (some a0)), (1, .inl x1), (2, .inl x2), (3, .inl x3), (4, .inl x4)]) X dX7_see_153 hl (by decide) rfl (fun ls hl => ?_)
      refine x_iload X dX7_see_155 hl 0 rfl ?_
      refine q_if hp (lv_if_lt (tgt := 196) hx hb dX7_see_157 (by decide)) (fun hp => ?_) (fun hp => ?_)
      · refine x_iinc (v := (1 : Int32)) (lst' := [(4, .inl (x4 + (1 : Int32))), (5, .inl v150_32), (0, .inr (some a0)), (1, .inl x1), (2, .inl x2), (3, .inl x3)]) X dX7_see_196 hl 5 rfl (by decide) (by decide) rfl (fun ls hl => ?_)
        refine lv_goto (tgt := 139) hx hb dX7_see_199 (by decide) ?_
        exact ih _ _ _ _ _ _ _ _ V (lx_sub hl [2, 3, 4, 5, 0] rfl) hp
      · refine x_aload_n X dX7_see_160 hl 1 rfl rfl ?_
        refine q_getR (ci := 7) X V inX7 rfl (by decide) rfl 8 (by decide) rfl (tw_3 37 rfl rfl) rfl dX7_see_161 hp (fun r161_33 hp => ?_)
        refine lv_bipush (v := (12 : Int32)) hx hb dX7_see_164 (by decide) ?_
        refine x_iload_n X dX7_see_166 hl 2 rfl rfl ?_
        refine lv_imul hx hb dX7_see_167 ?_
        refine x_iload X dX7_see_168 hl 0 rfl ?_
        refine lv_iadd hx hb dX7_see_170 ?_
        obtain ⟨b171_34, e0, hp2⟩ := q_nn_of hp
        clear hp; subst e0; have hp := hp2; clear hp2
        refine q_iald X V dX7_see_171 hp (fun v171_35 hp => ?_)
        refine lv_iconst (v := (2 : Int32)) hx hb dX7_see_172 (by decide) ?_
        refine q_if hp (lv_icmp_lt (tgt := 196) hx hb dX7_see_173 (by decide)) (fun hp => ?_) (fun hp => ?_)
        · refine x_iinc (v := (1 : Int32)) (lst' := [(4, .inl (x4 + (1 : Int32))), (5, .inl v150_32), (0, .inr (some a0)), (1, .inl x1), (2, .inl x2), (3, .inl x3)]) X dX7_see_196 hl 5 rfl (by decide) (by decide) rfl (fun ls hl => ?_)
          refine lv_goto (tgt := 139) hx hb dX7_see_199 (by decide) ?_
          exact ih _ _ _ _ _ _ _ _ V (lx_sub hl [2, 3, 4, 5, 0] rfl) hp
        · refine x_aload_n X dX7_see_176 hl 1 rfl rfl ?_
          refine q_getR (ci := 7) X V inX7 rfl (by decide) rfl 6 (by decide) rfl (tw_3 35 rfl rfl) rfl dX7_see_177 hp (fun r177_36 hp => ?_)
          refine lv_bipush (v := (12 : Int32)) hx hb dX7_see_180 (by decide) ?_
          refine x_iload_n X dX7_see_182 hl 2 rfl rfl ?_
          refine lv_imul hx hb dX7_see_183 ?_
          refine x_iload X dX7_see_184 hl 0 rfl ?_
          refine lv_iadd hx hb dX7_see_186 ?_
          refine lv_iconst (v := (0 : Int32)) hx hb dX7_see_187 (by decide) ?_
          obtain ⟨b188_37, e0, hp2⟩ := q_nn_of hp
          clear hp; subst e0; have hp := hp2; clear hp2
          refine q_zast X V dX7_see_188 hp (fun G H locs V hp => ?_)
          refine x_aload_n X dX7_see_189 hl 1 rfl rfl ?_
          refine x_iload_n X dX7_see_190 hl 2 rfl rfl ?_
          refine x_iload_n X dX7_see_191 hl 3 rfl rfl ?_
          obtain ⟨hk, hp⟩ := q_is_of hp
          obtain ⟨⟨G, u⟩, hq, hp⟩ := q_cl_of hp
          dsimp only at hp
          refine q_gov (cells' := 0) (slots' := 0) (va_runV (As := [.int x1, .int x2]) (rest := []) X.1 (cX7_putLast l E hq) (tw_cwV 2 X.1.2.2.2.2 (tw_3 132 rfl rfl) kX7_putLast.2.1 kX7_putLast.2.2.1 kX7_putLast.2.2.2 kX7_putLast.1 rfl rfl hX7_putLast ⟨Nat.le_of_ble_eq_true rfl, Nat.le_of_ble_eq_true rfl⟩) (mm_preV X V rfl (by decide) rfl hk) rfl rfl hl.1 rfl (lv_room (Nat.le_of_ble_eq_true rfl)) dX7_see_192 ⟨by decide, by decide⟩) V ⟨rfl, rfl⟩ (fun H locs V => ?_)
          exact q_vret X V hr ⟨by decide, by decide⟩ dX7_see_195 hp
def pX7_see_0 (N a0 : Nat) (G : mm_M) (x1 : Int32) (x2 : Int32) : Option (mm_M × Unit) :=
  q_gR G a0 8 6 fun r1_1 =>
  q_nn r1_1 fun b10_2 =>
  q_aI G b10_2 102 (((12 : Int32) * x1) + x2) fun v10_3 =>
  if v10_3 = 0 then
    q_gR G a0 8 4 fun r24_4 =>
    q_nn r24_4 fun b28_5 =>
    q_aI G b28_5 101 x2 fun v28_6 =>
    q_is G a0 8 <|
    q_cl (pX7_bucketOf_0 N a0 G x1 v28_6) fun G v29_8 =>
    pX7_see_36 N a0 (fun (G : mm_M) (x1 : Int32) (x2 : Int32) (x3 : Int32) =>
      q_is G a0 8 <|
      q_cl (pX7_held_0 N a0 G x1 x3) fun G v122_30 =>
      if (3 : Int32) ≤ v122_30 then
        pX7_see_139 N a0 (fun (G : mm_M) =>
          some (G, ())) N G x1 x2 x3 (0 : Int32)
      else
        q_is G a0 8 <|
        q_cl (pX7_putLast_0 N a0 G x1 x2) fun G _ =>
        some (G, ())) N G x1 x2 v29_8 (0 : Int32)
  else
    q_is G a0 8 <|
    q_cl (pX7_putLast_0 N a0 G x1 x2) fun G _ =>
    some (G, ())
set_option maxRecDepth 100000 in
set_option maxHeartbeats 4000000 in
theorem bX7_see_0 {p : Program} {l : Launch} {e : Env} {s : State} {m : MethodId} {args : Array Value} {below : List Frame} {meth : Method} {c : Code} {E : mm_E} {N a0 : Nat} {res : mm_M × Unit} (X : mm_X p s m args meth c prog_9_method_13_code 6 "XorOverlayModel" tw_T E) (hr : meth.sig.returnType = none) {G : mm_M} {H : Heap} {locs : List Loc} {ls : Array Slot} {x1 : Int32} {x2 : Int32} (V : mm_V E s G H locs) (hl : lx_has ls 6 [(0, .inr (some a0)), (1, .inl x1), (2, .inl x2)]) (hp : pX7_see_0 N a0 G x1 x2 = some res) : W p l e rX7_see s m args below meth c H locs 0 0 (MQ below (mm_Qv E res.1) args s 0 0 (mm_A E)) (F0 m 0 ls []) := by
  have hx := X.1.1
  have hb := X.1.2.1
  unfold pX7_see_0 at hp
  refine x_aload_n X dX7_see_0 hl 0 rfl rfl ?_
  refine q_getR (ci := 7) X V inX7 rfl (by decide) rfl 6 (by decide) rfl (tw_3 35 rfl rfl) rfl dX7_see_1 hp (fun r1_1 hp => ?_)
  refine lv_bipush (v := (12 : Int32)) hx hb dX7_see_4 (by decide) ?_
  refine x_iload_n X dX7_see_6 hl 1 rfl rfl ?_
  refine lv_imul hx hb dX7_see_7 ?_
  refine x_iload_n X dX7_see_8 hl 2 rfl rfl ?_
  refine lv_iadd hx hb dX7_see_9 ?_
  obtain ⟨b10_2, e0, hp2⟩ := q_nn_of hp
  clear hp; subst e0; have hp := hp2; clear hp2
  refine q_zald X V dX7_see_10 hp (fun v10_3 hp => ?_)
  refine q_if hp (lv_if_eq (tgt := 21) hx hb dX7_see_11 (by decide)) (fun hp => ?_) (fun hp => ?_)
  · refine x_aload_n X dX7_see_21 hl 0 rfl rfl ?_
    refine x_iload_n X dX7_see_22 hl 1 rfl rfl ?_
    refine x_aload_n X dX7_see_23 hl 0 rfl rfl ?_
    refine q_getR (ci := 7) X V inX7 rfl (by decide) rfl 4 (by decide) rfl (tw_3 33 rfl rfl) rfl dX7_see_24 hp (fun r24_4 hp => ?_)
    refine x_iload_n X dX7_see_27 hl 2 rfl rfl ?_
    obtain ⟨b28_5, e0, hp2⟩ := q_nn_of hp
    clear hp; subst e0; have hp := hp2; clear hp2
    refine q_iald X V dX7_see_28 hp (fun v28_6 hp => ?_)
    obtain ⟨hk, hp⟩ := q_is_of hp
    obtain ⟨⟨G, v29_8⟩, hq, hp⟩ := q_cl_of hp
    dsimp only at hp
    refine q_goi (cells' := 0) (slots' := 0) (va_runV (As := [.int x1, .int v28_6]) (rest := []) X.1 (cX7_bucketOf l E hq) (tw_cwV 2 X.1.2.2.2.2 (tw_3 136 rfl rfl) kX7_bucketOf.2.1 kX7_bucketOf.2.2.1 kX7_bucketOf.2.2.2 kX7_bucketOf.1 rfl rfl hX7_bucketOf ⟨Nat.le_of_ble_eq_true rfl, Nat.le_of_ble_eq_true rfl⟩) (mm_preV X V rfl (by decide) rfl hk) rfl rfl hl.1 rfl (lv_room (Nat.le_of_ble_eq_true rfl)) dX7_see_29 ⟨by decide, by decide⟩) V ⟨rfl, rfl⟩ (fun H locs V => ?_)
    refine x_istore_n (lst' := [(3, .inl v29_8), (0, .inr (some a0)), (1, .inl x1), (2, .inl x2)]) X dX7_see_32 hl rfl (by decide) rfl (fun ls hl => ?_)
    refine lv_iconst (v := (0 : Int32)) hx hb dX7_see_33 (by decide) ?_
    refine x_istore (lst' := [(4, .inl (0 : Int32)), (3, .inl v29_8), (0, .inr (some a0)), (1, .inl x1), (2, .inl x2)]) X dX7_see_34 hl (by decide) rfl (fun ls hl => ?_)
    refine bX7_see_36 X hr (fun G H locs ls x1 x2 x3 V hl hp => ?_) _ _ _ _ _ _ _ _ _ V (lx_sub hl [2, 3, 4, 1, 0] rfl) hp
    refine x_aload_n X dX7_see_119 hl 0 rfl rfl ?_
    refine x_iload_n X dX7_see_120 hl 1 rfl rfl ?_
    refine x_iload_n X dX7_see_121 hl 3 rfl rfl ?_
    obtain ⟨hk, hp⟩ := q_is_of hp
    obtain ⟨⟨G, v122_30⟩, hq, hp⟩ := q_cl_of hp
    dsimp only at hp
    refine q_goi (cells' := 0) (slots' := 0) (va_runV (As := [.int x1, .int x3]) (rest := []) X.1 (cX7_held l E hq) (tw_cwV 2 X.1.2.2.2.2 (tw_3 140 rfl rfl) kX7_held.2.1 kX7_held.2.2.1 kX7_held.2.2.2 kX7_held.1 rfl rfl hX7_held ⟨Nat.le_of_ble_eq_true rfl, Nat.le_of_ble_eq_true rfl⟩) (mm_preV X V rfl (by decide) rfl hk) rfl rfl hl.1 rfl (lv_room (Nat.le_of_ble_eq_true rfl)) dX7_see_122 ⟨by decide, by decide⟩) V ⟨rfl, rfl⟩ (fun H locs V => ?_)
    refine lv_iconst (v := (3 : Int32)) hx hb dX7_see_125 (by decide) ?_
    refine q_if hp (lv_icmp_ge (tgt := 136) hx hb dX7_see_126 (by decide)) (fun hp => ?_) (fun hp => ?_)
    · refine lv_iconst (v := (0 : Int32)) hx hb dX7_see_136 (by decide) ?_
      refine x_istore (lst' := [(4, .inl (0 : Int32)), (0, .inr (some a0)), (1, .inl x1), (2, .inl x2), (3, .inl x3)]) X dX7_see_137 hl (by decide) rfl (fun ls hl => ?_)
      refine bX7_see_139 X hr (fun G H locs ls V hl hp => ?_) _ _ _ _ _ _ _ _ _ V (lx_sub hl [1, 2, 3, 4, 0] rfl) hp
      exact q_vret X V hr ⟨by decide, by decide⟩ dX7_see_202 hp
    · refine x_aload_n X dX7_see_129 hl 0 rfl rfl ?_
      refine x_iload_n X dX7_see_130 hl 1 rfl rfl ?_
      refine x_iload_n X dX7_see_131 hl 2 rfl rfl ?_
      obtain ⟨hk, hp⟩ := q_is_of hp
      obtain ⟨⟨G, u⟩, hq, hp⟩ := q_cl_of hp
      dsimp only at hp
      refine q_gov (cells' := 0) (slots' := 0) (va_runV (As := [.int x1, .int x2]) (rest := []) X.1 (cX7_putLast l E hq) (tw_cwV 2 X.1.2.2.2.2 (tw_3 132 rfl rfl) kX7_putLast.2.1 kX7_putLast.2.2.1 kX7_putLast.2.2.2 kX7_putLast.1 rfl rfl hX7_putLast ⟨Nat.le_of_ble_eq_true rfl, Nat.le_of_ble_eq_true rfl⟩) (mm_preV X V rfl (by decide) rfl hk) rfl rfl hl.1 rfl (lv_room (Nat.le_of_ble_eq_true rfl)) dX7_see_132 ⟨by decide, by decide⟩) V ⟨rfl, rfl⟩ (fun H locs V => ?_)
      exact q_vret X V hr ⟨by decide, by decide⟩ dX7_see_135 hp
  · refine x_aload_n X dX7_see_14 hl 0 rfl rfl ?_
    refine x_iload_n X dX7_see_15 hl 1 rfl rfl ?_
    refine x_iload_n X dX7_see_16 hl 2 rfl rfl ?_
    obtain ⟨hk, hp⟩ := q_is_of hp
    obtain ⟨⟨G, u⟩, hq, hp⟩ := q_cl_of hp
    dsimp only at hp
    refine q_gov (cells' := 0) (slots' := 0) (va_runV (As := [.int x1, .int x2]) (rest := []) X.1 (cX7_putLast l E hq) (tw_cwV 2 X.1.2.2.2.2 (tw_3 132 rfl rfl) kX7_putLast.2.1 kX7_putLast.2.2.1 kX7_putLast.2.2.2 kX7_putLast.1 rfl rfl hX7_putLast ⟨Nat.le_of_ble_eq_true rfl, Nat.le_of_ble_eq_true rfl⟩) (mm_preV X V rfl (by decide) rfl hk) rfl rfl hl.1 rfl (lv_room (Nat.le_of_ble_eq_true rfl)) dX7_see_17 ⟨by decide, by decide⟩) V ⟨rfl, rfl⟩ (fun H locs V => ?_)
    exact q_vret X V hr ⟨by decide, by decide⟩ dX7_see_20 hp
theorem cX7_see (l : Launch) (E : mm_E) {N a0 : Nat} {G : mm_M} {x1 : Int32} {x2 : Int32} {res : mm_M × Unit} (hp : pX7_see_0 N a0 G x1 x2 = some res) : Met l yX7_see (Cond.code yX7_see prog_9_method_13_code 6 none :: tw_T) rX7_see (mm_Pc E G [.ref a0, .int x1, .int x2]) (mm_Qv E res.1) 0 0 (mm_A E) :=
  mm_met (own := "XorOverlayModel") E G [.inr (some a0), .inl x1, .inl x2] (by decide) rfl rfl (Nat.le_of_ble_eq_true rfl) (fun p e s m args below meth c ls X hr hi V hl => bX7_see_0 X hr V hl hp)
