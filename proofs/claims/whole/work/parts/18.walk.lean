abbrev yX7_inRank : MethodName := ⟨"XorOverlayModel", "inRank", "(II)I"⟩
abbrev rX7_inRank : Room := { frames := 0, cells := 0, slots := 0, locals := 0 }
theorem kX7_inRank : Cond.code yX7_inRank prog_9_method_23_code 7 (Option.some .int) ∈ tw_T ∧ Cond.instanceMethod yX7_inRank ∈ tw_T ∧ Cond.selects "XorOverlayModel" yX7_inRank yX7_inRank ∈ tw_T ∧ Cond.initialized "XorOverlayModel" ∈ tw_T := ⟨(tw_3 175 rfl rfl), (tw_3 174 rfl rfl), (tw_s 32 rfl rfl), (tw_1 3 rfl rfl)⟩
theorem hX7_inRank : yX7_inRank.cls = "XorOverlayModel" ∧ yX7_inRank.cls ≠ "java/lang/invoke/MethodHandle" ∧ yX7_inRank.cls ≠ "java/lang/invoke/VarHandle" ∧ (parseMethodDescriptor yX7_inRank.desc).map (fun d => d.parameters.length) = some 2 := by decide +kernel
theorem dX7_inRank_0 : decode prog_9_method_23_code 0 = .ok (.iconst 0, 1) := by decide +kernel
theorem dX7_inRank_1 : decode prog_9_method_23_code 1 = .ok (.istore_n 3, 1) := by decide +kernel
theorem dX7_inRank_2 : decode prog_9_method_23_code 2 = .ok (.iload_n 3, 1) := by decide +kernel
theorem dX7_inRank_3 : decode prog_9_method_23_code 3 = .ok (.aload_n 0, 1) := by decide +kernel
theorem dX7_inRank_4 : decode prog_9_method_23_code 4 = .ok (.getfield 77, 3) := by decide +kernel
theorem dX7_inRank_7 : decode prog_9_method_23_code 7 = .ok (.if_icmp .ge 120, 3) := by decide +kernel
theorem dX7_inRank_10 : decode prog_9_method_23_code 10 = .ok (.iconst 0, 1) := by decide +kernel
theorem dX7_inRank_11 : decode prog_9_method_23_code 11 = .ok (.istore 4, 2) := by decide +kernel
theorem dX7_inRank_13 : decode prog_9_method_23_code 13 = .ok (.iconst 0, 1) := by decide +kernel
theorem dX7_inRank_14 : decode prog_9_method_23_code 14 = .ok (.istore 5, 2) := by decide +kernel
theorem dX7_inRank_16 : decode prog_9_method_23_code 16 = .ok (.iload 5, 2) := by decide +kernel
theorem dX7_inRank_18 : decode prog_9_method_23_code 18 = .ok (.aload_n 0, 1) := by decide +kernel
theorem dX7_inRank_19 : decode prog_9_method_23_code 19 = .ok (.getfield 77, 3) := by decide +kernel
theorem dX7_inRank_22 : decode prog_9_method_23_code 22 = .ok (.if_icmp .ge 77, 3) := by decide +kernel
theorem dX7_inRank_25 : decode prog_9_method_23_code 25 = .ok (.aload_n 0, 1) := by decide +kernel
theorem dX7_inRank_26 : decode prog_9_method_23_code 26 = .ok (.getfield 56, 3) := by decide +kernel
theorem dX7_inRank_29 : decode prog_9_method_23_code 29 = .ok (.bipush 12, 2) := by decide +kernel
theorem dX7_inRank_31 : decode prog_9_method_23_code 31 = .ok (.iload_n 1, 1) := by decide +kernel
theorem dX7_inRank_32 : decode prog_9_method_23_code 32 = .ok (.imul, 1) := by decide +kernel
theorem dX7_inRank_33 : decode prog_9_method_23_code 33 = .ok (.iload 5, 2) := by decide +kernel
theorem dX7_inRank_35 : decode prog_9_method_23_code 35 = .ok (.iadd, 1) := by decide +kernel
theorem dX7_inRank_36 : decode prog_9_method_23_code 36 = .ok (.iaload, 1) := by decide +kernel
theorem dX7_inRank_37 : decode prog_9_method_23_code 37 = .ok (.ifCond .le 37, 3) := by decide +kernel
theorem dX7_inRank_40 : decode prog_9_method_23_code 40 = .ok (.aload_n 0, 1) := by decide +kernel
theorem dX7_inRank_41 : decode prog_9_method_23_code 41 = .ok (.getfield 7, 3) := by decide +kernel
theorem dX7_inRank_44 : decode prog_9_method_23_code 44 = .ok (.iload 5, 2) := by decide +kernel
theorem dX7_inRank_46 : decode prog_9_method_23_code 46 = .ok (.iaload, 1) := by decide +kernel
theorem dX7_inRank_47 : decode prog_9_method_23_code 47 = .ok (.aload_n 0, 1) := by decide +kernel
theorem dX7_inRank_48 : decode prog_9_method_23_code 48 = .ok (.getfield 50, 3) := by decide +kernel
theorem dX7_inRank_51 : decode prog_9_method_23_code 51 = .ok (.iload_n 1, 1) := by decide +kernel
theorem dX7_inRank_52 : decode prog_9_method_23_code 52 = .ok (.iaload, 1) := by decide +kernel
theorem dX7_inRank_53 : decode prog_9_method_23_code 53 = .ok (.ixor, 1) := by decide +kernel
theorem dX7_inRank_54 : decode prog_9_method_23_code 54 = .ok (.aload_n 0, 1) := by decide +kernel
theorem dX7_inRank_55 : decode prog_9_method_23_code 55 = .ok (.getfield 7, 3) := by decide +kernel
theorem dX7_inRank_58 : decode prog_9_method_23_code 58 = .ok (.iload_n 3, 1) := by decide +kernel
theorem dX7_inRank_59 : decode prog_9_method_23_code 59 = .ok (.iaload, 1) := by decide +kernel
theorem dX7_inRank_60 : decode prog_9_method_23_code 60 = .ok (.aload_n 0, 1) := by decide +kernel
theorem dX7_inRank_61 : decode prog_9_method_23_code 61 = .ok (.getfield 50, 3) := by decide +kernel
theorem dX7_inRank_64 : decode prog_9_method_23_code 64 = .ok (.iload_n 1, 1) := by decide +kernel
theorem dX7_inRank_65 : decode prog_9_method_23_code 65 = .ok (.iaload, 1) := by decide +kernel
theorem dX7_inRank_66 : decode prog_9_method_23_code 66 = .ok (.ixor, 1) := by decide +kernel
theorem dX7_inRank_67 : decode prog_9_method_23_code 67 = .ok (.if_icmp .ge 7, 3) := by decide +kernel
theorem dX7_inRank_70 : decode prog_9_method_23_code 70 = .ok (.iconst 1, 1) := by decide +kernel
theorem dX7_inRank_71 : decode prog_9_method_23_code 71 = .ok (.goto 4, 3) := by decide +kernel
theorem dX7_inRank_74 : decode prog_9_method_23_code 74 = .ok (.iconst 0, 1) := by decide +kernel
theorem dX7_inRank_75 : decode prog_9_method_23_code 75 = .ok (.istore 6, 2) := by decide +kernel
theorem dX7_inRank_77 : decode prog_9_method_23_code 77 = .ok (.iload 6, 2) := by decide +kernel
theorem dX7_inRank_79 : decode prog_9_method_23_code 79 = .ok (.ifCond .eq 10, 3) := by decide +kernel
theorem dX7_inRank_82 : decode prog_9_method_23_code 82 = .ok (.iload 4, 2) := by decide +kernel
theorem dX7_inRank_84 : decode prog_9_method_23_code 84 = .ok (.iconst 1, 1) := by decide +kernel
theorem dX7_inRank_85 : decode prog_9_method_23_code 85 = .ok (.iadd, 1) := by decide +kernel
theorem dX7_inRank_86 : decode prog_9_method_23_code 86 = .ok (.goto 5, 3) := by decide +kernel
theorem dX7_inRank_89 : decode prog_9_method_23_code 89 = .ok (.iload 4, 2) := by decide +kernel
theorem dX7_inRank_91 : decode prog_9_method_23_code 91 = .ok (.istore 4, 2) := by decide +kernel
theorem dX7_inRank_93 : decode prog_9_method_23_code 93 = .ok (.iinc 5 1, 3) := by decide +kernel
theorem dX7_inRank_96 : decode prog_9_method_23_code 96 = .ok (.goto (-80), 3) := by decide +kernel
theorem dX7_inRank_99 : decode prog_9_method_23_code 99 = .ok (.aload_n 0, 1) := by decide +kernel
theorem dX7_inRank_100 : decode prog_9_method_23_code 100 = .ok (.getfield 56, 3) := by decide +kernel
theorem dX7_inRank_103 : decode prog_9_method_23_code 103 = .ok (.bipush 12, 2) := by decide +kernel
theorem dX7_inRank_105 : decode prog_9_method_23_code 105 = .ok (.iload_n 1, 1) := by decide +kernel
theorem dX7_inRank_106 : decode prog_9_method_23_code 106 = .ok (.imul, 1) := by decide +kernel
theorem dX7_inRank_107 : decode prog_9_method_23_code 107 = .ok (.iload_n 3, 1) := by decide +kernel
theorem dX7_inRank_108 : decode prog_9_method_23_code 108 = .ok (.iadd, 1) := by decide +kernel
theorem dX7_inRank_109 : decode prog_9_method_23_code 109 = .ok (.iaload, 1) := by decide +kernel
theorem dX7_inRank_110 : decode prog_9_method_23_code 110 = .ok (.ifCond .le 11, 3) := by decide +kernel
theorem dX7_inRank_113 : decode prog_9_method_23_code 113 = .ok (.iload 4, 2) := by decide +kernel
theorem dX7_inRank_115 : decode prog_9_method_23_code 115 = .ok (.iload_n 2, 1) := by decide +kernel
theorem dX7_inRank_116 : decode prog_9_method_23_code 116 = .ok (.if_icmp .ne 5, 3) := by decide +kernel
theorem dX7_inRank_119 : decode prog_9_method_23_code 119 = .ok (.iload_n 3, 1) := by decide +kernel
theorem dX7_inRank_120 : decode prog_9_method_23_code 120 = .ok (.ireturn, 1) := by decide +kernel
theorem dX7_inRank_121 : decode prog_9_method_23_code 121 = .ok (.iinc 3 1, 3) := by decide +kernel
theorem dX7_inRank_124 : decode prog_9_method_23_code 124 = .ok (.goto (-122), 3) := by decide +kernel
theorem dX7_inRank_127 : decode prog_9_method_23_code 127 = .ok (.iconst (-1), 1) := by decide +kernel
theorem dX7_inRank_128 : decode prog_9_method_23_code 128 = .ok (.ireturn, 1) := by decide +kernel
def pX7_inRank_75 (N a0 : Nat) (kb : mm_M → Int32 → Int32 → Int32 → Int32 → Int32 → Option (mm_M × Int32)) (kx : mm_M → Int32 → Int32 → Int32 → Int32 → Option (mm_M × Int32)) (G : mm_M) (x1 : Int32) (x2 : Int32) (x3 : Int32) (x4 : Int32) (x5 : Int32) (s0 : Int32) : Option (mm_M × Int32) :=
  if s0 = 0 then
    kb G x1 x2 x3 x4 (x5 + (1 : Int32))
  else
    kb G x1 x2 x3 (x4 + (1 : Int32)) (x5 + (1 : Int32))
set_option maxRecDepth 100000 in
set_option maxHeartbeats 4000000 in
theorem bX7_inRank_75 {p : Program} {l : Launch} {e : Env} {s : State} {m : MethodId} {args : Array Value} {below : List Frame} {meth : Method} {c : Code} {E : mm_E} {N a0 : Nat} {res : mm_M × Int32} (X : mm_X p s m args meth c prog_9_method_23_code 7 "XorOverlayModel" tw_T E) (hr : meth.sig.returnType = (Option.some .int)) {kb : mm_M → Int32 → Int32 → Int32 → Int32 → Int32 → Option (mm_M × Int32)} {kx : mm_M → Int32 → Int32 → Int32 → Int32 → Option (mm_M × Int32)} (ih : ∀ (G : mm_M) (H : Heap) (locs : List Loc) (ls : Array Slot) (x1 : Int32) (x2 : Int32) (x3 : Int32) (x4 : Int32) (x5 : Int32), mm_V E s G H locs → lx_has ls 7 [(0, .inr (some a0)), (1, .inl x1), (2, .inl x2), (3, .inl x3), (4, .inl x4), (5, .inl x5)] → kb G x1 x2 x3 x4 x5 = some res → W p l e rX7_inRank s m args below meth c H locs 0 0 (MQ below (mm_Qi E res.1 res.2) args s 0 0 (mm_A E)) (F0 m 16 ls [])) (hkx : ∀ (G : mm_M) (H : Heap) (locs : List Loc) (ls : Array Slot) (x1 : Int32) (x2 : Int32) (x3 : Int32) (x4 : Int32), mm_V E s G H locs → lx_has ls 7 [(0, .inr (some a0)), (1, .inl x1), (2, .inl x2), (3, .inl x3), (4, .inl x4)] → kx G x1 x2 x3 x4 = some res → W p l e rX7_inRank s m args below meth c H locs 0 0 (MQ below (mm_Qi E res.1 res.2) args s 0 0 (mm_A E)) (F0 m 99 ls [])) {G : mm_M} {H : Heap} {locs : List Loc} {ls : Array Slot} {x1 : Int32} {x2 : Int32} {x3 : Int32} {x4 : Int32} {x5 : Int32} {s0 : Int32} (V : mm_V E s G H locs) (hl : lx_has ls 7 [(0, .inr (some a0)), (1, .inl x1), (2, .inl x2), (3, .inl x3), (4, .inl x4), (5, .inl x5)]) (hp : pX7_inRank_75 N a0 kb kx G x1 x2 x3 x4 x5 s0 = some res) : W p l e rX7_inRank s m args below meth c H locs 0 0 (MQ below (mm_Qi E res.1 res.2) args s 0 0 (mm_A E)) (F0 m 75 ls [.int s0]) := by
  have hx := X.1.1
  have hb := X.1.2.1
  unfold pX7_inRank_75 at hp
  refine x_istore (lst' := [(6, .inl s0), (0, .inr (some a0)), (1, .inl x1), (2, .inl x2), (3, .inl x3), (4, .inl x4), (5, .inl x5)]) X dX7_inRank_75 hl (by decide) rfl (fun ls hl => ?_)
  refine x_iload X dX7_inRank_77 hl 0 rfl ?_
  refine q_if hp (lv_if_eq (tgt := 89) hx hb dX7_inRank_79 (by decide)) (fun hp => ?_) (fun hp => ?_)
  · refine x_iload X dX7_inRank_89 hl 5 rfl ?_
    refine x_istore (lst' := [(4, .inl x4), (6, .inl s0), (0, .inr (some a0)), (1, .inl x1), (2, .inl x2), (3, .inl x3), (5, .inl x5)]) X dX7_inRank_91 hl (by decide) rfl (fun ls hl => ?_)
    refine x_iinc (v := (1 : Int32)) (lst' := [(5, .inl (x5 + (1 : Int32))), (4, .inl x4), (6, .inl s0), (0, .inr (some a0)), (1, .inl x1), (2, .inl x2), (3, .inl x3)]) X dX7_inRank_93 hl 6 rfl (by decide) (by decide) rfl (fun ls hl => ?_)
    refine lv_goto (tgt := 16) hx hb dX7_inRank_96 (by decide) ?_
    exact ih _ _ _ _ _ _ _ _ _ V (lx_sub hl [3, 4, 5, 6, 1, 0] rfl) hp
  · refine x_iload X dX7_inRank_82 hl 5 rfl ?_
    refine lv_iconst (v := (1 : Int32)) hx hb dX7_inRank_84 (by decide) ?_
    refine lv_iadd hx hb dX7_inRank_85 ?_
    refine lv_goto (tgt := 91) hx hb dX7_inRank_86 (by decide) ?_
    refine x_istore (lst' := [(4, .inl (x4 + (1 : Int32))), (6, .inl s0), (0, .inr (some a0)), (1, .inl x1), (2, .inl x2), (3, .inl x3), (5, .inl x5)]) X dX7_inRank_91 hl (by decide) rfl (fun ls hl => ?_)
    refine x_iinc (v := (1 : Int32)) (lst' := [(5, .inl (x5 + (1 : Int32))), (4, .inl (x4 + (1 : Int32))), (6, .inl s0), (0, .inr (some a0)), (1, .inl x1), (2, .inl x2), (3, .inl x3)]) X dX7_inRank_93 hl 6 rfl (by decide) (by decide) rfl (fun ls hl => ?_)
    refine lv_goto (tgt := 16) hx hb dX7_inRank_96 (by decide) ?_
    exact ih _ _ _ _ _ _ _ _ _ V (lx_sub hl [3, 4, 5, 6, 1, 0] rfl) hp
def pX7_inRank_74 (N a0 : Nat) (kb : mm_M → Int32 → Int32 → Int32 → Int32 → Int32 → Option (mm_M × Int32)) (kx : mm_M → Int32 → Int32 → Int32 → Int32 → Option (mm_M × Int32)) (G : mm_M) (x1 : Int32) (x2 : Int32) (x3 : Int32) (x4 : Int32) (x5 : Int32) : Option (mm_M × Int32) :=
  pX7_inRank_75 N a0 kb kx G x1 x2 x3 x4 x5 (0 : Int32)
set_option maxRecDepth 100000 in
set_option maxHeartbeats 4000000 in
theorem bX7_inRank_74 {p : Program} {l : Launch} {e : Env} {s : State} {m : MethodId} {args : Array Value} {below : List Frame} {meth : Method} {c : Code} {E : mm_E} {N a0 : Nat} {res : mm_M × Int32} (X : mm_X p s m args meth c prog_9_method_23_code 7 "XorOverlayModel" tw_T E) (hr : meth.sig.returnType = (Option.some .int)) {kb : mm_M → Int32 → Int32 → Int32 → Int32 → Int32 → Option (mm_M × Int32)} {kx : mm_M → Int32 → Int32 → Int32 → Int32 → Option (mm_M × Int32)} (ih : ∀ (G : mm_M) (H : Heap) (locs : List Loc) (ls : Array Slot) (x1 : Int32) (x2 : Int32) (x3 : Int32) (x4 : Int32) (x5 : Int32), mm_V E s G H locs → lx_has ls 7 [(0, .inr (some a0)), (1, .inl x1), (2, .inl x2), (3, .inl x3), (4, .inl x4), (5, .inl x5)] → kb G x1 x2 x3 x4 x5 = some res → W p l e rX7_inRank s m args below meth c H locs 0 0 (MQ below (mm_Qi E res.1 res.2) args s 0 0 (mm_A E)) (F0 m 16 ls [])) (hkx : ∀ (G : mm_M) (H : Heap) (locs : List Loc) (ls : Array Slot) (x1 : Int32) (x2 : Int32) (x3 : Int32) (x4 : Int32), mm_V E s G H locs → lx_has ls 7 [(0, .inr (some a0)), (1, .inl x1), (2, .inl x2), (3, .inl x3), (4, .inl x4)] → kx G x1 x2 x3 x4 = some res → W p l e rX7_inRank s m args below meth c H locs 0 0 (MQ below (mm_Qi E res.1 res.2) args s 0 0 (mm_A E)) (F0 m 99 ls [])) {G : mm_M} {H : Heap} {locs : List Loc} {ls : Array Slot} {x1 : Int32} {x2 : Int32} {x3 : Int32} {x4 : Int32} {x5 : Int32} (V : mm_V E s G H locs) (hl : lx_has ls 7 [(0, .inr (some a0)), (1, .inl x1), (2, .inl x2), (3, .inl x3), (4, .inl x4), (5, .inl x5)]) (hp : pX7_inRank_74 N a0 kb kx G x1 x2 x3 x4 x5 = some res) : W p l e rX7_inRank s m args below meth c H locs 0 0 (MQ below (mm_Qi E res.1 res.2) args s 0 0 (mm_A E)) (F0 m 74 ls []) := by
  have hx := X.1.1
  have hb := X.1.2.1
  unfold pX7_inRank_74 at hp
  refine lv_iconst (v := (0 : Int32)) hx hb dX7_inRank_74 (by decide) ?_
  exact bX7_inRank_75 X hr ih hkx V (lx_sub hl [0, 1, 2, 3, 4, 5] rfl) hp
def pX7_inRank_16_b (N a0 : Nat) (kb : mm_M → Int32 → Int32 → Int32 → Int32 → Int32 → Option (mm_M × Int32)) (kx : mm_M → Int32 → Int32 → Int32 → Int32 → Option (mm_M × Int32)) (G : mm_M) (x1 : Int32) (x2 : Int32) (x3 : Int32) (x4 : Int32) (x5 : Int32) : Option (mm_M × Int32) :=
  q_gI G a0 8 3 fun v19_2 =>
  if v19_2 ≤ x5 then
    kx G x1 x2 x3 x4
  else
    q_gR G a0 8 19 fun r26_3 =>
    q_nn r26_3 fun b36_4 =>
    q_aI G b36_4 101 (((12 : Int32) * x1) + x5) fun v36_5 =>
    if v36_5 ≤ 0 then
      pX7_inRank_74 N a0 kb kx G x1 x2 x3 x4 x5
    else
      q_gR G a0 8 4 fun r41_6 =>
      q_nn r41_6 fun b46_7 =>
      q_aI G b46_7 101 x5 fun v46_8 =>
      q_gR G a0 8 17 fun r48_9 =>
      q_nn r48_9 fun b52_10 =>
      q_aI G b52_10 101 x1 fun v52_11 =>
      q_gR G a0 8 4 fun r55_12 =>
      q_nn r55_12 fun b59_13 =>
      q_aI G b59_13 101 x3 fun v59_14 =>
      q_gR G a0 8 17 fun r61_15 =>
      q_nn r61_15 fun b65_16 =>
      q_aI G b65_16 101 x1 fun v65_17 =>
      if (v59_14 ^^^ v65_17) ≤ (v46_8 ^^^ v52_11) then
        pX7_inRank_74 N a0 kb kx G x1 x2 x3 x4 x5
      else
        pX7_inRank_75 N a0 kb kx G x1 x2 x3 x4 x5 (1 : Int32)
def pX7_inRank_16 (N a0 : Nat) (kx : mm_M → Int32 → Int32 → Int32 → Int32 → Option (mm_M × Int32)) : Nat → mm_M → Int32 → Int32 → Int32 → Int32 → Int32 → Option (mm_M × Int32)
  | 0 => fun _ _ _ _ _ _ => none
  | n + 1 => pX7_inRank_16_b N a0 (pX7_inRank_16 N a0 kx n) kx
set_option maxRecDepth 100000 in
set_option maxHeartbeats 4000000 in
theorem bX7_inRank_16 {p : Program} {l : Launch} {e : Env} {s : State} {m : MethodId} {args : Array Value} {below : List Frame} {meth : Method} {c : Code} {E : mm_E} {N a0 : Nat} {res : mm_M × Int32} (X : mm_X p s m args meth c prog_9_method_23_code 7 "XorOverlayModel" tw_T E) (hr : meth.sig.returnType = (Option.some .int)) {kx : mm_M → Int32 → Int32 → Int32 → Int32 → Option (mm_M × Int32)} (hkx : ∀ (G : mm_M) (H : Heap) (locs : List Loc) (ls : Array Slot) (x1 : Int32) (x2 : Int32) (x3 : Int32) (x4 : Int32), mm_V E s G H locs → lx_has ls 7 [(0, .inr (some a0)), (1, .inl x1), (2, .inl x2), (3, .inl x3), (4, .inl x4)] → kx G x1 x2 x3 x4 = some res → W p l e rX7_inRank s m args below meth c H locs 0 0 (MQ below (mm_Qi E res.1 res.2) args s 0 0 (mm_A E)) (F0 m 99 ls [])) :
    ∀ (n : Nat) (G : mm_M) (H : Heap) (locs : List Loc) (ls : Array Slot) (x1 : Int32) (x2 : Int32) (x3 : Int32) (x4 : Int32) (x5 : Int32), mm_V E s G H locs → lx_has ls 7 [(0, .inr (some a0)), (1, .inl x1), (2, .inl x2), (3, .inl x3), (4, .inl x4), (5, .inl x5)] → pX7_inRank_16 N a0 kx n G x1 x2 x3 x4 x5 = some res → W p l e rX7_inRank s m args below meth c H locs 0 0 (MQ below (mm_Qi E res.1 res.2) args s 0 0 (mm_A E)) (F0 m 16 ls []) := by
  have hx := X.1.1
  have hb := X.1.2.1
  intro n
  induction n with
  | zero =>
    intro G H locs ls x1 x2 x3 x4 x5 V hl hp
    cases hp
  | succ n ih =>
    intro G H locs ls x1 x2 x3 x4 x5 V hl hp
    have hp : pX7_inRank_16_b N a0 (pX7_inRank_16 N a0 kx n) kx G x1 x2 x3 x4 x5 = some res := hp
    unfold pX7_inRank_16_b at hp
    refine x_iload X dX7_inRank_16 hl 5 rfl ?_
    refine x_aload_n X dX7_inRank_18 hl 0 rfl rfl ?_
    refine q_getI (ci := 7) X V inX7 rfl (by decide) rfl 3 (by decide) rfl (tw_3 32 rfl rfl) rfl dX7_inRank_19 hp (fun v19_2 hp => ?_)
    refine q_if hp (lv_icmp_ge (tgt := 99) hx hb dX7_inRank_22 (by decide)) (fun hp => ?_) (fun hp => ?_)
    · exact hkx _ _ _ _ _ _ _ _ V (lx_sub hl [0, 1, 2, 3, 4] rfl) hp
    · refine x_aload_n X dX7_inRank_25 hl 0 rfl rfl ?_
      refine q_getR (ci := 7) X V inX7 rfl (by decide) rfl 19 (by decide) rfl (tw_3 48 rfl rfl) rfl dX7_inRank_26 hp (fun r26_3 hp => ?_)
      refine lv_bipush (v := (12 : Int32)) hx hb dX7_inRank_29 (by decide) ?_
      refine x_iload_n X dX7_inRank_31 hl 1 rfl rfl ?_
      refine lv_imul hx hb dX7_inRank_32 ?_
      refine x_iload X dX7_inRank_33 hl 5 rfl ?_
      refine lv_iadd hx hb dX7_inRank_35 ?_
      obtain ⟨b36_4, e0, hp2⟩ := q_nn_of hp
      clear hp; subst e0; have hp := hp2; clear hp2
      refine q_iald X V dX7_inRank_36 hp (fun v36_5 hp => ?_)
      refine q_if hp (lv_if_le (tgt := 74) hx hb dX7_inRank_37 (by decide)) (fun hp => ?_) (fun hp => ?_)
      · exact bX7_inRank_74 X hr ih hkx V (lx_sub hl [0, 1, 2, 3, 4, 5] rfl) hp
      · refine x_aload_n X dX7_inRank_40 hl 0 rfl rfl ?_
        refine q_getR (ci := 7) X V inX7 rfl (by decide) rfl 4 (by decide) rfl (tw_3 33 rfl rfl) rfl dX7_inRank_41 hp (fun r41_6 hp => ?_)
        refine x_iload X dX7_inRank_44 hl 5 rfl ?_
        obtain ⟨b46_7, e0, hp2⟩ := q_nn_of hp
        clear hp; subst e0; have hp := hp2; clear hp2
        refine q_iald X V dX7_inRank_46 hp (fun v46_8 hp => ?_)
        refine x_aload_n X dX7_inRank_47 hl 0 rfl rfl ?_
        refine q_getR (ci := 7) X V inX7 rfl (by decide) rfl 17 (by decide) rfl (tw_3 46 rfl rfl) rfl dX7_inRank_48 hp (fun r48_9 hp => ?_)
        refine x_iload_n X dX7_inRank_51 hl 1 rfl rfl ?_
        obtain ⟨b52_10, e0, hp2⟩ := q_nn_of hp
        clear hp; subst e0; have hp := hp2; clear hp2
        refine q_iald X V dX7_inRank_52 hp (fun v52_11 hp => ?_)
        refine lv_ixor hx hb dX7_inRank_53 ?_
        refine x_aload_n X dX7_inRank_54 hl 0 rfl rfl ?_
        refine q_getR (ci := 7) X V inX7 rfl (by decide) rfl 4 (by decide) rfl (tw_3 33 rfl rfl) rfl dX7_inRank_55 hp (fun r55_12 hp => ?_)
        refine x_iload_n X dX7_inRank_58 hl 3 rfl rfl ?_
        obtain ⟨b59_13, e0, hp2⟩ := q_nn_of hp
        clear hp; subst e0; have hp := hp2; clear hp2
        refine q_iald X V dX7_inRank_59 hp (fun v59_14 hp => ?_)
        refine x_aload_n X dX7_inRank_60 hl 0 rfl rfl ?_
        refine q_getR (ci := 7) X V inX7 rfl (by decide) rfl 17 (by decide) rfl (tw_3 46 rfl rfl) rfl dX7_inRank_61 hp (fun r61_15 hp => ?_)
        refine x_iload_n X dX7_inRank_64 hl 1 rfl rfl ?_
        obtain ⟨b65_16, e0, hp2⟩ := q_nn_of hp
        clear hp; subst e0; have hp := hp2; clear hp2
        refine q_iald X V dX7_inRank_65 hp (fun v65_17 hp => ?_)
        refine lv_ixor hx hb dX7_inRank_66 ?_
        refine q_if hp (lv_icmp_ge (tgt := 74) hx hb dX7_inRank_67 (by decide)) (fun hp => ?_) (fun hp => ?_)
        · exact bX7_inRank_74 X hr ih hkx V (lx_sub hl [0, 1, 2, 3, 4, 5] rfl) hp
        · refine lv_iconst (v := (1 : Int32)) hx hb dX7_inRank_70 (by decide) ?_
          refine lv_goto (tgt := 75) hx hb dX7_inRank_71 (by decide) ?_
          exact bX7_inRank_75 X hr ih hkx V (lx_sub hl [0, 1, 2, 3, 4, 5] rfl) hp
def pX7_inRank_2_b (N a0 : Nat) (kb : mm_M → Int32 → Int32 → Int32 → Option (mm_M × Int32)) (kx : mm_M → Option (mm_M × Int32)) (G : mm_M) (x1 : Int32) (x2 : Int32) (x3 : Int32) : Option (mm_M × Int32) :=
  q_gI G a0 8 3 fun v4_1 =>
  if v4_1 ≤ x3 then
    kx G
  else
    pX7_inRank_16 N a0 (fun (G : mm_M) (x1 : Int32) (x2 : Int32) (x3 : Int32) (x4 : Int32) =>
      q_gR G a0 8 19 fun r100_18 =>
      q_nn r100_18 fun b109_19 =>
      q_aI G b109_19 101 (((12 : Int32) * x1) + x3) fun v109_20 =>
      if v109_20 ≤ 0 then
        kb G x1 x2 (x3 + (1 : Int32))
      else
        if x4 = x2 then
          some (G, x3)
        else
          kb G x1 x2 (x3 + (1 : Int32))) N G x1 x2 x3 (0 : Int32) (0 : Int32)
def pX7_inRank_2 (N a0 : Nat) (kx : mm_M → Option (mm_M × Int32)) : Nat → mm_M → Int32 → Int32 → Int32 → Option (mm_M × Int32)
  | 0 => fun _ _ _ _ => none
  | n + 1 => pX7_inRank_2_b N a0 (pX7_inRank_2 N a0 kx n) kx
set_option maxRecDepth 100000 in
set_option maxHeartbeats 4000000 in
theorem bX7_inRank_2 {p : Program} {l : Launch} {e : Env} {s : State} {m : MethodId} {args : Array Value} {below : List Frame} {meth : Method} {c : Code} {E : mm_E} {N a0 : Nat} {res : mm_M × Int32} (X : mm_X p s m args meth c prog_9_method_23_code 7 "XorOverlayModel" tw_T E) (hr : meth.sig.returnType = (Option.some .int)) {kx : mm_M → Option (mm_M × Int32)} (hkx : ∀ (G : mm_M) (H : Heap) (locs : List Loc) (ls : Array Slot), mm_V E s G H locs → lx_has ls 7 [(0, .inr (some a0))] → kx G = some res → W p l e rX7_inRank s m args below meth c H locs 0 0 (MQ below (mm_Qi E res.1 res.2) args s 0 0 (mm_A E)) (F0 m 127 ls [])) :
    ∀ (n : Nat) (G : mm_M) (H : Heap) (locs : List Loc) (ls : Array Slot) (x1 : Int32) (x2 : Int32) (x3 : Int32), mm_V E s G H locs → lx_has ls 7 [(0, .inr (some a0)), (1, .inl x1), (2, .inl x2), (3, .inl x3)] → pX7_inRank_2 N a0 kx n G x1 x2 x3 = some res → W p l e rX7_inRank s m args below meth c H locs 0 0 (MQ below (mm_Qi E res.1 res.2) args s 0 0 (mm_A E)) (F0 m 2 ls []) := by
  have hx := X.1.1
  have hb := X.1.2.1
  intro n
  induction n with
  | zero =>
    intro G H locs ls x1 x2 x3 V hl hp
    cases hp
  | succ n ih =>
    intro G H locs ls x1 x2 x3 V hl hp
    have hp : pX7_inRank_2_b N a0 (pX7_inRank_2 N a0 kx n) kx G x1 x2 x3 = some res := hp
    unfold pX7_inRank_2_b at hp
    refine x_iload_n X dX7_inRank_2 hl 3 rfl rfl ?_
    refine x_aload_n X dX7_inRank_3 hl 0 rfl rfl ?_
    refine q_getI (ci := 7) X V inX7 rfl (by decide) rfl 3 (by decide) rfl (tw_3 32 rfl rfl) rfl dX7_inRank_4 hp (fun v4_1 hp => ?_)
    refine q_if hp (lv_icmp_ge (tgt := 127) hx hb dX7_inRank_7 (by decide)) (fun hp => ?_) (fun hp => ?_)
    · exact hkx _ _ _ _ V (lx_sub hl [0] rfl) hp
    · refine lv_iconst (v := (0 : Int32)) hx hb dX7_inRank_10 (by decide) ?_
      refine x_istore (lst' := [(4, .inl (0 : Int32)), (0, .inr (some a0)), (1, .inl x1), (2, .inl x2), (3, .inl x3)]) X dX7_inRank_11 hl (by decide) rfl (fun ls hl => ?_)
      refine lv_iconst (v := (0 : Int32)) hx hb dX7_inRank_13 (by decide) ?_
      refine x_istore (lst' := [(5, .inl (0 : Int32)), (4, .inl (0 : Int32)), (0, .inr (some a0)), (1, .inl x1), (2, .inl x2), (3, .inl x3)]) X dX7_inRank_14 hl (by decide) rfl (fun ls hl => ?_)
      refine bX7_inRank_16 X hr (fun G H locs ls x1 x2 x3 x4 V hl hp => ?_) _ _ _ _ _ _ _ _ _ _ V (lx_sub hl [2, 3, 4, 5, 1, 0] rfl) hp
      refine x_aload_n X dX7_inRank_99 hl 0 rfl rfl ?_
      refine q_getR (ci := 7) X V inX7 rfl (by decide) rfl 19 (by decide) rfl (tw_3 48 rfl rfl) rfl dX7_inRank_100 hp (fun r100_18 hp => ?_)
      refine lv_bipush (v := (12 : Int32)) hx hb dX7_inRank_103 (by decide) ?_
      refine x_iload_n X dX7_inRank_105 hl 1 rfl rfl ?_
      refine lv_imul hx hb dX7_inRank_106 ?_
      refine x_iload_n X dX7_inRank_107 hl 3 rfl rfl ?_
      refine lv_iadd hx hb dX7_inRank_108 ?_
      obtain ⟨b109_19, e0, hp2⟩ := q_nn_of hp
      clear hp; subst e0; have hp := hp2; clear hp2
      refine q_iald X V dX7_inRank_109 hp (fun v109_20 hp => ?_)
      refine q_if hp (lv_if_le (tgt := 121) hx hb dX7_inRank_110 (by decide)) (fun hp => ?_) (fun hp => ?_)
      · refine x_iinc (v := (1 : Int32)) (lst' := [(3, .inl (x3 + (1 : Int32))), (0, .inr (some a0)), (1, .inl x1), (2, .inl x2), (4, .inl x4)]) X dX7_inRank_121 hl 3 rfl (by decide) (by decide) rfl (fun ls hl => ?_)
        refine lv_goto (tgt := 2) hx hb dX7_inRank_124 (by decide) ?_
        exact ih _ _ _ _ _ _ _ V (lx_sub hl [1, 2, 3, 0] rfl) hp
      · refine x_iload X dX7_inRank_113 hl 4 rfl ?_
        refine x_iload_n X dX7_inRank_115 hl 2 rfl rfl ?_
        refine q_ifn hp (lv_icmp_ne (tgt := 121) hx hb dX7_inRank_116 (by decide)) (fun hp => ?_) (fun hp => ?_)
        · refine x_iinc (v := (1 : Int32)) (lst' := [(3, .inl (x3 + (1 : Int32))), (0, .inr (some a0)), (1, .inl x1), (2, .inl x2), (4, .inl x4)]) X dX7_inRank_121 hl 3 rfl (by decide) (by decide) rfl (fun ls hl => ?_)
          refine lv_goto (tgt := 2) hx hb dX7_inRank_124 (by decide) ?_
          exact ih _ _ _ _ _ _ _ V (lx_sub hl [1, 2, 3, 0] rfl) hp
        · refine x_iload_n X dX7_inRank_119 hl 3 rfl rfl ?_
          exact q_iret X V hr ⟨by decide, by decide⟩ dX7_inRank_120 hp
def pX7_inRank_0 (N a0 : Nat) (G : mm_M) (x1 : Int32) (x2 : Int32) : Option (mm_M × Int32) :=
  pX7_inRank_2 N a0 (fun (G : mm_M) =>
    some (G, (-1 : Int32))) N G x1 x2 (0 : Int32)
set_option maxRecDepth 100000 in
set_option maxHeartbeats 4000000 in
theorem bX7_inRank_0 {p : Program} {l : Launch} {e : Env} {s : State} {m : MethodId} {args : Array Value} {below : List Frame} {meth : Method} {c : Code} {E : mm_E} {N a0 : Nat} {res : mm_M × Int32} (X : mm_X p s m args meth c prog_9_method_23_code 7 "XorOverlayModel" tw_T E) (hr : meth.sig.returnType = (Option.some .int)) {G : mm_M} {H : Heap} {locs : List Loc} {ls : Array Slot} {x1 : Int32} {x2 : Int32} (V : mm_V E s G H locs) (hl : lx_has ls 7 [(0, .inr (some a0)), (1, .inl x1), (2, .inl x2)]) (hp : pX7_inRank_0 N a0 G x1 x2 = some res) : W p l e rX7_inRank s m args below meth c H locs 0 0 (MQ below (mm_Qi E res.1 res.2) args s 0 0 (mm_A E)) (F0 m 0 ls []) := by
  have hx := X.1.1
  have hb := X.1.2.1
  unfold pX7_inRank_0 at hp
  refine lv_iconst (v := (0 : Int32)) hx hb dX7_inRank_0 (by decide) ?_
  refine x_istore_n (lst' := [(3, .inl (0 : Int32)), (0, .inr (some a0)), (1, .inl x1), (2, .inl x2)]) X dX7_inRank_1 hl rfl (by decide) rfl (fun ls hl => ?_)
  refine bX7_inRank_2 X hr (fun G H locs ls V hl hp => ?_) _ _ _ _ _ _ _ _ V (lx_sub hl [1, 2, 3, 0] rfl) hp
  refine lv_iconst (v := (-1 : Int32)) hx hb dX7_inRank_127 (by decide) ?_
  exact q_iret X V hr ⟨by decide, by decide⟩ dX7_inRank_128 hp
theorem cX7_inRank (l : Launch) (E : mm_E) {N a0 : Nat} {G : mm_M} {x1 : Int32} {x2 : Int32} {res : mm_M × Int32} (hp : pX7_inRank_0 N a0 G x1 x2 = some res) : Met l yX7_inRank (Cond.code yX7_inRank prog_9_method_23_code 7 (Option.some .int) :: tw_T) rX7_inRank (mm_Pc E G [.ref a0, .int x1, .int x2]) (mm_Qi E res.1 res.2) 0 0 (mm_A E) :=
  mm_met (own := "XorOverlayModel") E G [.inr (some a0), .inl x1, .inl x2] (by decide) rfl rfl (Nat.le_of_ble_eq_true rfl) (fun p e s m args below meth c ls X hr hi V hl => bX7_inRank_0 X hr V hl hp)
abbrev yX7_alive : MethodName := ⟨"XorOverlayModel", "alive", "(II)I"⟩
abbrev rX7_alive : Room := { frames := 1, cells := 0, slots := 0, locals := 26 }
theorem kX7_alive : Cond.code yX7_alive prog_9_method_24_code 6 (Option.some .int) ∈ tw_T ∧ Cond.instanceMethod yX7_alive ∈ tw_T ∧ Cond.selects "XorOverlayModel" yX7_alive yX7_alive ∈ tw_T ∧ Cond.initialized "XorOverlayModel" ∈ tw_T := ⟨(tw_3 171 rfl rfl), (tw_3 170 rfl rfl), (tw_s 31 rfl rfl), (tw_1 3 rfl rfl)⟩
theorem hX7_alive : yX7_alive.cls = "XorOverlayModel" ∧ yX7_alive.cls ≠ "java/lang/invoke/MethodHandle" ∧ yX7_alive.cls ≠ "java/lang/invoke/VarHandle" ∧ (parseMethodDescriptor yX7_alive.desc).map (fun d => d.parameters.length) = some 2 := by decide +kernel
theorem dX7_alive_0 : decode prog_9_method_24_code 0 = .ok (.iconst 0, 1) := by decide +kernel
theorem dX7_alive_1 : decode prog_9_method_24_code 1 = .ok (.istore_n 3, 1) := by decide +kernel
theorem dX7_alive_2 : decode prog_9_method_24_code 2 = .ok (.iconst 0, 1) := by decide +kernel
theorem dX7_alive_3 : decode prog_9_method_24_code 3 = .ok (.istore 4, 2) := by decide +kernel
theorem dX7_alive_5 : decode prog_9_method_24_code 5 = .ok (.iload 4, 2) := by decide +kernel
theorem dX7_alive_7 : decode prog_9_method_24_code 7 = .ok (.bipush 12, 2) := by decide +kernel
theorem dX7_alive_9 : decode prog_9_method_24_code 9 = .ok (.if_icmp .ge 50, 3) := by decide +kernel
theorem dX7_alive_12 : decode prog_9_method_24_code 12 = .ok (.aload_n 0, 1) := by decide +kernel
theorem dX7_alive_13 : decode prog_9_method_24_code 13 = .ok (.iload_n 1, 1) := by decide +kernel
theorem dX7_alive_14 : decode prog_9_method_24_code 14 = .ok (.iload 4, 2) := by decide +kernel
theorem dX7_alive_16 : decode prog_9_method_24_code 16 = .ok (.invokevirtual 137, 3) := by decide +kernel
theorem dX7_alive_19 : decode prog_9_method_24_code 19 = .ok (.istore 5, 2) := by decide +kernel
theorem dX7_alive_21 : decode prog_9_method_24_code 21 = .ok (.iload 5, 2) := by decide +kernel
theorem dX7_alive_23 : decode prog_9_method_24_code 23 = .ok (.ifCond .lt 30, 3) := by decide +kernel
theorem dX7_alive_26 : decode prog_9_method_24_code 26 = .ok (.aload_n 0, 1) := by decide +kernel
theorem dX7_alive_27 : decode prog_9_method_24_code 27 = .ok (.getfield 56, 3) := by decide +kernel
theorem dX7_alive_30 : decode prog_9_method_24_code 30 = .ok (.bipush 12, 2) := by decide +kernel
theorem dX7_alive_32 : decode prog_9_method_24_code 32 = .ok (.iload_n 1, 1) := by decide +kernel
theorem dX7_alive_33 : decode prog_9_method_24_code 33 = .ok (.imul, 1) := by decide +kernel
theorem dX7_alive_34 : decode prog_9_method_24_code 34 = .ok (.iload 5, 2) := by decide +kernel
theorem dX7_alive_36 : decode prog_9_method_24_code 36 = .ok (.iadd, 1) := by decide +kernel
theorem dX7_alive_37 : decode prog_9_method_24_code 37 = .ok (.iaload, 1) := by decide +kernel
theorem dX7_alive_38 : decode prog_9_method_24_code 38 = .ok (.iconst 4, 1) := by decide +kernel
theorem dX7_alive_39 : decode prog_9_method_24_code 39 = .ok (.if_icmp .eq 14, 3) := by decide +kernel
theorem dX7_alive_42 : decode prog_9_method_24_code 42 = .ok (.iload_n 3, 1) := by decide +kernel
theorem dX7_alive_43 : decode prog_9_method_24_code 43 = .ok (.iload_n 2, 1) := by decide +kernel
theorem dX7_alive_44 : decode prog_9_method_24_code 44 = .ok (.if_icmp .ne 6, 3) := by decide +kernel
theorem dX7_alive_47 : decode prog_9_method_24_code 47 = .ok (.iload 5, 2) := by decide +kernel
theorem dX7_alive_49 : decode prog_9_method_24_code 49 = .ok (.ireturn, 1) := by decide +kernel
theorem dX7_alive_50 : decode prog_9_method_24_code 50 = .ok (.iinc 3 1, 3) := by decide +kernel
theorem dX7_alive_53 : decode prog_9_method_24_code 53 = .ok (.iinc 4 1, 3) := by decide +kernel
theorem dX7_alive_56 : decode prog_9_method_24_code 56 = .ok (.goto (-51), 3) := by decide +kernel
theorem dX7_alive_59 : decode prog_9_method_24_code 59 = .ok (.iconst (-1), 1) := by decide +kernel
theorem dX7_alive_60 : decode prog_9_method_24_code 60 = .ok (.ireturn, 1) := by decide +kernel
def pX7_alive_5_b (N a0 : Nat) (kb : mm_M → Int32 → Int32 → Int32 → Int32 → Option (mm_M × Int32)) (kx : mm_M → Option (mm_M × Int32)) (G : mm_M) (x1 : Int32) (x2 : Int32) (x3 : Int32) (x4 : Int32) : Option (mm_M × Int32) :=
  if (12 : Int32) ≤ x4 then
    kx G
  else
    q_is G a0 8 <|
    q_cl (pX7_inRank_0 N a0 G x1 x4) fun G v16_2 =>
    if v16_2 < 0 then
      kb G x1 x2 x3 (x4 + (1 : Int32))
    else
      q_gR G a0 8 19 fun r27_3 =>
      q_nn r27_3 fun b37_4 =>
      q_aI G b37_4 101 (((12 : Int32) * x1) + v16_2) fun v37_5 =>
      if v37_5 = (4 : Int32) then
        kb G x1 x2 x3 (x4 + (1 : Int32))
      else
        if x3 = x2 then
          some (G, v16_2)
        else
          kb G x1 x2 (x3 + (1 : Int32)) (x4 + (1 : Int32))
def pX7_alive_5 (N a0 : Nat) (kx : mm_M → Option (mm_M × Int32)) : Nat → mm_M → Int32 → Int32 → Int32 → Int32 → Option (mm_M × Int32)
  | 0 => fun _ _ _ _ _ => none
  | n + 1 => pX7_alive_5_b N a0 (pX7_alive_5 N a0 kx n) kx
set_option maxRecDepth 100000 in
set_option maxHeartbeats 4000000 in
theorem bX7_alive_5 {p : Program} {l : Launch} {e : Env} {s : State} {m : MethodId} {args : Array Value} {below : List Frame} {meth : Method} {c : Code} {E : mm_E} {N a0 : Nat} {res : mm_M × Int32} (X : mm_X p s m args meth c prog_9_method_24_code 6 "XorOverlayModel" tw_T E) (hr : meth.sig.returnType = (Option.some .int)) {kx : mm_M → Option (mm_M × Int32)} (hkx : ∀ (G : mm_M) (H : Heap) (locs : List Loc) (ls : Array Slot), mm_V E s G H locs → lx_has ls 6 [(0, .inr (some a0))] → kx G = some res → W p l e rX7_alive s m args below meth c H locs 0 0 (MQ below (mm_Qi E res.1 res.2) args s 0 0 (mm_A E)) (F0 m 59 ls [])) :
    ∀ (n : Nat) (G : mm_M) (H : Heap) (locs : List Loc) (ls : Array Slot) (x1 : Int32) (x2 : Int32) (x3 : Int32) (x4 : Int32), mm_V E s G H locs → lx_has ls 6 [(0, .inr (some a0)), (1, .inl x1), (2, .inl x2), (3, .inl x3), (4, .inl x4)] → pX7_alive_5 N a0 kx n G x1 x2 x3 x4 = some res → W p l e rX7_alive s m args below meth c H locs 0 0 (MQ below (mm_Qi E res.1 res.2) args s 0 0 (mm_A E)) (F0 m 5 ls []) := by
  have hx := X.1.1
  have hb := X.1.2.1
  intro n
  induction n with
  | zero =>
    intro G H locs ls x1 x2 x3 x4 V hl hp
    cases hp
  | succ n ih =>
    intro G H locs ls x1 x2 x3 x4 V hl hp
    have hp : pX7_alive_5_b N a0 (pX7_alive_5 N a0 kx n) kx G x1 x2 x3 x4 = some res := hp
    unfold pX7_alive_5_b at hp
    refine x_iload X dX7_alive_5 hl 4 rfl ?_
    refine lv_bipush (v := (12 : Int32)) hx hb dX7_alive_7 (by decide) ?_
    refine q_if hp (lv_icmp_ge (tgt := 59) hx hb dX7_alive_9 (by decide)) (fun hp => ?_) (fun hp => ?_)
    · exact hkx _ _ _ _ V (lx_sub hl [0] rfl) hp
    · refine x_aload_n X dX7_alive_12 hl 0 rfl rfl ?_
      refine x_iload_n X dX7_alive_13 hl 1 rfl rfl ?_
      refine x_iload X dX7_alive_14 hl 4 rfl ?_
      obtain ⟨hk, hp⟩ := q_is_of hp
      obtain ⟨⟨G, v16_2⟩, hq, hp⟩ := q_cl_of hp
      dsimp only at hp
      refine q_goi (cells' := 0) (slots' := 0) (va_runV (As := [.int x1, .int x4]) (rest := []) X.1 (cX7_inRank l E hq) (tw_cwV 2 X.1.2.2.2.2 (tw_3 172 rfl rfl) kX7_inRank.2.1 kX7_inRank.2.2.1 kX7_inRank.2.2.2 kX7_inRank.1 rfl rfl hX7_inRank ⟨Nat.le_of_ble_eq_true rfl, Nat.le_of_ble_eq_true rfl⟩) (mm_preV X V rfl (by decide) rfl hk) rfl rfl hl.1 rfl (lv_room (Nat.le_of_ble_eq_true rfl)) dX7_alive_16 ⟨by decide, by decide⟩) V ⟨rfl, rfl⟩ (fun H locs V => ?_)
      refine x_istore (lst' := [(5, .inl v16_2), (0, .inr (some a0)), (1, .inl x1), (2, .inl x2), (3, .inl x3), (4, .inl x4)]) X dX7_alive_19 hl (by decide) rfl (fun ls hl => ?_)
      refine x_iload X dX7_alive_21 hl 0 rfl ?_
      refine q_if hp (lv_if_lt (tgt := 53) hx hb dX7_alive_23 (by decide)) (fun hp => ?_) (fun hp => ?_)
      · refine x_iinc (v := (1 : Int32)) (lst' := [(4, .inl (x4 + (1 : Int32))), (5, .inl v16_2), (0, .inr (some a0)), (1, .inl x1), (2, .inl x2), (3, .inl x3)]) X dX7_alive_53 hl 5 rfl (by decide) (by decide) rfl (fun ls hl => ?_)
        refine lv_goto (tgt := 5) hx hb dX7_alive_56 (by decide) ?_
        exact ih _ _ _ _ _ _ _ _ V (lx_sub hl [2, 3, 4, 5, 0] rfl) hp
      · refine x_aload_n X dX7_alive_26 hl 1 rfl rfl ?_
        refine q_getR (ci := 7) X V inX7 rfl (by decide) rfl 19 (by decide) rfl (tw_3 48 rfl rfl) rfl dX7_alive_27 hp (fun r27_3 hp => ?_)
        refine lv_bipush (v := (12 : Int32)) hx hb dX7_alive_30 (by decide) ?_
        refine x_iload_n X dX7_alive_32 hl 2 rfl rfl ?_
        refine lv_imul hx hb dX7_alive_33 ?_
        refine x_iload X dX7_alive_34 hl 0 rfl ?_
        refine lv_iadd hx hb dX7_alive_36 ?_
        obtain ⟨b37_4, e0, hp2⟩ := q_nn_of hp
        clear hp; subst e0; have hp := hp2; clear hp2
        refine q_iald X V dX7_alive_37 hp (fun v37_5 hp => ?_)
        refine lv_iconst (v := (4 : Int32)) hx hb dX7_alive_38 (by decide) ?_
        refine q_if hp (lv_icmp_eq (tgt := 53) hx hb dX7_alive_39 (by decide)) (fun hp => ?_) (fun hp => ?_)
        · refine x_iinc (v := (1 : Int32)) (lst' := [(4, .inl (x4 + (1 : Int32))), (5, .inl v16_2), (0, .inr (some a0)), (1, .inl x1), (2, .inl x2), (3, .inl x3)]) X dX7_alive_53 hl 5 rfl (by decide) (by decide) rfl (fun ls hl => ?_)
          refine lv_goto (tgt := 5) hx hb dX7_alive_56 (by decide) ?_
          exact ih _ _ _ _ _ _ _ _ V (lx_sub hl [2, 3, 4, 5, 0] rfl) hp
        · refine x_iload_n X dX7_alive_42 hl 4 rfl rfl ?_
          refine x_iload_n X dX7_alive_43 hl 3 rfl rfl ?_
          refine q_ifn hp (lv_icmp_ne (tgt := 50) hx hb dX7_alive_44 (by decide)) (fun hp => ?_) (fun hp => ?_)
          · refine x_iinc (v := (1 : Int32)) (lst' := [(3, .inl (x3 + (1 : Int32))), (5, .inl v16_2), (0, .inr (some a0)), (1, .inl x1), (2, .inl x2), (4, .inl x4)]) X dX7_alive_50 hl 4 rfl (by decide) (by decide) rfl (fun ls hl => ?_)
            refine x_iinc (v := (1 : Int32)) (lst' := [(4, .inl (x4 + (1 : Int32))), (3, .inl (x3 + (1 : Int32))), (5, .inl v16_2), (0, .inr (some a0)), (1, .inl x1), (2, .inl x2)]) X dX7_alive_53 hl 5 rfl (by decide) (by decide) rfl (fun ls hl => ?_)
            refine lv_goto (tgt := 5) hx hb dX7_alive_56 (by decide) ?_
            exact ih _ _ _ _ _ _ _ _ V (lx_sub hl [3, 4, 5, 1, 0] rfl) hp
          · refine x_iload X dX7_alive_47 hl 0 rfl ?_
            exact q_iret X V hr ⟨by decide, by decide⟩ dX7_alive_49 hp
def pX7_alive_0 (N a0 : Nat) (G : mm_M) (x1 : Int32) (x2 : Int32) : Option (mm_M × Int32) :=
  pX7_alive_5 N a0 (fun (G : mm_M) =>
    some (G, (-1 : Int32))) N G x1 x2 (0 : Int32) (0 : Int32)
set_option maxRecDepth 100000 in
set_option maxHeartbeats 4000000 in
theorem bX7_alive_0 {p : Program} {l : Launch} {e : Env} {s : State} {m : MethodId} {args : Array Value} {below : List Frame} {meth : Method} {c : Code} {E : mm_E} {N a0 : Nat} {res : mm_M × Int32} (X : mm_X p s m args meth c prog_9_method_24_code 6 "XorOverlayModel" tw_T E) (hr : meth.sig.returnType = (Option.some .int)) {G : mm_M} {H : Heap} {locs : List Loc} {ls : Array Slot} {x1 : Int32} {x2 : Int32} (V : mm_V E s G H locs) (hl : lx_has ls 6 [(0, .inr (some a0)), (1, .inl x1), (2, .inl x2)]) (hp : pX7_alive_0 N a0 G x1 x2 = some res) : W p l e rX7_alive s m args below meth c H locs 0 0 (MQ below (mm_Qi E res.1 res.2) args s 0 0 (mm_A E)) (F0 m 0 ls []) := by
  have hx := X.1.1
  have hb := X.1.2.1
  unfold pX7_alive_0 at hp
  refine lv_iconst (v := (0 : Int32)) hx hb dX7_alive_0 (by decide) ?_
  refine x_istore_n (lst' := [(3, .inl (0 : Int32)), (0, .inr (some a0)), (1, .inl x1), (2, .inl x2)]) X dX7_alive_1 hl rfl (by decide) rfl (fun ls hl => ?_)
  refine lv_iconst (v := (0 : Int32)) hx hb dX7_alive_2 (by decide) ?_
  refine x_istore (lst' := [(4, .inl (0 : Int32)), (3, .inl (0 : Int32)), (0, .inr (some a0)), (1, .inl x1), (2, .inl x2)]) X dX7_alive_3 hl (by decide) rfl (fun ls hl => ?_)
  refine bX7_alive_5 X hr (fun G H locs ls V hl hp => ?_) _ _ _ _ _ _ _ _ _ V (lx_sub hl [2, 3, 4, 1, 0] rfl) hp
  refine lv_iconst (v := (-1 : Int32)) hx hb dX7_alive_59 (by decide) ?_
  exact q_iret X V hr ⟨by decide, by decide⟩ dX7_alive_60 hp
theorem cX7_alive (l : Launch) (E : mm_E) {N a0 : Nat} {G : mm_M} {x1 : Int32} {x2 : Int32} {res : mm_M × Int32} (hp : pX7_alive_0 N a0 G x1 x2 = some res) : Met l yX7_alive (Cond.code yX7_alive prog_9_method_24_code 6 (Option.some .int) :: tw_T) rX7_alive (mm_Pc E G [.ref a0, .int x1, .int x2]) (mm_Qi E res.1 res.2) 0 0 (mm_A E) :=
  mm_met (own := "XorOverlayModel") E G [.inr (some a0), .inl x1, .inl x2] (by decide) rfl rfl (Nat.le_of_ble_eq_true rfl) (fun p e s m args below meth c ls X hr hi V hl => bX7_alive_0 X hr V hl hp)
abbrev yX7_nextToAsk : MethodName := ⟨"XorOverlayModel", "nextToAsk", "(I)I"⟩
abbrev rX7_nextToAsk : Room := { frames := 2, cells := 0, slots := 0, locals := 51 }
theorem kX7_nextToAsk : Cond.code yX7_nextToAsk prog_9_method_26_code 4 (Option.some .int) ∈ tw_T ∧ Cond.instanceMethod yX7_nextToAsk ∈ tw_T ∧ Cond.selects "XorOverlayModel" yX7_nextToAsk yX7_nextToAsk ∈ tw_T ∧ Cond.initialized "XorOverlayModel" ∈ tw_T := ⟨(tw_3 167 rfl rfl), (tw_3 166 rfl rfl), (tw_s 30 rfl rfl), (tw_1 3 rfl rfl)⟩
theorem hX7_nextToAsk : yX7_nextToAsk.cls = "XorOverlayModel" ∧ yX7_nextToAsk.cls ≠ "java/lang/invoke/MethodHandle" ∧ yX7_nextToAsk.cls ≠ "java/lang/invoke/VarHandle" ∧ (parseMethodDescriptor yX7_nextToAsk.desc).map (fun d => d.parameters.length) = some 1 := by decide +kernel
theorem dX7_nextToAsk_0 : decode prog_9_method_26_code 0 = .ok (.iconst 0, 1) := by decide +kernel
theorem dX7_nextToAsk_1 : decode prog_9_method_26_code 1 = .ok (.istore_n 2, 1) := by decide +kernel
theorem dX7_nextToAsk_2 : decode prog_9_method_26_code 2 = .ok (.iload_n 2, 1) := by decide +kernel
theorem dX7_nextToAsk_3 : decode prog_9_method_26_code 3 = .ok (.iconst 3, 1) := by decide +kernel
theorem dX7_nextToAsk_4 : decode prog_9_method_26_code 4 = .ok (.if_icmp .ge 37, 3) := by decide +kernel
theorem dX7_nextToAsk_7 : decode prog_9_method_26_code 7 = .ok (.aload_n 0, 1) := by decide +kernel
theorem dX7_nextToAsk_8 : decode prog_9_method_26_code 8 = .ok (.iload_n 1, 1) := by decide +kernel
theorem dX7_nextToAsk_9 : decode prog_9_method_26_code 9 = .ok (.iload_n 2, 1) := by decide +kernel
theorem dX7_nextToAsk_10 : decode prog_9_method_26_code 10 = .ok (.invokevirtual 140, 3) := by decide +kernel
theorem dX7_nextToAsk_13 : decode prog_9_method_26_code 13 = .ok (.istore_n 3, 1) := by decide +kernel
theorem dX7_nextToAsk_14 : decode prog_9_method_26_code 14 = .ok (.iload_n 3, 1) := by decide +kernel
theorem dX7_nextToAsk_15 : decode prog_9_method_26_code 15 = .ok (.ifCond .lt 20, 3) := by decide +kernel
theorem dX7_nextToAsk_18 : decode prog_9_method_26_code 18 = .ok (.aload_n 0, 1) := by decide +kernel
theorem dX7_nextToAsk_19 : decode prog_9_method_26_code 19 = .ok (.getfield 56, 3) := by decide +kernel
theorem dX7_nextToAsk_22 : decode prog_9_method_26_code 22 = .ok (.bipush 12, 2) := by decide +kernel
theorem dX7_nextToAsk_24 : decode prog_9_method_26_code 24 = .ok (.iload_n 1, 1) := by decide +kernel
theorem dX7_nextToAsk_25 : decode prog_9_method_26_code 25 = .ok (.imul, 1) := by decide +kernel
theorem dX7_nextToAsk_26 : decode prog_9_method_26_code 26 = .ok (.iload_n 3, 1) := by decide +kernel
theorem dX7_nextToAsk_27 : decode prog_9_method_26_code 27 = .ok (.iadd, 1) := by decide +kernel
theorem dX7_nextToAsk_28 : decode prog_9_method_26_code 28 = .ok (.iaload, 1) := by decide +kernel
theorem dX7_nextToAsk_29 : decode prog_9_method_26_code 29 = .ok (.iconst 1, 1) := by decide +kernel
theorem dX7_nextToAsk_30 : decode prog_9_method_26_code 30 = .ok (.if_icmp .ne 5, 3) := by decide +kernel
theorem dX7_nextToAsk_33 : decode prog_9_method_26_code 33 = .ok (.iload_n 3, 1) := by decide +kernel
theorem dX7_nextToAsk_34 : decode prog_9_method_26_code 34 = .ok (.ireturn, 1) := by decide +kernel
theorem dX7_nextToAsk_35 : decode prog_9_method_26_code 35 = .ok (.iinc 2 1, 3) := by decide +kernel
theorem dX7_nextToAsk_38 : decode prog_9_method_26_code 38 = .ok (.goto (-36), 3) := by decide +kernel
theorem dX7_nextToAsk_41 : decode prog_9_method_26_code 41 = .ok (.iconst (-1), 1) := by decide +kernel
theorem dX7_nextToAsk_42 : decode prog_9_method_26_code 42 = .ok (.ireturn, 1) := by decide +kernel
def pX7_nextToAsk_2_b (N a0 : Nat) (kb : mm_M → Int32 → Int32 → Option (mm_M × Int32)) (kx : mm_M → Option (mm_M × Int32)) (G : mm_M) (x1 : Int32) (x2 : Int32) : Option (mm_M × Int32) :=
  if (3 : Int32) ≤ x2 then
    kx G
  else
    q_is G a0 8 <|
    q_cl (pX7_alive_0 N a0 G x1 x2) fun G v10_2 =>
    if v10_2 < 0 then
      kb G x1 (x2 + (1 : Int32))
    else
      q_gR G a0 8 19 fun r19_3 =>
      q_nn r19_3 fun b28_4 =>
      q_aI G b28_4 101 (((12 : Int32) * x1) + v10_2) fun v28_5 =>
      if v28_5 = (1 : Int32) then
        some (G, v10_2)
      else
        kb G x1 (x2 + (1 : Int32))
def pX7_nextToAsk_2 (N a0 : Nat) (kx : mm_M → Option (mm_M × Int32)) : Nat → mm_M → Int32 → Int32 → Option (mm_M × Int32)
  | 0 => fun _ _ _ => none
  | n + 1 => pX7_nextToAsk_2_b N a0 (pX7_nextToAsk_2 N a0 kx n) kx
set_option maxRecDepth 100000 in
set_option maxHeartbeats 4000000 in
theorem bX7_nextToAsk_2 {p : Program} {l : Launch} {e : Env} {s : State} {m : MethodId} {args : Array Value} {below : List Frame} {meth : Method} {c : Code} {E : mm_E} {N a0 : Nat} {res : mm_M × Int32} (X : mm_X p s m args meth c prog_9_method_26_code 4 "XorOverlayModel" tw_T E) (hr : meth.sig.returnType = (Option.some .int)) {kx : mm_M → Option (mm_M × Int32)} (hkx : ∀ (G : mm_M) (H : Heap) (locs : List Loc) (ls : Array Slot), mm_V E s G H locs → lx_has ls 4 [(0, .inr (some a0))] → kx G = some res → W p l e rX7_nextToAsk s m args below meth c H locs 0 0 (MQ below (mm_Qi E res.1 res.2) args s 0 0 (mm_A E)) (F0 m 41 ls [])) :
    ∀ (n : Nat) (G : mm_M) (H : Heap) (locs : List Loc) (ls : Array Slot) (x1 : Int32) (x2 : Int32), mm_V E s G H locs → lx_has ls 4 [(0, .inr (some a0)), (1, .inl x1), (2, .inl x2)] → pX7_nextToAsk_2 N a0 kx n G x1 x2 = some res → W p l e rX7_nextToAsk s m args below meth c H locs 0 0 (MQ below (mm_Qi E res.1 res.2) args s 0 0 (mm_A E)) (F0 m 2 ls []) := by
  have hx := X.1.1
  have hb := X.1.2.1
  intro n
  induction n with
  | zero =>
    intro G H locs ls x1 x2 V hl hp
    cases hp
  | succ n ih =>
    intro G H locs ls x1 x2 V hl hp
    have hp : pX7_nextToAsk_2_b N a0 (pX7_nextToAsk_2 N a0 kx n) kx G x1 x2 = some res := hp
    unfold pX7_nextToAsk_2_b at hp
    refine x_iload_n X dX7_nextToAsk_2 hl 2 rfl rfl ?_
    refine lv_iconst (v := (3 : Int32)) hx hb dX7_nextToAsk_3 (by decide) ?_
    refine q_if hp (lv_icmp_ge (tgt := 41) hx hb dX7_nextToAsk_4 (by decide)) (fun hp => ?_) (fun hp => ?_)
    · exact hkx _ _ _ _ V (lx_sub hl [0] rfl) hp
    · refine x_aload_n X dX7_nextToAsk_7 hl 0 rfl rfl ?_
      refine x_iload_n X dX7_nextToAsk_8 hl 1 rfl rfl ?_
      refine x_iload_n X dX7_nextToAsk_9 hl 2 rfl rfl ?_
      obtain ⟨hk, hp⟩ := q_is_of hp
      obtain ⟨⟨G, v10_2⟩, hq, hp⟩ := q_cl_of hp
      dsimp only at hp
      refine q_goi (cells' := 0) (slots' := 0) (va_runV (As := [.int x1, .int x2]) (rest := []) X.1 (cX7_alive l E hq) (tw_cwV 2 X.1.2.2.2.2 (tw_3 168 rfl rfl) kX7_alive.2.1 kX7_alive.2.2.1 kX7_alive.2.2.2 kX7_alive.1 rfl rfl hX7_alive ⟨Nat.le_of_ble_eq_true rfl, Nat.le_of_ble_eq_true rfl⟩) (mm_preV X V rfl (by decide) rfl hk) rfl rfl hl.1 rfl (lv_room (Nat.le_of_ble_eq_true rfl)) dX7_nextToAsk_10 ⟨by decide, by decide⟩) V ⟨rfl, rfl⟩ (fun H locs V => ?_)
      refine x_istore_n (lst' := [(3, .inl v10_2), (0, .inr (some a0)), (1, .inl x1), (2, .inl x2)]) X dX7_nextToAsk_13 hl rfl (by decide) rfl (fun ls hl => ?_)
      refine x_iload_n X dX7_nextToAsk_14 hl 0 rfl rfl ?_
      refine q_if hp (lv_if_lt (tgt := 35) hx hb dX7_nextToAsk_15 (by decide)) (fun hp => ?_) (fun hp => ?_)
      · refine x_iinc (v := (1 : Int32)) (lst' := [(2, .inl (x2 + (1 : Int32))), (3, .inl v10_2), (0, .inr (some a0)), (1, .inl x1)]) X dX7_nextToAsk_35 hl 3 rfl (by decide) (by decide) rfl (fun ls hl => ?_)
        refine lv_goto (tgt := 2) hx hb dX7_nextToAsk_38 (by decide) ?_
        exact ih _ _ _ _ _ _ V (lx_sub hl [2, 3, 0] rfl) hp
      · refine x_aload_n X dX7_nextToAsk_18 hl 1 rfl rfl ?_
        refine q_getR (ci := 7) X V inX7 rfl (by decide) rfl 19 (by decide) rfl (tw_3 48 rfl rfl) rfl dX7_nextToAsk_19 hp (fun r19_3 hp => ?_)
        refine lv_bipush (v := (12 : Int32)) hx hb dX7_nextToAsk_22 (by decide) ?_
        refine x_iload_n X dX7_nextToAsk_24 hl 2 rfl rfl ?_
        refine lv_imul hx hb dX7_nextToAsk_25 ?_
        refine x_iload_n X dX7_nextToAsk_26 hl 0 rfl rfl ?_
        refine lv_iadd hx hb dX7_nextToAsk_27 ?_
        obtain ⟨b28_4, e0, hp2⟩ := q_nn_of hp
        clear hp; subst e0; have hp := hp2; clear hp2
        refine q_iald X V dX7_nextToAsk_28 hp (fun v28_5 hp => ?_)
        refine lv_iconst (v := (1 : Int32)) hx hb dX7_nextToAsk_29 (by decide) ?_
        refine q_ifn hp (lv_icmp_ne (tgt := 35) hx hb dX7_nextToAsk_30 (by decide)) (fun hp => ?_) (fun hp => ?_)
        · refine x_iinc (v := (1 : Int32)) (lst' := [(2, .inl (x2 + (1 : Int32))), (3, .inl v10_2), (0, .inr (some a0)), (1, .inl x1)]) X dX7_nextToAsk_35 hl 3 rfl (by decide) (by decide) rfl (fun ls hl => ?_)
          refine lv_goto (tgt := 2) hx hb dX7_nextToAsk_38 (by decide) ?_
          exact ih _ _ _ _ _ _ V (lx_sub hl [2, 3, 0] rfl) hp
        · refine x_iload_n X dX7_nextToAsk_33 hl 0 rfl rfl ?_
          exact q_iret X V hr ⟨by decide, by decide⟩ dX7_nextToAsk_34 hp
def pX7_nextToAsk_0 (N a0 : Nat) (G : mm_M) (x1 : Int32) : Option (mm_M × Int32) :=
  pX7_nextToAsk_2 N a0 (fun (G : mm_M) =>
    some (G, (-1 : Int32))) N G x1 (0 : Int32)
set_option maxRecDepth 100000 in
set_option maxHeartbeats 4000000 in
theorem bX7_nextToAsk_0 {p : Program} {l : Launch} {e : Env} {s : State} {m : MethodId} {args : Array Value} {below : List Frame} {meth : Method} {c : Code} {E : mm_E} {N a0 : Nat} {res : mm_M × Int32} (X : mm_X p s m args meth c prog_9_method_26_code 4 "XorOverlayModel" tw_T E) (hr : meth.sig.returnType = (Option.some .int)) {G : mm_M} {H : Heap} {locs : List Loc} {ls : Array Slot} {x1 : Int32} (V : mm_V E s G H locs) (hl : lx_has ls 4 [(0, .inr (some a0)), (1, .inl x1)]) (hp : pX7_nextToAsk_0 N a0 G x1 = some res) : W p l e rX7_nextToAsk s m args below meth c H locs 0 0 (MQ below (mm_Qi E res.1 res.2) args s 0 0 (mm_A E)) (F0 m 0 ls []) := by
  have hx := X.1.1
  have hb := X.1.2.1
  unfold pX7_nextToAsk_0 at hp
  refine lv_iconst (v := (0 : Int32)) hx hb dX7_nextToAsk_0 (by decide) ?_
  refine x_istore_n (lst' := [(2, .inl (0 : Int32)), (0, .inr (some a0)), (1, .inl x1)]) X dX7_nextToAsk_1 hl rfl (by decide) rfl (fun ls hl => ?_)
  refine bX7_nextToAsk_2 X hr (fun G H locs ls V hl hp => ?_) _ _ _ _ _ _ _ V (lx_sub hl [1, 2, 0] rfl) hp
  refine lv_iconst (v := (-1 : Int32)) hx hb dX7_nextToAsk_41 (by decide) ?_
  exact q_iret X V hr ⟨by decide, by decide⟩ dX7_nextToAsk_42 hp
theorem cX7_nextToAsk (l : Launch) (E : mm_E) {N a0 : Nat} {G : mm_M} {x1 : Int32} {res : mm_M × Int32} (hp : pX7_nextToAsk_0 N a0 G x1 = some res) : Met l yX7_nextToAsk (Cond.code yX7_nextToAsk prog_9_method_26_code 4 (Option.some .int) :: tw_T) rX7_nextToAsk (mm_Pc E G [.ref a0, .int x1]) (mm_Qi E res.1 res.2) 0 0 (mm_A E) :=
  mm_met (own := "XorOverlayModel") E G [.inr (some a0), .inl x1] (by decide) rfl rfl (Nat.le_of_ble_eq_true rfl) (fun p e s m args below meth c ls X hr hi V hl => bX7_nextToAsk_0 X hr V hl hp)
abbrev yX7_askedNow : MethodName := ⟨"XorOverlayModel", "askedNow", "(I)I"⟩
abbrev rX7_askedNow : Room := { frames := 0, cells := 0, slots := 0, locals := 0 }
theorem kX7_askedNow : Cond.code yX7_askedNow prog_9_method_25_code 4 (Option.some .int) ∈ tw_T ∧ Cond.instanceMethod yX7_askedNow ∈ tw_T ∧ Cond.selects "XorOverlayModel" yX7_askedNow yX7_askedNow ∈ tw_T ∧ Cond.initialized "XorOverlayModel" ∈ tw_T := ⟨(tw_3 179 rfl rfl), (tw_3 178 rfl rfl), (tw_s 33 rfl rfl), (tw_1 3 rfl rfl)⟩
theorem hX7_askedNow : yX7_askedNow.cls = "XorOverlayModel" ∧ yX7_askedNow.cls ≠ "java/lang/invoke/MethodHandle" ∧ yX7_askedNow.cls ≠ "java/lang/invoke/VarHandle" ∧ (parseMethodDescriptor yX7_askedNow.desc).map (fun d => d.parameters.length) = some 1 := by decide +kernel
theorem dX7_askedNow_0 : decode prog_9_method_25_code 0 = .ok (.iconst 0, 1) := by decide +kernel
theorem dX7_askedNow_1 : decode prog_9_method_25_code 1 = .ok (.istore_n 2, 1) := by decide +kernel
theorem dX7_askedNow_2 : decode prog_9_method_25_code 2 = .ok (.iconst 0, 1) := by decide +kernel
theorem dX7_askedNow_3 : decode prog_9_method_25_code 3 = .ok (.istore_n 3, 1) := by decide +kernel
theorem dX7_askedNow_4 : decode prog_9_method_25_code 4 = .ok (.iload_n 3, 1) := by decide +kernel
theorem dX7_askedNow_5 : decode prog_9_method_25_code 5 = .ok (.aload_n 0, 1) := by decide +kernel
theorem dX7_askedNow_6 : decode prog_9_method_25_code 6 = .ok (.getfield 77, 3) := by decide +kernel
theorem dX7_askedNow_9 : decode prog_9_method_25_code 9 = .ok (.if_icmp .ge 32, 3) := by decide +kernel
theorem dX7_askedNow_12 : decode prog_9_method_25_code 12 = .ok (.aload_n 0, 1) := by decide +kernel
theorem dX7_askedNow_13 : decode prog_9_method_25_code 13 = .ok (.getfield 56, 3) := by decide +kernel
theorem dX7_askedNow_16 : decode prog_9_method_25_code 16 = .ok (.bipush 12, 2) := by decide +kernel
theorem dX7_askedNow_18 : decode prog_9_method_25_code 18 = .ok (.iload_n 1, 1) := by decide +kernel
theorem dX7_askedNow_19 : decode prog_9_method_25_code 19 = .ok (.imul, 1) := by decide +kernel
theorem dX7_askedNow_20 : decode prog_9_method_25_code 20 = .ok (.iload_n 3, 1) := by decide +kernel
theorem dX7_askedNow_21 : decode prog_9_method_25_code 21 = .ok (.iadd, 1) := by decide +kernel
theorem dX7_askedNow_22 : decode prog_9_method_25_code 22 = .ok (.iaload, 1) := by decide +kernel
theorem dX7_askedNow_23 : decode prog_9_method_25_code 23 = .ok (.iconst 2, 1) := by decide +kernel
theorem dX7_askedNow_24 : decode prog_9_method_25_code 24 = .ok (.if_icmp .ne 9, 3) := by decide +kernel
theorem dX7_askedNow_27 : decode prog_9_method_25_code 27 = .ok (.iload_n 2, 1) := by decide +kernel
theorem dX7_askedNow_28 : decode prog_9_method_25_code 28 = .ok (.iconst 1, 1) := by decide +kernel
theorem dX7_askedNow_29 : decode prog_9_method_25_code 29 = .ok (.iadd, 1) := by decide +kernel
theorem dX7_askedNow_30 : decode prog_9_method_25_code 30 = .ok (.goto 4, 3) := by decide +kernel
theorem dX7_askedNow_33 : decode prog_9_method_25_code 33 = .ok (.iload_n 2, 1) := by decide +kernel
theorem dX7_askedNow_34 : decode prog_9_method_25_code 34 = .ok (.istore_n 2, 1) := by decide +kernel
theorem dX7_askedNow_35 : decode prog_9_method_25_code 35 = .ok (.iinc 3 1, 3) := by decide +kernel
theorem dX7_askedNow_38 : decode prog_9_method_25_code 38 = .ok (.goto (-34), 3) := by decide +kernel
theorem dX7_askedNow_41 : decode prog_9_method_25_code 41 = .ok (.iload_n 2, 1) := by decide +kernel
theorem dX7_askedNow_42 : decode prog_9_method_25_code 42 = .ok (.ireturn, 1) := by decide +kernel
def pX7_askedNow_4_b (N a0 : Nat) (kb : mm_M → Int32 → Int32 → Int32 → Option (mm_M × Int32)) (kx : mm_M → Int32 → Option (mm_M × Int32)) (G : mm_M) (x1 : Int32) (x2 : Int32) (x3 : Int32) : Option (mm_M × Int32) :=
  q_gI G a0 8 3 fun v6_1 =>
  if v6_1 ≤ x3 then
    kx G x2
  else
    q_gR G a0 8 19 fun r13_2 =>
    q_nn r13_2 fun b22_3 =>
    q_aI G b22_3 101 (((12 : Int32) * x1) + x3) fun v22_4 =>
    if v22_4 = (2 : Int32) then
      kb G x1 (x2 + (1 : Int32)) (x3 + (1 : Int32))
    else
      kb G x1 x2 (x3 + (1 : Int32))
def pX7_askedNow_4 (N a0 : Nat) (kx : mm_M → Int32 → Option (mm_M × Int32)) : Nat → mm_M → Int32 → Int32 → Int32 → Option (mm_M × Int32)
  | 0 => fun _ _ _ _ => none
  | n + 1 => pX7_askedNow_4_b N a0 (pX7_askedNow_4 N a0 kx n) kx
set_option maxRecDepth 100000 in
set_option maxHeartbeats 4000000 in
theorem bX7_askedNow_4 {p : Program} {l : Launch} {e : Env} {s : State} {m : MethodId} {args : Array Value} {below : List Frame} {meth : Method} {c : Code} {E : mm_E} {N a0 : Nat} {res : mm_M × Int32} (X : mm_X p s m args meth c prog_9_method_25_code 4 "XorOverlayModel" tw_T E) (hr : meth.sig.returnType = (Option.some .int)) {kx : mm_M → Int32 → Option (mm_M × Int32)} (hkx : ∀ (G : mm_M) (H : Heap) (locs : List Loc) (ls : Array Slot) (x2 : Int32), mm_V E s G H locs → lx_has ls 4 [(0, .inr (some a0)), (2, .inl x2)] → kx G x2 = some res → W p l e rX7_askedNow s m args below meth c H locs 0 0 (MQ below (mm_Qi E res.1 res.2) args s 0 0 (mm_A E)) (F0 m 41 ls [])) :
    ∀ (n : Nat) (G : mm_M) (H : Heap) (locs : List Loc) (ls : Array Slot) (x1 : Int32) (x2 : Int32) (x3 : Int32), mm_V E s G H locs → lx_has ls 4 [(0, .inr (some a0)), (1, .inl x1), (2, .inl x2), (3, .inl x3)] → pX7_askedNow_4 N a0 kx n G x1 x2 x3 = some res → W p l e rX7_askedNow s m args below meth c H locs 0 0 (MQ below (mm_Qi E res.1 res.2) args s 0 0 (mm_A E)) (F0 m 4 ls []) := by
  have hx := X.1.1
  have hb := X.1.2.1
  intro n
  induction n with
  | zero =>
    intro G H locs ls x1 x2 x3 V hl hp
    cases hp
  | succ n ih =>
    intro G H locs ls x1 x2 x3 V hl hp
    have hp : pX7_askedNow_4_b N a0 (pX7_askedNow_4 N a0 kx n) kx G x1 x2 x3 = some res := hp
    unfold pX7_askedNow_4_b at hp
    refine x_iload_n X dX7_askedNow_4 hl 3 rfl rfl ?_
    refine x_aload_n X dX7_askedNow_5 hl 0 rfl rfl ?_
    refine q_getI (ci := 7) X V inX7 rfl (by decide) rfl 3 (by decide) rfl (tw_3 32 rfl rfl) rfl dX7_askedNow_6 hp (fun v6_1 hp => ?_)
    refine q_if hp (lv_icmp_ge (tgt := 41) hx hb dX7_askedNow_9 (by decide)) (fun hp => ?_) (fun hp => ?_)
    · exact hkx _ _ _ _ _ V (lx_sub hl [0, 2] rfl) hp
    · refine x_aload_n X dX7_askedNow_12 hl 0 rfl rfl ?_
      refine q_getR (ci := 7) X V inX7 rfl (by decide) rfl 19 (by decide) rfl (tw_3 48 rfl rfl) rfl dX7_askedNow_13 hp (fun r13_2 hp => ?_)
      refine lv_bipush (v := (12 : Int32)) hx hb dX7_askedNow_16 (by decide) ?_
      refine x_iload_n X dX7_askedNow_18 hl 1 rfl rfl ?_
      refine lv_imul hx hb dX7_askedNow_19 ?_
      refine x_iload_n X dX7_askedNow_20 hl 3 rfl rfl ?_
      refine lv_iadd hx hb dX7_askedNow_21 ?_
      obtain ⟨b22_3, e0, hp2⟩ := q_nn_of hp
      clear hp; subst e0; have hp := hp2; clear hp2
      refine q_iald X V dX7_askedNow_22 hp (fun v22_4 hp => ?_)
      refine lv_iconst (v := (2 : Int32)) hx hb dX7_askedNow_23 (by decide) ?_
      refine q_ifn hp (lv_icmp_ne (tgt := 33) hx hb dX7_askedNow_24 (by decide)) (fun hp => ?_) (fun hp => ?_)
      · refine x_iload_n X dX7_askedNow_33 hl 2 rfl rfl ?_
        refine x_istore_n (lst' := [(2, .inl x2), (0, .inr (some a0)), (1, .inl x1), (3, .inl x3)]) X dX7_askedNow_34 hl rfl (by decide) rfl (fun ls hl => ?_)
        refine x_iinc (v := (1 : Int32)) (lst' := [(3, .inl (x3 + (1 : Int32))), (2, .inl x2), (0, .inr (some a0)), (1, .inl x1)]) X dX7_askedNow_35 hl 3 rfl (by decide) (by decide) rfl (fun ls hl => ?_)
        refine lv_goto (tgt := 4) hx hb dX7_askedNow_38 (by decide) ?_
        exact ih _ _ _ _ _ _ _ V (lx_sub hl [2, 3, 1, 0] rfl) hp
      · refine x_iload_n X dX7_askedNow_27 hl 2 rfl rfl ?_
        refine lv_iconst (v := (1 : Int32)) hx hb dX7_askedNow_28 (by decide) ?_
        refine lv_iadd hx hb dX7_askedNow_29 ?_
        refine lv_goto (tgt := 34) hx hb dX7_askedNow_30 (by decide) ?_
        refine x_istore_n (lst' := [(2, .inl (x2 + (1 : Int32))), (0, .inr (some a0)), (1, .inl x1), (3, .inl x3)]) X dX7_askedNow_34 hl rfl (by decide) rfl (fun ls hl => ?_)
        refine x_iinc (v := (1 : Int32)) (lst' := [(3, .inl (x3 + (1 : Int32))), (2, .inl (x2 + (1 : Int32))), (0, .inr (some a0)), (1, .inl x1)]) X dX7_askedNow_35 hl 3 rfl (by decide) (by decide) rfl (fun ls hl => ?_)
        refine lv_goto (tgt := 4) hx hb dX7_askedNow_38 (by decide) ?_
        exact ih _ _ _ _ _ _ _ V (lx_sub hl [2, 3, 1, 0] rfl) hp
def pX7_askedNow_0 (N a0 : Nat) (G : mm_M) (x1 : Int32) : Option (mm_M × Int32) :=
  pX7_askedNow_4 N a0 (fun (G : mm_M) (x2 : Int32) =>
    some (G, x2)) N G x1 (0 : Int32) (0 : Int32)
set_option maxRecDepth 100000 in
set_option maxHeartbeats 4000000 in
theorem bX7_askedNow_0 {p : Program} {l : Launch} {e : Env} {s : State} {m : MethodId} {args : Array Value} {below : List Frame} {meth : Method} {c : Code} {E : mm_E} {N a0 : Nat} {res : mm_M × Int32} (X : mm_X p s m args meth c prog_9_method_25_code 4 "XorOverlayModel" tw_T E) (hr : meth.sig.returnType = (Option.some .int)) {G : mm_M} {H : Heap} {locs : List Loc} {ls : Array Slot} {x1 : Int32} (V : mm_V E s G H locs) (hl : lx_has ls 4 [(0, .inr (some a0)), (1, .inl x1)]) (hp : pX7_askedNow_0 N a0 G x1 = some res) : W p l e rX7_askedNow s m args below meth c H locs 0 0 (MQ below (mm_Qi E res.1 res.2) args s 0 0 (mm_A E)) (F0 m 0 ls []) := by
  have hx := X.1.1
  have hb := X.1.2.1
  unfold pX7_askedNow_0 at hp
  refine lv_iconst (v := (0 : Int32)) hx hb dX7_askedNow_0 (by decide) ?_
  refine x_istore_n (lst' := [(2, .inl (0 : Int32)), (0, .inr (some a0)), (1, .inl x1)]) X dX7_askedNow_1 hl rfl (by decide) rfl (fun ls hl => ?_)
  refine lv_iconst (v := (0 : Int32)) hx hb dX7_askedNow_2 (by decide) ?_
  refine x_istore_n (lst' := [(3, .inl (0 : Int32)), (2, .inl (0 : Int32)), (0, .inr (some a0)), (1, .inl x1)]) X dX7_askedNow_3 hl rfl (by decide) rfl (fun ls hl => ?_)
  refine bX7_askedNow_4 X hr (fun G H locs ls x2 V hl hp => ?_) _ _ _ _ _ _ _ _ V (lx_sub hl [2, 3, 1, 0] rfl) hp
  refine x_iload_n X dX7_askedNow_41 hl 1 rfl rfl ?_
  exact q_iret X V hr ⟨by decide, by decide⟩ dX7_askedNow_42 hp
theorem cX7_askedNow (l : Launch) (E : mm_E) {N a0 : Nat} {G : mm_M} {x1 : Int32} {res : mm_M × Int32} (hp : pX7_askedNow_0 N a0 G x1 = some res) : Met l yX7_askedNow (Cond.code yX7_askedNow prog_9_method_25_code 4 (Option.some .int) :: tw_T) rX7_askedNow (mm_Pc E G [.ref a0, .int x1]) (mm_Qi E res.1 res.2) 0 0 (mm_A E) :=
  mm_met (own := "XorOverlayModel") E G [.inr (some a0), .inl x1] (by decide) rfl rfl (Nat.le_of_ble_eq_true rfl) (fun p e s m args below meth c ls X hr hi V hl => bX7_askedNow_0 X hr V hl hp)
abbrev yX7_goOn : MethodName := ⟨"XorOverlayModel", "goOn", "(I)V"⟩
abbrev rX7_goOn : Room := { frames := 3, cells := 0, slots := 0, locals := 74 }
theorem kX7_goOn : Cond.code yX7_goOn prog_9_method_27_code 5 none ∈ tw_T ∧ Cond.instanceMethod yX7_goOn ∈ tw_T ∧ Cond.selects "XorOverlayModel" yX7_goOn yX7_goOn ∈ tw_T ∧ Cond.initialized "XorOverlayModel" ∈ tw_T := ⟨(tw_3 163 rfl rfl), (tw_3 162 rfl rfl), (tw_s 29 rfl rfl), (tw_1 3 rfl rfl)⟩
theorem hX7_goOn : yX7_goOn.cls = "XorOverlayModel" ∧ yX7_goOn.cls ≠ "java/lang/invoke/MethodHandle" ∧ yX7_goOn.cls ≠ "java/lang/invoke/VarHandle" ∧ (parseMethodDescriptor yX7_goOn.desc).map (fun d => d.parameters.length) = some 1 := by decide +kernel
theorem dX7_goOn_0 : decode prog_9_method_27_code 0 = .ok (.aload_n 0, 1) := by decide +kernel
theorem dX7_goOn_1 : decode prog_9_method_27_code 1 = .ok (.iload_n 1, 1) := by decide +kernel
theorem dX7_goOn_2 : decode prog_9_method_27_code 2 = .ok (.invokevirtual 143, 3) := by decide +kernel
theorem dX7_goOn_5 : decode prog_9_method_27_code 5 = .ok (.istore_n 2, 1) := by decide +kernel
theorem dX7_goOn_6 : decode prog_9_method_27_code 6 = .ok (.iconst 0, 1) := by decide +kernel
theorem dX7_goOn_7 : decode prog_9_method_27_code 7 = .ok (.istore_n 3, 1) := by decide +kernel
theorem dX7_goOn_8 : decode prog_9_method_27_code 8 = .ok (.iload_n 3, 1) := by decide +kernel
theorem dX7_goOn_9 : decode prog_9_method_27_code 9 = .ok (.bipush 12, 2) := by decide +kernel
theorem dX7_goOn_11 : decode prog_9_method_27_code 11 = .ok (.if_icmp .ge 90, 3) := by decide +kernel
theorem dX7_goOn_14 : decode prog_9_method_27_code 14 = .ok (.iload_n 2, 1) := by decide +kernel
theorem dX7_goOn_15 : decode prog_9_method_27_code 15 = .ok (.ifCond .lt 86, 3) := by decide +kernel
theorem dX7_goOn_18 : decode prog_9_method_27_code 18 = .ok (.aload_n 0, 1) := by decide +kernel
theorem dX7_goOn_19 : decode prog_9_method_27_code 19 = .ok (.iload_n 1, 1) := by decide +kernel
theorem dX7_goOn_20 : decode prog_9_method_27_code 20 = .ok (.invokevirtual 146, 3) := by decide +kernel
theorem dX7_goOn_23 : decode prog_9_method_27_code 23 = .ok (.iconst 2, 1) := by decide +kernel
theorem dX7_goOn_24 : decode prog_9_method_27_code 24 = .ok (.if_icmp .ge 77, 3) := by decide +kernel
theorem dX7_goOn_27 : decode prog_9_method_27_code 27 = .ok (.aload_n 0, 1) := by decide +kernel
theorem dX7_goOn_28 : decode prog_9_method_27_code 28 = .ok (.getfield 56, 3) := by decide +kernel
theorem dX7_goOn_31 : decode prog_9_method_27_code 31 = .ok (.bipush 12, 2) := by decide +kernel
theorem dX7_goOn_33 : decode prog_9_method_27_code 33 = .ok (.iload_n 1, 1) := by decide +kernel
theorem dX7_goOn_34 : decode prog_9_method_27_code 34 = .ok (.imul, 1) := by decide +kernel
theorem dX7_goOn_35 : decode prog_9_method_27_code 35 = .ok (.iload_n 2, 1) := by decide +kernel
theorem dX7_goOn_36 : decode prog_9_method_27_code 36 = .ok (.iadd, 1) := by decide +kernel
theorem dX7_goOn_37 : decode prog_9_method_27_code 37 = .ok (.iconst 2, 1) := by decide +kernel
theorem dX7_goOn_38 : decode prog_9_method_27_code 38 = .ok (.iastore, 1) := by decide +kernel
theorem dX7_goOn_39 : decode prog_9_method_27_code 39 = .ok (.aload_n 0, 1) := by decide +kernel
theorem dX7_goOn_40 : decode prog_9_method_27_code 40 = .ok (.getfield 59, 3) := by decide +kernel
theorem dX7_goOn_43 : decode prog_9_method_27_code 43 = .ok (.bipush 12, 2) := by decide +kernel
theorem dX7_goOn_45 : decode prog_9_method_27_code 45 = .ok (.iload_n 1, 1) := by decide +kernel
theorem dX7_goOn_46 : decode prog_9_method_27_code 46 = .ok (.imul, 1) := by decide +kernel
theorem dX7_goOn_47 : decode prog_9_method_27_code 47 = .ok (.iload_n 2, 1) := by decide +kernel
theorem dX7_goOn_48 : decode prog_9_method_27_code 48 = .ok (.iadd, 1) := by decide +kernel
theorem dX7_goOn_49 : decode prog_9_method_27_code 49 = .ok (.aload_n 0, 1) := by decide +kernel
theorem dX7_goOn_50 : decode prog_9_method_27_code 50 = .ok (.getfield 99, 3) := by decide +kernel
theorem dX7_goOn_53 : decode prog_9_method_27_code 53 = .ok (.iastore, 1) := by decide +kernel
theorem dX7_goOn_54 : decode prog_9_method_27_code 54 = .ok (.aload_n 0, 1) := by decide +kernel
theorem dX7_goOn_55 : decode prog_9_method_27_code 55 = .ok (.aload_n 0, 1) := by decide +kernel
theorem dX7_goOn_56 : decode prog_9_method_27_code 56 = .ok (.getfield 47, 3) := by decide +kernel
theorem dX7_goOn_59 : decode prog_9_method_27_code 59 = .ok (.iload_n 1, 1) := by decide +kernel
theorem dX7_goOn_60 : decode prog_9_method_27_code 60 = .ok (.iaload, 1) := by decide +kernel
theorem dX7_goOn_61 : decode prog_9_method_27_code 61 = .ok (.iconst 1, 1) := by decide +kernel
theorem dX7_goOn_62 : decode prog_9_method_27_code 62 = .ok (.if_icmp .ne 7, 3) := by decide +kernel
theorem dX7_goOn_65 : decode prog_9_method_27_code 65 = .ok (.iconst 1, 1) := by decide +kernel
theorem dX7_goOn_66 : decode prog_9_method_27_code 66 = .ok (.goto 4, 3) := by decide +kernel
theorem dX7_goOn_69 : decode prog_9_method_27_code 69 = .ok (.iconst 0, 1) := by decide +kernel
theorem dX7_goOn_70 : decode prog_9_method_27_code 70 = .ok (.iload_n 1, 1) := by decide +kernel
theorem dX7_goOn_71 : decode prog_9_method_27_code 71 = .ok (.iload_n 2, 1) := by decide +kernel
theorem dX7_goOn_72 : decode prog_9_method_27_code 72 = .ok (.aload_n 0, 1) := by decide +kernel
theorem dX7_goOn_73 : decode prog_9_method_27_code 73 = .ok (.getfield 53, 3) := by decide +kernel
theorem dX7_goOn_76 : decode prog_9_method_27_code 76 = .ok (.iload_n 1, 1) := by decide +kernel
theorem dX7_goOn_77 : decode prog_9_method_27_code 77 = .ok (.iaload, 1) := by decide +kernel
theorem dX7_goOn_78 : decode prog_9_method_27_code 78 = .ok (.aload_n 0, 1) := by decide +kernel
theorem dX7_goOn_79 : decode prog_9_method_27_code 79 = .ok (.getfield 50, 3) := by decide +kernel
theorem dX7_goOn_82 : decode prog_9_method_27_code 82 = .ok (.iload_n 1, 1) := by decide +kernel
theorem dX7_goOn_83 : decode prog_9_method_27_code 83 = .ok (.iaload, 1) := by decide +kernel
theorem dX7_goOn_84 : decode prog_9_method_27_code 84 = .ok (.iconst (-1), 1) := by decide +kernel
theorem dX7_goOn_85 : decode prog_9_method_27_code 85 = .ok (.invokevirtual 121, 3) := by decide +kernel
theorem dX7_goOn_88 : decode prog_9_method_27_code 88 = .ok (.pop, 1) := by decide +kernel
theorem dX7_goOn_89 : decode prog_9_method_27_code 89 = .ok (.aload_n 0, 1) := by decide +kernel
theorem dX7_goOn_90 : decode prog_9_method_27_code 90 = .ok (.iload_n 1, 1) := by decide +kernel
theorem dX7_goOn_91 : decode prog_9_method_27_code 91 = .ok (.invokevirtual 143, 3) := by decide +kernel
theorem dX7_goOn_94 : decode prog_9_method_27_code 94 = .ok (.istore_n 2, 1) := by decide +kernel
theorem dX7_goOn_95 : decode prog_9_method_27_code 95 = .ok (.iinc 3 1, 3) := by decide +kernel
theorem dX7_goOn_98 : decode prog_9_method_27_code 98 = .ok (.goto (-90), 3) := by decide +kernel
theorem dX7_goOn_101 : decode prog_9_method_27_code 101 = .ok (.aload_n 0, 1) := by decide +kernel
theorem dX7_goOn_102 : decode prog_9_method_27_code 102 = .ok (.iload_n 1, 1) := by decide +kernel
theorem dX7_goOn_103 : decode prog_9_method_27_code 103 = .ok (.invokevirtual 146, 3) := by decide +kernel
theorem dX7_goOn_106 : decode prog_9_method_27_code 106 = .ok (.ifCond .le 4, 3) := by decide +kernel
theorem dX7_goOn_109 : decode prog_9_method_27_code 109 = .ok (.return_, 1) := by decide +kernel
theorem dX7_goOn_110 : decode prog_9_method_27_code 110 = .ok (.aload_n 0, 1) := by decide +kernel
theorem dX7_goOn_111 : decode prog_9_method_27_code 111 = .ok (.getfield 44, 3) := by decide +kernel
theorem dX7_goOn_114 : decode prog_9_method_27_code 114 = .ok (.iload_n 1, 1) := by decide +kernel
theorem dX7_goOn_115 : decode prog_9_method_27_code 115 = .ok (.iconst 2, 1) := by decide +kernel
theorem dX7_goOn_116 : decode prog_9_method_27_code 116 = .ok (.iastore, 1) := by decide +kernel
theorem dX7_goOn_117 : decode prog_9_method_27_code 117 = .ok (.iconst 0, 1) := by decide +kernel
theorem dX7_goOn_118 : decode prog_9_method_27_code 118 = .ok (.istore_n 3, 1) := by decide +kernel
theorem dX7_goOn_119 : decode prog_9_method_27_code 119 = .ok (.iload_n 3, 1) := by decide +kernel
theorem dX7_goOn_120 : decode prog_9_method_27_code 120 = .ok (.iconst 3, 1) := by decide +kernel
theorem dX7_goOn_121 : decode prog_9_method_27_code 121 = .ok (.if_icmp .ge 65, 3) := by decide +kernel
theorem dX7_goOn_124 : decode prog_9_method_27_code 124 = .ok (.aload_n 0, 1) := by decide +kernel
theorem dX7_goOn_125 : decode prog_9_method_27_code 125 = .ok (.getfield 47, 3) := by decide +kernel
theorem dX7_goOn_128 : decode prog_9_method_27_code 128 = .ok (.iload_n 1, 1) := by decide +kernel
theorem dX7_goOn_129 : decode prog_9_method_27_code 129 = .ok (.iaload, 1) := by decide +kernel
theorem dX7_goOn_130 : decode prog_9_method_27_code 130 = .ok (.iconst 2, 1) := by decide +kernel
theorem dX7_goOn_131 : decode prog_9_method_27_code 131 = .ok (.if_icmp .ne 55, 3) := by decide +kernel
theorem dX7_goOn_134 : decode prog_9_method_27_code 134 = .ok (.aload_n 0, 1) := by decide +kernel
theorem dX7_goOn_135 : decode prog_9_method_27_code 135 = .ok (.iload_n 1, 1) := by decide +kernel
theorem dX7_goOn_136 : decode prog_9_method_27_code 136 = .ok (.iload_n 3, 1) := by decide +kernel
theorem dX7_goOn_137 : decode prog_9_method_27_code 137 = .ok (.invokevirtual 140, 3) := by decide +kernel
theorem dX7_goOn_140 : decode prog_9_method_27_code 140 = .ok (.istore 4, 2) := by decide +kernel
theorem dX7_goOn_142 : decode prog_9_method_27_code 142 = .ok (.iload 4, 2) := by decide +kernel
theorem dX7_goOn_144 : decode prog_9_method_27_code 144 = .ok (.ifCond .lt 36, 3) := by decide +kernel
theorem dX7_goOn_147 : decode prog_9_method_27_code 147 = .ok (.aload_n 0, 1) := by decide +kernel
theorem dX7_goOn_148 : decode prog_9_method_27_code 148 = .ok (.iconst 3, 1) := by decide +kernel
theorem dX7_goOn_149 : decode prog_9_method_27_code 149 = .ok (.iload_n 1, 1) := by decide +kernel
theorem dX7_goOn_150 : decode prog_9_method_27_code 150 = .ok (.iload 4, 2) := by decide +kernel
theorem dX7_goOn_152 : decode prog_9_method_27_code 152 = .ok (.aload_n 0, 1) := by decide +kernel
theorem dX7_goOn_153 : decode prog_9_method_27_code 153 = .ok (.getfield 53, 3) := by decide +kernel
theorem dX7_goOn_156 : decode prog_9_method_27_code 156 = .ok (.iload_n 1, 1) := by decide +kernel
theorem dX7_goOn_157 : decode prog_9_method_27_code 157 = .ok (.iaload, 1) := by decide +kernel
theorem dX7_goOn_158 : decode prog_9_method_27_code 158 = .ok (.aload_n 0, 1) := by decide +kernel
theorem dX7_goOn_159 : decode prog_9_method_27_code 159 = .ok (.getfield 50, 3) := by decide +kernel
theorem dX7_goOn_162 : decode prog_9_method_27_code 162 = .ok (.iload_n 1, 1) := by decide +kernel
theorem dX7_goOn_163 : decode prog_9_method_27_code 163 = .ok (.iaload, 1) := by decide +kernel
theorem dX7_goOn_164 : decode prog_9_method_27_code 164 = .ok (.aload_n 0, 1) := by decide +kernel
theorem dX7_goOn_165 : decode prog_9_method_27_code 165 = .ok (.getfield 62, 3) := by decide +kernel
theorem dX7_goOn_168 : decode prog_9_method_27_code 168 = .ok (.bipush 12, 2) := by decide +kernel
theorem dX7_goOn_170 : decode prog_9_method_27_code 170 = .ok (.iload_n 1, 1) := by decide +kernel
theorem dX7_goOn_171 : decode prog_9_method_27_code 171 = .ok (.imul, 1) := by decide +kernel
theorem dX7_goOn_172 : decode prog_9_method_27_code 172 = .ok (.iload 4, 2) := by decide +kernel
theorem dX7_goOn_174 : decode prog_9_method_27_code 174 = .ok (.iadd, 1) := by decide +kernel
theorem dX7_goOn_175 : decode prog_9_method_27_code 175 = .ok (.iaload, 1) := by decide +kernel
theorem dX7_goOn_176 : decode prog_9_method_27_code 176 = .ok (.invokevirtual 121, 3) := by decide +kernel
theorem dX7_goOn_179 : decode prog_9_method_27_code 179 = .ok (.pop, 1) := by decide +kernel
theorem dX7_goOn_180 : decode prog_9_method_27_code 180 = .ok (.iinc 3 1, 3) := by decide +kernel
theorem dX7_goOn_183 : decode prog_9_method_27_code 183 = .ok (.goto (-64), 3) := by decide +kernel
theorem dX7_goOn_186 : decode prog_9_method_27_code 186 = .ok (.return_, 1) := by decide +kernel
def pX7_goOn_70 (N a0 : Nat) (kb : mm_M → Int32 → Int32 → Int32 → Option (mm_M × Unit)) (kx : mm_M → Int32 → Option (mm_M × Unit)) (G : mm_M) (x1 : Int32) (x2 : Int32) (x3 : Int32) (s0 : Option Nat) (s1 : Int32) : Option (mm_M × Unit) :=
  q_gR G a0 8 18 fun r73_13 =>
  q_nn r73_13 fun b77_14 =>
  q_aI G b77_14 101 x1 fun v77_15 =>
  q_gR G a0 8 17 fun r79_16 =>
  q_nn r79_16 fun b83_17 =>
  q_aI G b83_17 101 x1 fun v83_18 =>
  q_nn s0 fun b85_19 =>
  q_is G b85_19 8 <|
  q_cl (pX7_send_0 N b85_19 G s1 x1 x2 v77_15 v83_18 (-1 : Int32)) fun G v85_21 =>
  q_is G a0 8 <|
  q_cl (pX7_nextToAsk_0 N a0 G x1) fun G v91_23 =>
  kb G x1 v91_23 (x3 + (1 : Int32))
set_option maxRecDepth 100000 in
set_option maxHeartbeats 4000000 in
theorem bX7_goOn_70 {p : Program} {l : Launch} {e : Env} {s : State} {m : MethodId} {args : Array Value} {below : List Frame} {meth : Method} {c : Code} {E : mm_E} {N a0 : Nat} {res : mm_M × Unit} (X : mm_X p s m args meth c prog_9_method_27_code 5 "XorOverlayModel" tw_T E) (hr : meth.sig.returnType = none) {kb : mm_M → Int32 → Int32 → Int32 → Option (mm_M × Unit)} {kx : mm_M → Int32 → Option (mm_M × Unit)} (ih : ∀ (G : mm_M) (H : Heap) (locs : List Loc) (ls : Array Slot) (x1 : Int32) (x2 : Int32) (x3 : Int32), mm_V E s G H locs → lx_has ls 5 [(0, .inr (some a0)), (1, .inl x1), (2, .inl x2), (3, .inl x3)] → kb G x1 x2 x3 = some res → W p l e rX7_goOn s m args below meth c H locs 0 0 (MQ below (mm_Qv E res.1) args s 0 0 (mm_A E)) (F0 m 8 ls [])) (hkx : ∀ (G : mm_M) (H : Heap) (locs : List Loc) (ls : Array Slot) (x1 : Int32), mm_V E s G H locs → lx_has ls 5 [(0, .inr (some a0)), (1, .inl x1)] → kx G x1 = some res → W p l e rX7_goOn s m args below meth c H locs 0 0 (MQ below (mm_Qv E res.1) args s 0 0 (mm_A E)) (F0 m 101 ls [])) {G : mm_M} {H : Heap} {locs : List Loc} {ls : Array Slot} {x1 : Int32} {x2 : Int32} {x3 : Int32} {s0 : Option Nat} {s1 : Int32} (V : mm_V E s G H locs) (hl : lx_has ls 5 [(0, .inr (some a0)), (1, .inl x1), (2, .inl x2), (3, .inl x3)]) (hp : pX7_goOn_70 N a0 kb kx G x1 x2 x3 s0 s1 = some res) : W p l e rX7_goOn s m args below meth c H locs 0 0 (MQ below (mm_Qv E res.1) args s 0 0 (mm_A E)) (F0 m 70 ls [.int s1, va_rf s0]) := by
  have hx := X.1.1
  have hb := X.1.2.1
  unfold pX7_goOn_70 at hp
  refine x_iload_n X dX7_goOn_70 hl 1 rfl rfl ?_
  refine x_iload_n X dX7_goOn_71 hl 2 rfl rfl ?_
  refine x_aload_n X dX7_goOn_72 hl 0 rfl rfl ?_
  refine q_getR (ci := 7) X V inX7 rfl (by decide) rfl 18 (by decide) rfl (tw_3 47 rfl rfl) rfl dX7_goOn_73 hp (fun r73_13 hp => ?_)
  refine x_iload_n X dX7_goOn_76 hl 1 rfl rfl ?_
  obtain ⟨b77_14, e0, hp2⟩ := q_nn_of hp
  clear hp; subst e0; have hp := hp2; clear hp2
  refine q_iald X V dX7_goOn_77 hp (fun v77_15 hp => ?_)
  refine x_aload_n X dX7_goOn_78 hl 0 rfl rfl ?_
  refine q_getR (ci := 7) X V inX7 rfl (by decide) rfl 17 (by decide) rfl (tw_3 46 rfl rfl) rfl dX7_goOn_79 hp (fun r79_16 hp => ?_)
  refine x_iload_n X dX7_goOn_82 hl 1 rfl rfl ?_
  obtain ⟨b83_17, e0, hp2⟩ := q_nn_of hp
  clear hp; subst e0; have hp := hp2; clear hp2
  refine q_iald X V dX7_goOn_83 hp (fun v83_18 hp => ?_)
  refine lv_iconst (v := (-1 : Int32)) hx hb dX7_goOn_84 (by decide) ?_
  obtain ⟨b85_19, e0, hp2⟩ := q_nn_of hp
  clear hp; subst e0; have hp := hp2; clear hp2
  obtain ⟨hk, hp⟩ := q_is_of hp
  obtain ⟨⟨G, v85_21⟩, hq, hp⟩ := q_cl_of hp
  dsimp only at hp
  refine q_goi (cells' := 0) (slots' := 0) (va_runV (As := [.int s1, .int x1, .int x2, .int v77_15, .int v83_18, .int (-1 : Int32)]) (rest := []) X.1 (cX7_send l E hq) (tw_cwV 6 X.1.2.2.2.2 (tw_3 180 rfl rfl) kX7_send.2.1 kX7_send.2.2.1 kX7_send.2.2.2 kX7_send.1 rfl rfl hX7_send ⟨Nat.le_of_ble_eq_true rfl, Nat.le_of_ble_eq_true rfl⟩) (mm_preV X V rfl (by decide) rfl hk) rfl rfl hl.1 rfl (lv_room (Nat.le_of_ble_eq_true rfl)) dX7_goOn_85 ⟨by decide, by decide⟩) V ⟨rfl, rfl⟩ (fun H locs V => ?_)
  refine lv_pop hx hb dX7_goOn_88 rfl ?_
  refine x_aload_n X dX7_goOn_89 hl 0 rfl rfl ?_
  refine x_iload_n X dX7_goOn_90 hl 1 rfl rfl ?_
  obtain ⟨hk, hp⟩ := q_is_of hp
  obtain ⟨⟨G, v91_23⟩, hq, hp⟩ := q_cl_of hp
  dsimp only at hp
  refine q_goi (cells' := 0) (slots' := 0) (va_runV (As := [.int x1]) (rest := []) X.1 (cX7_nextToAsk l E hq) (tw_cwV 1 X.1.2.2.2.2 (tw_3 164 rfl rfl) kX7_nextToAsk.2.1 kX7_nextToAsk.2.2.1 kX7_nextToAsk.2.2.2 kX7_nextToAsk.1 rfl rfl hX7_nextToAsk ⟨Nat.le_of_ble_eq_true rfl, Nat.le_of_ble_eq_true rfl⟩) (mm_preV X V rfl (by decide) rfl hk) rfl rfl hl.1 rfl (lv_room (Nat.le_of_ble_eq_true rfl)) dX7_goOn_91 ⟨by decide, by decide⟩) V ⟨rfl, rfl⟩ (fun H locs V => ?_)
  refine x_istore_n (lst' := [(2, .inl v91_23), (0, .inr (some a0)), (1, .inl x1), (3, .inl x3)]) X dX7_goOn_94 hl rfl (by decide) rfl (fun ls hl => ?_)
  refine x_iinc (v := (1 : Int32)) (lst' := [(3, .inl (x3 + (1 : Int32))), (2, .inl v91_23), (0, .inr (some a0)), (1, .inl x1)]) X dX7_goOn_95 hl 3 rfl (by decide) (by decide) rfl (fun ls hl => ?_)
  refine lv_goto (tgt := 8) hx hb dX7_goOn_98 (by decide) ?_
  exact ih _ _ _ _ _ _ _ V (lx_sub hl [2, 3, 1, 0] rfl) hp
def pX7_goOn_8_b (N a0 : Nat) (kb : mm_M → Int32 → Int32 → Int32 → Option (mm_M × Unit)) (kx : mm_M → Int32 → Option (mm_M × Unit)) (G : mm_M) (x1 : Int32) (x2 : Int32) (x3 : Int32) : Option (mm_M × Unit) :=
  if (12 : Int32) ≤ x3 then
    kx G x1
  else
    if x2 < 0 then
      kx G x1
    else
      q_is G a0 8 <|
      q_cl (pX7_askedNow_0 N a0 G x1) fun G v20_4 =>
      if (2 : Int32) ≤ v20_4 then
        kx G x1
      else
        q_gR G a0 8 19 fun r28_5 =>
        q_nn r28_5 fun b38_6 =>
        q_sI G b38_6 101 (((12 : Int32) * x1) + x2) (2 : Int32) fun G =>
        q_gR G a0 8 20 fun r40_7 =>
        q_gI G a0 8 0 fun v50_8 =>
        q_nn r40_7 fun b53_9 =>
        q_sI G b53_9 101 (((12 : Int32) * x1) + x2) v50_8 fun G =>
        q_gR G a0 8 16 fun r56_10 =>
        q_nn r56_10 fun b60_11 =>
        q_aI G b60_11 101 x1 fun v60_12 =>
        if v60_12 = (1 : Int32) then
          pX7_goOn_70 N a0 kb kx G x1 x2 x3 (some a0) (1 : Int32)
        else
          pX7_goOn_70 N a0 kb kx G x1 x2 x3 (some a0) (0 : Int32)
def pX7_goOn_8 (N a0 : Nat) (kx : mm_M → Int32 → Option (mm_M × Unit)) : Nat → mm_M → Int32 → Int32 → Int32 → Option (mm_M × Unit)
  | 0 => fun _ _ _ _ => none
  | n + 1 => pX7_goOn_8_b N a0 (pX7_goOn_8 N a0 kx n) kx
set_option maxRecDepth 100000 in
set_option maxHeartbeats 4000000 in
theorem bX7_goOn_8 {p : Program} {l : Launch} {e : Env} {s : State} {m : MethodId} {args : Array Value} {below : List Frame} {meth : Method} {c : Code} {E : mm_E} {N a0 : Nat} {res : mm_M × Unit} (X : mm_X p s m args meth c prog_9_method_27_code 5 "XorOverlayModel" tw_T E) (hr : meth.sig.returnType = none) {kx : mm_M → Int32 → Option (mm_M × Unit)} (hkx : ∀ (G : mm_M) (H : Heap) (locs : List Loc) (ls : Array Slot) (x1 : Int32), mm_V E s G H locs → lx_has ls 5 [(0, .inr (some a0)), (1, .inl x1)] → kx G x1 = some res → W p l e rX7_goOn s m args below meth c H locs 0 0 (MQ below (mm_Qv E res.1) args s 0 0 (mm_A E)) (F0 m 101 ls [])) :
    ∀ (n : Nat) (G : mm_M) (H : Heap) (locs : List Loc) (ls : Array Slot) (x1 : Int32) (x2 : Int32) (x3 : Int32), mm_V E s G H locs → lx_has ls 5 [(0, .inr (some a0)), (1, .inl x1), (2, .inl x2), (3, .inl x3)] → pX7_goOn_8 N a0 kx n G x1 x2 x3 = some res → W p l e rX7_goOn s m args below meth c H locs 0 0 (MQ below (mm_Qv E res.1) args s 0 0 (mm_A E)) (F0 m 8 ls []) := by
  have hx := X.1.1
  have hb := X.1.2.1
  intro n
  induction n with
  | zero =>
    intro G H locs ls x1 x2 x3 V hl hp
    cases hp
  | succ n ih =>
    intro G H locs ls x1 x2 x3 V hl hp
    have hp : pX7_goOn_8_b N a0 (pX7_goOn_8 N a0 kx n) kx G x1 x2 x3 = some res := hp
    unfold pX7_goOn_8_b at hp
    refine x_iload_n X dX7_goOn_8 hl 3 rfl rfl ?_
    refine lv_bipush (v := (12 : Int32)) hx hb dX7_goOn_9 (by decide) ?_
    refine q_if hp (lv_icmp_ge (tgt := 101) hx hb dX7_goOn_11 (by decide)) (fun hp => ?_) (fun hp => ?_)
    · exact hkx _ _ _ _ _ V (lx_sub hl [0, 1] rfl) hp
    · refine x_iload_n X dX7_goOn_14 hl 2 rfl rfl ?_
      refine q_if hp (lv_if_lt (tgt := 101) hx hb dX7_goOn_15 (by decide)) (fun hp => ?_) (fun hp => ?_)
      · exact hkx _ _ _ _ _ V (lx_sub hl [0, 1] rfl) hp
      · refine x_aload_n X dX7_goOn_18 hl 0 rfl rfl ?_
        refine x_iload_n X dX7_goOn_19 hl 1 rfl rfl ?_
        obtain ⟨hk, hp⟩ := q_is_of hp
        obtain ⟨⟨G, v20_4⟩, hq, hp⟩ := q_cl_of hp
        dsimp only at hp
        refine q_goi (cells' := 0) (slots' := 0) (va_runV (As := [.int x1]) (rest := []) X.1 (cX7_askedNow l E hq) (tw_cwV 1 X.1.2.2.2.2 (tw_3 176 rfl rfl) kX7_askedNow.2.1 kX7_askedNow.2.2.1 kX7_askedNow.2.2.2 kX7_askedNow.1 rfl rfl hX7_askedNow ⟨Nat.le_of_ble_eq_true rfl, Nat.le_of_ble_eq_true rfl⟩) (mm_preV X V rfl (by decide) rfl hk) rfl rfl hl.1 rfl (lv_room (Nat.le_of_ble_eq_true rfl)) dX7_goOn_20 ⟨by decide, by decide⟩) V ⟨rfl, rfl⟩ (fun H locs V => ?_)
        refine lv_iconst (v := (2 : Int32)) hx hb dX7_goOn_23 (by decide) ?_
        refine q_if hp (lv_icmp_ge (tgt := 101) hx hb dX7_goOn_24 (by decide)) (fun hp => ?_) (fun hp => ?_)
        · exact hkx _ _ _ _ _ V (lx_sub hl [0, 1] rfl) hp
        · refine x_aload_n X dX7_goOn_27 hl 0 rfl rfl ?_
          refine q_getR (ci := 7) X V inX7 rfl (by decide) rfl 19 (by decide) rfl (tw_3 48 rfl rfl) rfl dX7_goOn_28 hp (fun r28_5 hp => ?_)
          refine lv_bipush (v := (12 : Int32)) hx hb dX7_goOn_31 (by decide) ?_
          refine x_iload_n X dX7_goOn_33 hl 1 rfl rfl ?_
          refine lv_imul hx hb dX7_goOn_34 ?_
          refine x_iload_n X dX7_goOn_35 hl 2 rfl rfl ?_
          refine lv_iadd hx hb dX7_goOn_36 ?_
          refine lv_iconst (v := (2 : Int32)) hx hb dX7_goOn_37 (by decide) ?_
          obtain ⟨b38_6, e0, hp2⟩ := q_nn_of hp
          clear hp; subst e0; have hp := hp2; clear hp2
          refine q_iast X V dX7_goOn_38 hp (fun G H locs V hp => ?_)
          refine x_aload_n X dX7_goOn_39 hl 0 rfl rfl ?_
          refine q_getR (ci := 7) X V inX7 rfl (by decide) rfl 20 (by decide) rfl (tw_3 49 rfl rfl) rfl dX7_goOn_40 hp (fun r40_7 hp => ?_)
          refine lv_bipush (v := (12 : Int32)) hx hb dX7_goOn_43 (by decide) ?_
          refine x_iload_n X dX7_goOn_45 hl 1 rfl rfl ?_
          refine lv_imul hx hb dX7_goOn_46 ?_
          refine x_iload_n X dX7_goOn_47 hl 2 rfl rfl ?_
          refine lv_iadd hx hb dX7_goOn_48 ?_
          refine x_aload_n X dX7_goOn_49 hl 0 rfl rfl ?_
          refine q_getI (ci := 7) X V inX7 rfl (by decide) rfl 0 (by decide) rfl (tw_3 29 rfl rfl) rfl dX7_goOn_50 hp (fun v50_8 hp => ?_)
          obtain ⟨b53_9, e0, hp2⟩ := q_nn_of hp
          clear hp; subst e0; have hp := hp2; clear hp2
          refine q_iast X V dX7_goOn_53 hp (fun G H locs V hp => ?_)
          refine x_aload_n X dX7_goOn_54 hl 0 rfl rfl ?_
          refine x_aload_n X dX7_goOn_55 hl 0 rfl rfl ?_
          refine q_getR (ci := 7) X V inX7 rfl (by decide) rfl 16 (by decide) rfl (tw_3 45 rfl rfl) rfl dX7_goOn_56 hp (fun r56_10 hp => ?_)
          refine x_iload_n X dX7_goOn_59 hl 1 rfl rfl ?_
          obtain ⟨b60_11, e0, hp2⟩ := q_nn_of hp
          clear hp; subst e0; have hp := hp2; clear hp2
          refine q_iald X V dX7_goOn_60 hp (fun v60_12 hp => ?_)
          refine lv_iconst (v := (1 : Int32)) hx hb dX7_goOn_61 (by decide) ?_
          refine q_ifn hp (lv_icmp_ne (tgt := 69) hx hb dX7_goOn_62 (by decide)) (fun hp => ?_) (fun hp => ?_)
          · refine lv_iconst (v := (0 : Int32)) hx hb dX7_goOn_69 (by decide) ?_
            exact bX7_goOn_70 X hr ih hkx V (lx_sub hl [0, 1, 2, 3] rfl) hp
          · refine lv_iconst (v := (1 : Int32)) hx hb dX7_goOn_65 (by decide) ?_
            refine lv_goto (tgt := 70) hx hb dX7_goOn_66 (by decide) ?_
            exact bX7_goOn_70 X hr ih hkx V (lx_sub hl [0, 1, 2, 3] rfl) hp
def pX7_goOn_119_b (N a0 : Nat) (kb : mm_M → Int32 → Int32 → Option (mm_M × Unit)) (kx : mm_M → Option (mm_M × Unit)) (G : mm_M) (x1 : Int32) (x3 : Int32) : Option (mm_M × Unit) :=
  if (3 : Int32) ≤ x3 then
    kx G
  else
    q_gR G a0 8 16 fun r125_28 =>
    q_nn r125_28 fun b129_29 =>
    q_aI G b129_29 101 x1 fun v129_30 =>
    if v129_30 = (2 : Int32) then
      q_is G a0 8 <|
      q_cl (pX7_alive_0 N a0 G x1 x3) fun G v137_32 =>
      if v137_32 < 0 then
        kb G x1 (x3 + (1 : Int32))
      else
        q_gR G a0 8 18 fun r153_33 =>
        q_nn r153_33 fun b157_34 =>
        q_aI G b157_34 101 x1 fun v157_35 =>
        q_gR G a0 8 17 fun r159_36 =>
        q_nn r159_36 fun b163_37 =>
        q_aI G b163_37 101 x1 fun v163_38 =>
        q_gR G a0 8 21 fun r165_39 =>
        q_nn r165_39 fun b175_40 =>
        q_aI G b175_40 101 (((12 : Int32) * x1) + v137_32) fun v175_41 =>
        q_is G a0 8 <|
        q_cl (pX7_send_0 N a0 G (3 : Int32) x1 v137_32 v157_35 v163_38 v175_41) fun G v176_43 =>
        kb G x1 (x3 + (1 : Int32))
    else
      kx G
def pX7_goOn_119 (N a0 : Nat) (kx : mm_M → Option (mm_M × Unit)) : Nat → mm_M → Int32 → Int32 → Option (mm_M × Unit)
  | 0 => fun _ _ _ => none
  | n + 1 => pX7_goOn_119_b N a0 (pX7_goOn_119 N a0 kx n) kx
set_option maxRecDepth 100000 in
set_option maxHeartbeats 4000000 in
theorem bX7_goOn_119 {p : Program} {l : Launch} {e : Env} {s : State} {m : MethodId} {args : Array Value} {below : List Frame} {meth : Method} {c : Code} {E : mm_E} {N a0 : Nat} {res : mm_M × Unit} (X : mm_X p s m args meth c prog_9_method_27_code 5 "XorOverlayModel" tw_T E) (hr : meth.sig.returnType = none) {kx : mm_M → Option (mm_M × Unit)} (hkx : ∀ (G : mm_M) (H : Heap) (locs : List Loc) (ls : Array Slot), mm_V E s G H locs → lx_has ls 5 [(0, .inr (some a0))] → kx G = some res → W p l e rX7_goOn s m args below meth c H locs 0 0 (MQ below (mm_Qv E res.1) args s 0 0 (mm_A E)) (F0 m 186 ls [])) :
    ∀ (n : Nat) (G : mm_M) (H : Heap) (locs : List Loc) (ls : Array Slot) (x1 : Int32) (x3 : Int32), mm_V E s G H locs → lx_has ls 5 [(0, .inr (some a0)), (1, .inl x1), (3, .inl x3)] → pX7_goOn_119 N a0 kx n G x1 x3 = some res → W p l e rX7_goOn s m args below meth c H locs 0 0 (MQ below (mm_Qv E res.1) args s 0 0 (mm_A E)) (F0 m 119 ls []) := by
  have hx := X.1.1
  have hb := X.1.2.1
  intro n
  induction n with
  | zero =>
    intro G H locs ls x1 x3 V hl hp
    cases hp
  | succ n ih =>
    intro G H locs ls x1 x3 V hl hp
    have hp : pX7_goOn_119_b N a0 (pX7_goOn_119 N a0 kx n) kx G x1 x3 = some res := hp
    unfold pX7_goOn_119_b at hp
    refine x_iload_n X dX7_goOn_119 hl 2 rfl rfl ?_
    refine lv_iconst (v := (3 : Int32)) hx hb dX7_goOn_120 (by decide) ?_
    refine q_if hp (lv_icmp_ge (tgt := 186) hx hb dX7_goOn_121 (by decide)) (fun hp => ?_) (fun hp => ?_)
    · exact hkx _ _ _ _ V (lx_sub hl [0] rfl) hp
    · refine x_aload_n X dX7_goOn_124 hl 0 rfl rfl ?_
      refine q_getR (ci := 7) X V inX7 rfl (by decide) rfl 16 (by decide) rfl (tw_3 45 rfl rfl) rfl dX7_goOn_125 hp (fun r125_28 hp => ?_)
      refine x_iload_n X dX7_goOn_128 hl 1 rfl rfl ?_
      obtain ⟨b129_29, e0, hp2⟩ := q_nn_of hp
      clear hp; subst e0; have hp := hp2; clear hp2
      refine q_iald X V dX7_goOn_129 hp (fun v129_30 hp => ?_)
      refine lv_iconst (v := (2 : Int32)) hx hb dX7_goOn_130 (by decide) ?_
      refine q_ifn hp (lv_icmp_ne (tgt := 186) hx hb dX7_goOn_131 (by decide)) (fun hp => ?_) (fun hp => ?_)
      · exact hkx _ _ _ _ V (lx_sub hl [0] rfl) hp
      · refine x_aload_n X dX7_goOn_134 hl 0 rfl rfl ?_
        refine x_iload_n X dX7_goOn_135 hl 1 rfl rfl ?_
        refine x_iload_n X dX7_goOn_136 hl 2 rfl rfl ?_
        obtain ⟨hk, hp⟩ := q_is_of hp
        obtain ⟨⟨G, v137_32⟩, hq, hp⟩ := q_cl_of hp
        dsimp only at hp
        refine q_goi (cells' := 0) (slots' := 0) (va_runV (As := [.int x1, .int x3]) (rest := []) X.1 (cX7_alive l E hq) (tw_cwV 2 X.1.2.2.2.2 (tw_3 168 rfl rfl) kX7_alive.2.1 kX7_alive.2.2.1 kX7_alive.2.2.2 kX7_alive.1 rfl rfl hX7_alive ⟨Nat.le_of_ble_eq_true rfl, Nat.le_of_ble_eq_true rfl⟩) (mm_preV X V rfl (by decide) rfl hk) rfl rfl hl.1 rfl (lv_room (Nat.le_of_ble_eq_true rfl)) dX7_goOn_137 ⟨by decide, by decide⟩) V ⟨rfl, rfl⟩ (fun H locs V => ?_)
        refine x_istore (lst' := [(4, .inl v137_32), (0, .inr (some a0)), (1, .inl x1), (3, .inl x3)]) X dX7_goOn_140 hl (by decide) rfl (fun ls hl => ?_)
        refine x_iload X dX7_goOn_142 hl 0 rfl ?_
        refine q_if hp (lv_if_lt (tgt := 180) hx hb dX7_goOn_144 (by decide)) (fun hp => ?_) (fun hp => ?_)
        · refine x_iinc (v := (1 : Int32)) (lst' := [(3, .inl (x3 + (1 : Int32))), (4, .inl v137_32), (0, .inr (some a0)), (1, .inl x1)]) X dX7_goOn_180 hl 3 rfl (by decide) (by decide) rfl (fun ls hl => ?_)
          refine lv_goto (tgt := 119) hx hb dX7_goOn_183 (by decide) ?_
          exact ih _ _ _ _ _ _ V (lx_sub hl [2, 3, 0] rfl) hp
        · refine x_aload_n X dX7_goOn_147 hl 1 rfl rfl ?_
          refine lv_iconst (v := (3 : Int32)) hx hb dX7_goOn_148 (by decide) ?_
          refine x_iload_n X dX7_goOn_149 hl 2 rfl rfl ?_
          refine x_iload X dX7_goOn_150 hl 0 rfl ?_
          refine x_aload_n X dX7_goOn_152 hl 1 rfl rfl ?_
          refine q_getR (ci := 7) X V inX7 rfl (by decide) rfl 18 (by decide) rfl (tw_3 47 rfl rfl) rfl dX7_goOn_153 hp (fun r153_33 hp => ?_)
          refine x_iload_n X dX7_goOn_156 hl 2 rfl rfl ?_
          obtain ⟨b157_34, e0, hp2⟩ := q_nn_of hp
          clear hp; subst e0; have hp := hp2; clear hp2
          refine q_iald X V dX7_goOn_157 hp (fun v157_35 hp => ?_)
          refine x_aload_n X dX7_goOn_158 hl 1 rfl rfl ?_
          refine q_getR (ci := 7) X V inX7 rfl (by decide) rfl 17 (by decide) rfl (tw_3 46 rfl rfl) rfl dX7_goOn_159 hp (fun r159_36 hp => ?_)
          refine x_iload_n X dX7_goOn_162 hl 2 rfl rfl ?_
          obtain ⟨b163_37, e0, hp2⟩ := q_nn_of hp
          clear hp; subst e0; have hp := hp2; clear hp2
          refine q_iald X V dX7_goOn_163 hp (fun v163_38 hp => ?_)
          refine x_aload_n X dX7_goOn_164 hl 1 rfl rfl ?_
          refine q_getR (ci := 7) X V inX7 rfl (by decide) rfl 21 (by decide) rfl (tw_3 50 rfl rfl) rfl dX7_goOn_165 hp (fun r165_39 hp => ?_)
          refine lv_bipush (v := (12 : Int32)) hx hb dX7_goOn_168 (by decide) ?_
          refine x_iload_n X dX7_goOn_170 hl 2 rfl rfl ?_
          refine lv_imul hx hb dX7_goOn_171 ?_
          refine x_iload X dX7_goOn_172 hl 0 rfl ?_
          refine lv_iadd hx hb dX7_goOn_174 ?_
          obtain ⟨b175_40, e0, hp2⟩ := q_nn_of hp
          clear hp; subst e0; have hp := hp2; clear hp2
          refine q_iald X V dX7_goOn_175 hp (fun v175_41 hp => ?_)
          obtain ⟨hk, hp⟩ := q_is_of hp
          obtain ⟨⟨G, v176_43⟩, hq, hp⟩ := q_cl_of hp
          dsimp only at hp
          refine q_goi (cells' := 0) (slots' := 0) (va_runV (As := [.int (3 : Int32), .int x1, .int v137_32, .int v157_35, .int v163_38, .int v175_41]) (rest := []) X.1 (cX7_send l E hq) (tw_cwV 6 X.1.2.2.2.2 (tw_3 180 rfl rfl) kX7_send.2.1 kX7_send.2.2.1 kX7_send.2.2.2 kX7_send.1 rfl rfl hX7_send ⟨Nat.le_of_ble_eq_true rfl, Nat.le_of_ble_eq_true rfl⟩) (mm_preV X V rfl (by decide) rfl hk) rfl rfl hl.1 rfl (lv_room (Nat.le_of_ble_eq_true rfl)) dX7_goOn_176 ⟨by decide, by decide⟩) V ⟨rfl, rfl⟩ (fun H locs V => ?_)
          refine lv_pop hx hb dX7_goOn_179 rfl ?_
          refine x_iinc (v := (1 : Int32)) (lst' := [(3, .inl (x3 + (1 : Int32))), (4, .inl v137_32), (0, .inr (some a0)), (1, .inl x1)]) X dX7_goOn_180 hl 3 rfl (by decide) (by decide) rfl (fun ls hl => ?_)
          refine lv_goto (tgt := 119) hx hb dX7_goOn_183 (by decide) ?_
          exact ih _ _ _ _ _ _ V (lx_sub hl [2, 3, 0] rfl) hp
def pX7_goOn_0 (N a0 : Nat) (G : mm_M) (x1 : Int32) : Option (mm_M × Unit) :=
  q_is G a0 8 <|
  q_cl (pX7_nextToAsk_0 N a0 G x1) fun G v2_2 =>
  pX7_goOn_8 N a0 (fun (G : mm_M) (x1 : Int32) =>
    q_is G a0 8 <|
    q_cl (pX7_askedNow_0 N a0 G x1) fun G v103_25 =>
    if v103_25 ≤ 0 then
      q_gR G a0 8 15 fun r111_26 =>
      q_nn r111_26 fun b116_27 =>
      q_sI G b116_27 101 x1 (2 : Int32) fun G =>
      pX7_goOn_119 N a0 (fun (G : mm_M) =>
        some (G, ())) N G x1 (0 : Int32)
    else
      some (G, ())) N G x1 v2_2 (0 : Int32)
set_option maxRecDepth 100000 in
set_option maxHeartbeats 4000000 in
theorem bX7_goOn_0 {p : Program} {l : Launch} {e : Env} {s : State} {m : MethodId} {args : Array Value} {below : List Frame} {meth : Method} {c : Code} {E : mm_E} {N a0 : Nat} {res : mm_M × Unit} (X : mm_X p s m args meth c prog_9_method_27_code 5 "XorOverlayModel" tw_T E) (hr : meth.sig.returnType = none) {G : mm_M} {H : Heap} {locs : List Loc} {ls : Array Slot} {x1 : Int32} (V : mm_V E s G H locs) (hl : lx_has ls 5 [(0, .inr (some a0)), (1, .inl x1)]) (hp : pX7_goOn_0 N a0 G x1 = some res) : W p l e rX7_goOn s m args below meth c H locs 0 0 (MQ below (mm_Qv E res.1) args s 0 0 (mm_A E)) (F0 m 0 ls []) := by
  have hx := X.1.1
  have hb := X.1.2.1
  unfold pX7_goOn_0 at hp
  refine x_aload_n X dX7_goOn_0 hl 0 rfl rfl ?_
  refine x_iload_n X dX7_goOn_1 hl 1 rfl rfl ?_
  obtain ⟨hk, hp⟩ := q_is_of hp
  obtain ⟨⟨G, v2_2⟩, hq, hp⟩ := q_cl_of hp
  dsimp only at hp
  refine q_goi (cells' := 0) (slots' := 0) (va_runV (As := [.int x1]) (rest := []) X.1 (cX7_nextToAsk l E hq) (tw_cwV 1 X.1.2.2.2.2 (tw_3 164 rfl rfl) kX7_nextToAsk.2.1 kX7_nextToAsk.2.2.1 kX7_nextToAsk.2.2.2 kX7_nextToAsk.1 rfl rfl hX7_nextToAsk ⟨Nat.le_of_ble_eq_true rfl, Nat.le_of_ble_eq_true rfl⟩) (mm_preV X V rfl (by decide) rfl hk) rfl rfl hl.1 rfl (lv_room (Nat.le_of_ble_eq_true rfl)) dX7_goOn_2 ⟨by decide, by decide⟩) V ⟨rfl, rfl⟩ (fun H locs V => ?_)
  refine x_istore_n (lst' := [(2, .inl v2_2), (0, .inr (some a0)), (1, .inl x1)]) X dX7_goOn_5 hl rfl (by decide) rfl (fun ls hl => ?_)
  refine lv_iconst (v := (0 : Int32)) hx hb dX7_goOn_6 (by decide) ?_
  refine x_istore_n (lst' := [(3, .inl (0 : Int32)), (2, .inl v2_2), (0, .inr (some a0)), (1, .inl x1)]) X dX7_goOn_7 hl rfl (by decide) rfl (fun ls hl => ?_)
  refine bX7_goOn_8 X hr (fun G H locs ls x1 V hl hp => ?_) _ _ _ _ _ _ _ _ V (lx_sub hl [2, 3, 1, 0] rfl) hp
  refine x_aload_n X dX7_goOn_101 hl 0 rfl rfl ?_
  refine x_iload_n X dX7_goOn_102 hl 1 rfl rfl ?_
  obtain ⟨hk, hp⟩ := q_is_of hp
  obtain ⟨⟨G, v103_25⟩, hq, hp⟩ := q_cl_of hp
  dsimp only at hp
  refine q_goi (cells' := 0) (slots' := 0) (va_runV (As := [.int x1]) (rest := []) X.1 (cX7_askedNow l E hq) (tw_cwV 1 X.1.2.2.2.2 (tw_3 176 rfl rfl) kX7_askedNow.2.1 kX7_askedNow.2.2.1 kX7_askedNow.2.2.2 kX7_askedNow.1 rfl rfl hX7_askedNow ⟨Nat.le_of_ble_eq_true rfl, Nat.le_of_ble_eq_true rfl⟩) (mm_preV X V rfl (by decide) rfl hk) rfl rfl hl.1 rfl (lv_room (Nat.le_of_ble_eq_true rfl)) dX7_goOn_103 ⟨by decide, by decide⟩) V ⟨rfl, rfl⟩ (fun H locs V => ?_)
  refine q_if hp (lv_if_le (tgt := 110) hx hb dX7_goOn_106 (by decide)) (fun hp => ?_) (fun hp => ?_)
  · refine x_aload_n X dX7_goOn_110 hl 0 rfl rfl ?_
    refine q_getR (ci := 7) X V inX7 rfl (by decide) rfl 15 (by decide) rfl (tw_3 44 rfl rfl) rfl dX7_goOn_111 hp (fun r111_26 hp => ?_)
    refine x_iload_n X dX7_goOn_114 hl 1 rfl rfl ?_
    refine lv_iconst (v := (2 : Int32)) hx hb dX7_goOn_115 (by decide) ?_
    obtain ⟨b116_27, e0, hp2⟩ := q_nn_of hp
    clear hp; subst e0; have hp := hp2; clear hp2
    refine q_iast X V dX7_goOn_116 hp (fun G H locs V hp => ?_)
    refine lv_iconst (v := (0 : Int32)) hx hb dX7_goOn_117 (by decide) ?_
    refine x_istore_n (lst' := [(3, .inl (0 : Int32)), (0, .inr (some a0)), (1, .inl x1)]) X dX7_goOn_118 hl rfl (by decide) rfl (fun ls hl => ?_)
    refine bX7_goOn_119 X hr (fun G H locs ls V hl hp => ?_) _ _ _ _ _ _ _ V (lx_sub hl [1, 2, 0] rfl) hp
    exact q_vret X V hr ⟨by decide, by decide⟩ dX7_goOn_186 hp
  · exact q_vret X V hr ⟨by decide, by decide⟩ dX7_goOn_109 hp
theorem cX7_goOn (l : Launch) (E : mm_E) {N a0 : Nat} {G : mm_M} {x1 : Int32} {res : mm_M × Unit} (hp : pX7_goOn_0 N a0 G x1 = some res) : Met l yX7_goOn (Cond.code yX7_goOn prog_9_method_27_code 5 none :: tw_T) rX7_goOn (mm_Pc E G [.ref a0, .int x1]) (mm_Qv E res.1) 0 0 (mm_A E) :=
  mm_met (own := "XorOverlayModel") E G [.inr (some a0), .inl x1] (by decide) rfl rfl (Nat.le_of_ble_eq_true rfl) (fun p e s m args below meth c ls X hr hi V hl => bX7_goOn_0 X hr V hl hp)
abbrev yX7_collect : MethodName := ⟨"XorOverlayModel", "collect", "(II)V"⟩
abbrev rX7_collect : Room := { frames := 4, cells := 0, slots := 0, locals := 98 }
theorem kX7_collect : Cond.code yX7_collect prog_9_method_21_code 5 none ∈ tw_T ∧ Cond.instanceMethod yX7_collect ∈ tw_T ∧ Cond.selects "XorOverlayModel" yX7_collect yX7_collect ∈ tw_T ∧ Cond.initialized "XorOverlayModel" ∈ tw_T := ⟨(tw_4 5 rfl rfl), (tw_4 4 rfl rfl), (tw_s 44 rfl rfl), (tw_1 3 rfl rfl)⟩
theorem hX7_collect : yX7_collect.cls = "XorOverlayModel" ∧ yX7_collect.cls ≠ "java/lang/invoke/MethodHandle" ∧ yX7_collect.cls ≠ "java/lang/invoke/VarHandle" ∧ (parseMethodDescriptor yX7_collect.desc).map (fun d => d.parameters.length) = some 2 := by decide +kernel
theorem dX7_collect_0 : decode prog_9_method_21_code 0 = .ok (.aload_n 0, 1) := by decide +kernel
theorem dX7_collect_1 : decode prog_9_method_21_code 1 = .ok (.getfield 44, 3) := by decide +kernel
theorem dX7_collect_4 : decode prog_9_method_21_code 4 = .ok (.iload_n 1, 1) := by decide +kernel
theorem dX7_collect_5 : decode prog_9_method_21_code 5 = .ok (.iaload, 1) := by decide +kernel
theorem dX7_collect_6 : decode prog_9_method_21_code 6 = .ok (.iconst 1, 1) := by decide +kernel
theorem dX7_collect_7 : decode prog_9_method_21_code 7 = .ok (.if_icmp .ne 33, 3) := by decide +kernel
theorem dX7_collect_10 : decode prog_9_method_21_code 10 = .ok (.aload_n 0, 1) := by decide +kernel
theorem dX7_collect_11 : decode prog_9_method_21_code 11 = .ok (.getfield 53, 3) := by decide +kernel
theorem dX7_collect_14 : decode prog_9_method_21_code 14 = .ok (.iload_n 1, 1) := by decide +kernel
theorem dX7_collect_15 : decode prog_9_method_21_code 15 = .ok (.iaload, 1) := by decide +kernel
theorem dX7_collect_16 : decode prog_9_method_21_code 16 = .ok (.aload_n 0, 1) := by decide +kernel
theorem dX7_collect_17 : decode prog_9_method_21_code 17 = .ok (.getfield 74, 3) := by decide +kernel
theorem dX7_collect_20 : decode prog_9_method_21_code 20 = .ok (.iconst 3, 1) := by decide +kernel
theorem dX7_collect_21 : decode prog_9_method_21_code 21 = .ok (.iaload, 1) := by decide +kernel
theorem dX7_collect_22 : decode prog_9_method_21_code 22 = .ok (.if_icmp .ne 18, 3) := by decide +kernel
theorem dX7_collect_25 : decode prog_9_method_21_code 25 = .ok (.aload_n 0, 1) := by decide +kernel
theorem dX7_collect_26 : decode prog_9_method_21_code 26 = .ok (.getfield 56, 3) := by decide +kernel
theorem dX7_collect_29 : decode prog_9_method_21_code 29 = .ok (.bipush 12, 2) := by decide +kernel
theorem dX7_collect_31 : decode prog_9_method_21_code 31 = .ok (.iload_n 1, 1) := by decide +kernel
theorem dX7_collect_32 : decode prog_9_method_21_code 32 = .ok (.imul, 1) := by decide +kernel
theorem dX7_collect_33 : decode prog_9_method_21_code 33 = .ok (.iload_n 2, 1) := by decide +kernel
theorem dX7_collect_34 : decode prog_9_method_21_code 34 = .ok (.iadd, 1) := by decide +kernel
theorem dX7_collect_35 : decode prog_9_method_21_code 35 = .ok (.iaload, 1) := by decide +kernel
theorem dX7_collect_36 : decode prog_9_method_21_code 36 = .ok (.iconst 2, 1) := by decide +kernel
theorem dX7_collect_37 : decode prog_9_method_21_code 37 = .ok (.if_icmp .eq 4, 3) := by decide +kernel
theorem dX7_collect_40 : decode prog_9_method_21_code 40 = .ok (.return_, 1) := by decide +kernel
theorem dX7_collect_41 : decode prog_9_method_21_code 41 = .ok (.aload_n 0, 1) := by decide +kernel
theorem dX7_collect_42 : decode prog_9_method_21_code 42 = .ok (.getfield 56, 3) := by decide +kernel
theorem dX7_collect_45 : decode prog_9_method_21_code 45 = .ok (.bipush 12, 2) := by decide +kernel
theorem dX7_collect_47 : decode prog_9_method_21_code 47 = .ok (.iload_n 1, 1) := by decide +kernel
theorem dX7_collect_48 : decode prog_9_method_21_code 48 = .ok (.imul, 1) := by decide +kernel
theorem dX7_collect_49 : decode prog_9_method_21_code 49 = .ok (.iload_n 2, 1) := by decide +kernel
theorem dX7_collect_50 : decode prog_9_method_21_code 50 = .ok (.iadd, 1) := by decide +kernel
theorem dX7_collect_51 : decode prog_9_method_21_code 51 = .ok (.iconst 3, 1) := by decide +kernel
theorem dX7_collect_52 : decode prog_9_method_21_code 52 = .ok (.iastore, 1) := by decide +kernel
theorem dX7_collect_53 : decode prog_9_method_21_code 53 = .ok (.aload_n 0, 1) := by decide +kernel
theorem dX7_collect_54 : decode prog_9_method_21_code 54 = .ok (.getfield 62, 3) := by decide +kernel
theorem dX7_collect_57 : decode prog_9_method_21_code 57 = .ok (.bipush 12, 2) := by decide +kernel
theorem dX7_collect_59 : decode prog_9_method_21_code 59 = .ok (.iload_n 1, 1) := by decide +kernel
theorem dX7_collect_60 : decode prog_9_method_21_code 60 = .ok (.imul, 1) := by decide +kernel
theorem dX7_collect_61 : decode prog_9_method_21_code 61 = .ok (.iload_n 2, 1) := by decide +kernel
theorem dX7_collect_62 : decode prog_9_method_21_code 62 = .ok (.iadd, 1) := by decide +kernel
theorem dX7_collect_63 : decode prog_9_method_21_code 63 = .ok (.aload_n 0, 1) := by decide +kernel
theorem dX7_collect_64 : decode prog_9_method_21_code 64 = .ok (.getfield 74, 3) := by decide +kernel
theorem dX7_collect_67 : decode prog_9_method_21_code 67 = .ok (.iconst 5, 1) := by decide +kernel
theorem dX7_collect_68 : decode prog_9_method_21_code 68 = .ok (.iaload, 1) := by decide +kernel
theorem dX7_collect_69 : decode prog_9_method_21_code 69 = .ok (.iastore, 1) := by decide +kernel
theorem dX7_collect_70 : decode prog_9_method_21_code 70 = .ok (.bipush 6, 2) := by decide +kernel
theorem dX7_collect_72 : decode prog_9_method_21_code 72 = .ok (.istore_n 3, 1) := by decide +kernel
theorem dX7_collect_73 : decode prog_9_method_21_code 73 = .ok (.iload_n 3, 1) := by decide +kernel
theorem dX7_collect_74 : decode prog_9_method_21_code 74 = .ok (.bipush 9, 2) := by decide +kernel
theorem dX7_collect_76 : decode prog_9_method_21_code 76 = .ok (.if_icmp .ge 54, 3) := by decide +kernel
theorem dX7_collect_79 : decode prog_9_method_21_code 79 = .ok (.aload_n 0, 1) := by decide +kernel
theorem dX7_collect_80 : decode prog_9_method_21_code 80 = .ok (.aload_n 0, 1) := by decide +kernel
theorem dX7_collect_81 : decode prog_9_method_21_code 81 = .ok (.getfield 74, 3) := by decide +kernel
theorem dX7_collect_84 : decode prog_9_method_21_code 84 = .ok (.iload_n 3, 1) := by decide +kernel
theorem dX7_collect_85 : decode prog_9_method_21_code 85 = .ok (.iaload, 1) := by decide +kernel
theorem dX7_collect_86 : decode prog_9_method_21_code 86 = .ok (.invokevirtual 81, 3) := by decide +kernel
theorem dX7_collect_89 : decode prog_9_method_21_code 89 = .ok (.istore 4, 2) := by decide +kernel
theorem dX7_collect_91 : decode prog_9_method_21_code 91 = .ok (.iload 4, 2) := by decide +kernel
theorem dX7_collect_93 : decode prog_9_method_21_code 93 = .ok (.ifCond .lt 31, 3) := by decide +kernel
theorem dX7_collect_96 : decode prog_9_method_21_code 96 = .ok (.aload_n 0, 1) := by decide +kernel
theorem dX7_collect_97 : decode prog_9_method_21_code 97 = .ok (.getfield 56, 3) := by decide +kernel
theorem dX7_collect_100 : decode prog_9_method_21_code 100 = .ok (.bipush 12, 2) := by decide +kernel
theorem dX7_collect_102 : decode prog_9_method_21_code 102 = .ok (.iload_n 1, 1) := by decide +kernel
theorem dX7_collect_103 : decode prog_9_method_21_code 103 = .ok (.imul, 1) := by decide +kernel
theorem dX7_collect_104 : decode prog_9_method_21_code 104 = .ok (.iload 4, 2) := by decide +kernel
theorem dX7_collect_106 : decode prog_9_method_21_code 106 = .ok (.iadd, 1) := by decide +kernel
theorem dX7_collect_107 : decode prog_9_method_21_code 107 = .ok (.iaload, 1) := by decide +kernel
theorem dX7_collect_108 : decode prog_9_method_21_code 108 = .ok (.ifCond .ne 16, 3) := by decide +kernel
theorem dX7_collect_111 : decode prog_9_method_21_code 111 = .ok (.aload_n 0, 1) := by decide +kernel
theorem dX7_collect_112 : decode prog_9_method_21_code 112 = .ok (.getfield 56, 3) := by decide +kernel
theorem dX7_collect_115 : decode prog_9_method_21_code 115 = .ok (.bipush 12, 2) := by decide +kernel
theorem dX7_collect_117 : decode prog_9_method_21_code 117 = .ok (.iload_n 1, 1) := by decide +kernel
theorem dX7_collect_118 : decode prog_9_method_21_code 118 = .ok (.imul, 1) := by decide +kernel
theorem dX7_collect_119 : decode prog_9_method_21_code 119 = .ok (.iload 4, 2) := by decide +kernel
theorem dX7_collect_121 : decode prog_9_method_21_code 121 = .ok (.iadd, 1) := by decide +kernel
theorem dX7_collect_122 : decode prog_9_method_21_code 122 = .ok (.iconst 1, 1) := by decide +kernel
theorem dX7_collect_123 : decode prog_9_method_21_code 123 = .ok (.iastore, 1) := by decide +kernel
theorem dX7_collect_124 : decode prog_9_method_21_code 124 = .ok (.iinc 3 1, 3) := by decide +kernel
theorem dX7_collect_127 : decode prog_9_method_21_code 127 = .ok (.goto (-54), 3) := by decide +kernel
theorem dX7_collect_130 : decode prog_9_method_21_code 130 = .ok (.bipush 9, 2) := by decide +kernel
theorem dX7_collect_132 : decode prog_9_method_21_code 132 = .ok (.istore_n 3, 1) := by decide +kernel
theorem dX7_collect_133 : decode prog_9_method_21_code 133 = .ok (.iload_n 3, 1) := by decide +kernel
theorem dX7_collect_134 : decode prog_9_method_21_code 134 = .ok (.bipush 12, 2) := by decide +kernel
theorem dX7_collect_136 : decode prog_9_method_21_code 136 = .ok (.if_icmp .ge 68, 3) := by decide +kernel
theorem dX7_collect_139 : decode prog_9_method_21_code 139 = .ok (.aload_n 0, 1) := by decide +kernel
theorem dX7_collect_140 : decode prog_9_method_21_code 140 = .ok (.getfield 74, 3) := by decide +kernel
theorem dX7_collect_143 : decode prog_9_method_21_code 143 = .ok (.iload_n 3, 1) := by decide +kernel
theorem dX7_collect_144 : decode prog_9_method_21_code 144 = .ok (.iaload, 1) := by decide +kernel
theorem dX7_collect_145 : decode prog_9_method_21_code 145 = .ok (.ifCond .lt 53, 3) := by decide +kernel
theorem dX7_collect_148 : decode prog_9_method_21_code 148 = .ok (.aload_n 0, 1) := by decide +kernel
theorem dX7_collect_149 : decode prog_9_method_21_code 149 = .ok (.iload_n 1, 1) := by decide +kernel
theorem dX7_collect_150 : decode prog_9_method_21_code 150 = .ok (.aload_n 0, 1) := by decide +kernel
theorem dX7_collect_151 : decode prog_9_method_21_code 151 = .ok (.getfield 74, 3) := by decide +kernel
theorem dX7_collect_154 : decode prog_9_method_21_code 154 = .ok (.iload_n 3, 1) := by decide +kernel
theorem dX7_collect_155 : decode prog_9_method_21_code 155 = .ok (.iaload, 1) := by decide +kernel
theorem dX7_collect_156 : decode prog_9_method_21_code 156 = .ok (.invokevirtual 129, 3) := by decide +kernel
theorem dX7_collect_159 : decode prog_9_method_21_code 159 = .ok (.ifCond .ne 39, 3) := by decide +kernel
theorem dX7_collect_162 : decode prog_9_method_21_code 162 = .ok (.aload_n 0, 1) := by decide +kernel
theorem dX7_collect_163 : decode prog_9_method_21_code 163 = .ok (.getfield 68, 3) := by decide +kernel
theorem dX7_collect_166 : decode prog_9_method_21_code 166 = .ok (.bipush 12, 2) := by decide +kernel
theorem dX7_collect_168 : decode prog_9_method_21_code 168 = .ok (.iload_n 1, 1) := by decide +kernel
theorem dX7_collect_169 : decode prog_9_method_21_code 169 = .ok (.imul, 1) := by decide +kernel
theorem dX7_collect_170 : decode prog_9_method_21_code 170 = .ok (.aload_n 0, 1) := by decide +kernel
theorem dX7_collect_171 : decode prog_9_method_21_code 171 = .ok (.getfield 65, 3) := by decide +kernel
theorem dX7_collect_174 : decode prog_9_method_21_code 174 = .ok (.iload_n 1, 1) := by decide +kernel
theorem dX7_collect_175 : decode prog_9_method_21_code 175 = .ok (.iaload, 1) := by decide +kernel
theorem dX7_collect_176 : decode prog_9_method_21_code 176 = .ok (.iadd, 1) := by decide +kernel
theorem dX7_collect_177 : decode prog_9_method_21_code 177 = .ok (.aload_n 0, 1) := by decide +kernel
theorem dX7_collect_178 : decode prog_9_method_21_code 178 = .ok (.getfield 74, 3) := by decide +kernel
theorem dX7_collect_181 : decode prog_9_method_21_code 181 = .ok (.iload_n 3, 1) := by decide +kernel
theorem dX7_collect_182 : decode prog_9_method_21_code 182 = .ok (.iaload, 1) := by decide +kernel
theorem dX7_collect_183 : decode prog_9_method_21_code 183 = .ok (.iastore, 1) := by decide +kernel
theorem dX7_collect_184 : decode prog_9_method_21_code 184 = .ok (.aload_n 0, 1) := by decide +kernel
theorem dX7_collect_185 : decode prog_9_method_21_code 185 = .ok (.getfield 65, 3) := by decide +kernel
theorem dX7_collect_188 : decode prog_9_method_21_code 188 = .ok (.iload_n 1, 1) := by decide +kernel
theorem dX7_collect_189 : decode prog_9_method_21_code 189 = .ok (.aload_n 0, 1) := by decide +kernel
theorem dX7_collect_190 : decode prog_9_method_21_code 190 = .ok (.getfield 65, 3) := by decide +kernel
theorem dX7_collect_193 : decode prog_9_method_21_code 193 = .ok (.iload_n 1, 1) := by decide +kernel
theorem dX7_collect_194 : decode prog_9_method_21_code 194 = .ok (.iaload, 1) := by decide +kernel
theorem dX7_collect_195 : decode prog_9_method_21_code 195 = .ok (.iconst 1, 1) := by decide +kernel
theorem dX7_collect_196 : decode prog_9_method_21_code 196 = .ok (.iadd, 1) := by decide +kernel
theorem dX7_collect_197 : decode prog_9_method_21_code 197 = .ok (.iastore, 1) := by decide +kernel
theorem dX7_collect_198 : decode prog_9_method_21_code 198 = .ok (.iinc 3 1, 3) := by decide +kernel
theorem dX7_collect_201 : decode prog_9_method_21_code 201 = .ok (.goto (-68), 3) := by decide +kernel
theorem dX7_collect_204 : decode prog_9_method_21_code 204 = .ok (.aload_n 0, 1) := by decide +kernel
theorem dX7_collect_205 : decode prog_9_method_21_code 205 = .ok (.iload_n 1, 1) := by decide +kernel
theorem dX7_collect_206 : decode prog_9_method_21_code 206 = .ok (.invokevirtual 133, 3) := by decide +kernel
theorem dX7_collect_209 : decode prog_9_method_21_code 209 = .ok (.return_, 1) := by decide +kernel
def pX7_collect_73_b (N a0 : Nat) (kb : mm_M → Int32 → Int32 → Option (mm_M × Unit)) (kx : mm_M → Int32 → Option (mm_M × Unit)) (G : mm_M) (x1 : Int32) (x3 : Int32) : Option (mm_M × Unit) :=
  if (9 : Int32) ≤ x3 then
    kx G x1
  else
    q_gR G a0 8 26 fun r81_20 =>
    q_nn r81_20 fun b85_21 =>
    q_aI G b85_21 101 x3 fun v85_22 =>
    q_is G a0 8 <|
    q_cl (pX7_known_0 N a0 G v85_22) fun G v86_24 =>
    if v86_24 < 0 then
      kb G x1 (x3 + (1 : Int32))
    else
      q_gR G a0 8 19 fun r97_25 =>
      q_nn r97_25 fun b107_26 =>
      q_aI G b107_26 101 (((12 : Int32) * x1) + v86_24) fun v107_27 =>
      if v107_27 = 0 then
        q_gR G a0 8 19 fun r112_28 =>
        q_nn r112_28 fun b123_29 =>
        q_sI G b123_29 101 (((12 : Int32) * x1) + v86_24) (1 : Int32) fun G =>
        kb G x1 (x3 + (1 : Int32))
      else
        kb G x1 (x3 + (1 : Int32))
def pX7_collect_73 (N a0 : Nat) (kx : mm_M → Int32 → Option (mm_M × Unit)) : Nat → mm_M → Int32 → Int32 → Option (mm_M × Unit)
  | 0 => fun _ _ _ => none
  | n + 1 => pX7_collect_73_b N a0 (pX7_collect_73 N a0 kx n) kx
set_option maxRecDepth 100000 in
set_option maxHeartbeats 4000000 in
theorem bX7_collect_73 {p : Program} {l : Launch} {e : Env} {s : State} {m : MethodId} {args : Array Value} {below : List Frame} {meth : Method} {c : Code} {E : mm_E} {N a0 : Nat} {res : mm_M × Unit} (X : mm_X p s m args meth c prog_9_method_21_code 5 "XorOverlayModel" tw_T E) (hr : meth.sig.returnType = none) {kx : mm_M → Int32 → Option (mm_M × Unit)} (hkx : ∀ (G : mm_M) (H : Heap) (locs : List Loc) (ls : Array Slot) (x1 : Int32), mm_V E s G H locs → lx_has ls 5 [(0, .inr (some a0)), (1, .inl x1)] → kx G x1 = some res → W p l e rX7_collect s m args below meth c H locs 0 0 (MQ below (mm_Qv E res.1) args s 0 0 (mm_A E)) (F0 m 130 ls [])) :
    ∀ (n : Nat) (G : mm_M) (H : Heap) (locs : List Loc) (ls : Array Slot) (x1 : Int32) (x3 : Int32), mm_V E s G H locs → lx_has ls 5 [(0, .inr (some a0)), (1, .inl x1), (3, .inl x3)] → pX7_collect_73 N a0 kx n G x1 x3 = some res → W p l e rX7_collect s m args below meth c H locs 0 0 (MQ below (mm_Qv E res.1) args s 0 0 (mm_A E)) (F0 m 73 ls []) := by
  have hx := X.1.1
  have hb := X.1.2.1
  intro n
  induction n with
  | zero =>
    intro G H locs ls x1 x3 V hl hp
    cases hp
  | succ n ih =>
    intro G H locs ls x1 x3 V hl hp
    have hp : pX7_collect_73_b N a0 (pX7_collect_73 N a0 kx n) kx G x1 x3 = some res := hp
    unfold pX7_collect_73_b at hp
    refine x_iload_n X dX7_collect_73 hl 2 rfl rfl ?_
    refine lv_bipush (v := (9 : Int32)) hx hb dX7_collect_74 (by decide) ?_
    refine q_if hp (lv_icmp_ge (tgt := 130) hx hb dX7_collect_76 (by decide)) (fun hp => ?_) (fun hp => ?_)
    · exact hkx _ _ _ _ _ V (lx_sub hl [0, 1] rfl) hp
    · refine x_aload_n X dX7_collect_79 hl 0 rfl rfl ?_
      refine x_aload_n X dX7_collect_80 hl 0 rfl rfl ?_
      refine q_getR (ci := 7) X V inX7 rfl (by decide) rfl 26 (by decide) rfl (tw_3 55 rfl rfl) rfl dX7_collect_81 hp (fun r81_20 hp => ?_)
      refine x_iload_n X dX7_collect_84 hl 2 rfl rfl ?_
      obtain ⟨b85_21, e0, hp2⟩ := q_nn_of hp
      clear hp; subst e0; have hp := hp2; clear hp2
      refine q_iald X V dX7_collect_85 hp (fun v85_22 hp => ?_)
      obtain ⟨hk, hp⟩ := q_is_of hp
      obtain ⟨⟨G, v86_24⟩, hq, hp⟩ := q_cl_of hp
      dsimp only at hp
      refine q_goi (cells' := 0) (slots' := 0) (va_runV (As := [.int v85_22]) (rest := []) X.1 (cX7_known l E hq) (tw_cwV 1 X.1.2.2.2.2 (tw_3 120 rfl rfl) kX7_known.2.1 kX7_known.2.2.1 kX7_known.2.2.2 kX7_known.1 rfl rfl hX7_known ⟨Nat.le_of_ble_eq_true rfl, Nat.le_of_ble_eq_true rfl⟩) (mm_preV X V rfl (by decide) rfl hk) rfl rfl hl.1 rfl (lv_room (Nat.le_of_ble_eq_true rfl)) dX7_collect_86 ⟨by decide, by decide⟩) V ⟨rfl, rfl⟩ (fun H locs V => ?_)
      refine x_istore (lst' := [(4, .inl v86_24), (0, .inr (some a0)), (1, .inl x1), (3, .inl x3)]) X dX7_collect_89 hl (by decide) rfl (fun ls hl => ?_)
      refine x_iload X dX7_collect_91 hl 0 rfl ?_
      refine q_if hp (lv_if_lt (tgt := 124) hx hb dX7_collect_93 (by decide)) (fun hp => ?_) (fun hp => ?_)
      · refine x_iinc (v := (1 : Int32)) (lst' := [(3, .inl (x3 + (1 : Int32))), (4, .inl v86_24), (0, .inr (some a0)), (1, .inl x1)]) X dX7_collect_124 hl 3 rfl (by decide) (by decide) rfl (fun ls hl => ?_)
        refine lv_goto (tgt := 73) hx hb dX7_collect_127 (by decide) ?_
        exact ih _ _ _ _ _ _ V (lx_sub hl [2, 3, 0] rfl) hp
      · refine x_aload_n X dX7_collect_96 hl 1 rfl rfl ?_
        refine q_getR (ci := 7) X V inX7 rfl (by decide) rfl 19 (by decide) rfl (tw_3 48 rfl rfl) rfl dX7_collect_97 hp (fun r97_25 hp => ?_)
        refine lv_bipush (v := (12 : Int32)) hx hb dX7_collect_100 (by decide) ?_
        refine x_iload_n X dX7_collect_102 hl 2 rfl rfl ?_
        refine lv_imul hx hb dX7_collect_103 ?_
        refine x_iload X dX7_collect_104 hl 0 rfl ?_
        refine lv_iadd hx hb dX7_collect_106 ?_
        obtain ⟨b107_26, e0, hp2⟩ := q_nn_of hp
        clear hp; subst e0; have hp := hp2; clear hp2
        refine q_iald X V dX7_collect_107 hp (fun v107_27 hp => ?_)
        refine q_ifn hp (lv_if_ne (tgt := 124) hx hb dX7_collect_108 (by decide)) (fun hp => ?_) (fun hp => ?_)
        · refine x_iinc (v := (1 : Int32)) (lst' := [(3, .inl (x3 + (1 : Int32))), (4, .inl v86_24), (0, .inr (some a0)), (1, .inl x1)]) X dX7_collect_124 hl 3 rfl (by decide) (by decide) rfl (fun ls hl => ?_)
          refine lv_goto (tgt := 73) hx hb dX7_collect_127 (by decide) ?_
          exact ih _ _ _ _ _ _ V (lx_sub hl [2, 3, 0] rfl) hp
        · refine x_aload_n X dX7_collect_111 hl 1 rfl rfl ?_
          refine q_getR (ci := 7) X V inX7 rfl (by decide) rfl 19 (by decide) rfl (tw_3 48 rfl rfl) rfl dX7_collect_112 hp (fun r112_28 hp => ?_)
          refine lv_bipush (v := (12 : Int32)) hx hb dX7_collect_115 (by decide) ?_
          refine x_iload_n X dX7_collect_117 hl 2 rfl rfl ?_
          refine lv_imul hx hb dX7_collect_118 ?_
          refine x_iload X dX7_collect_119 hl 0 rfl ?_
          refine lv_iadd hx hb dX7_collect_121 ?_
          refine lv_iconst (v := (1 : Int32)) hx hb dX7_collect_122 (by decide) ?_
          obtain ⟨b123_29, e0, hp2⟩ := q_nn_of hp
          clear hp; subst e0; have hp := hp2; clear hp2
          refine q_iast X V dX7_collect_123 hp (fun G H locs V hp => ?_)
          refine x_iinc (v := (1 : Int32)) (lst' := [(3, .inl (x3 + (1 : Int32))), (4, .inl v86_24), (0, .inr (some a0)), (1, .inl x1)]) X dX7_collect_124 hl 3 rfl (by decide) (by decide) rfl (fun ls hl => ?_)
          refine lv_goto (tgt := 73) hx hb dX7_collect_127 (by decide) ?_
          exact ih _ _ _ _ _ _ V (lx_sub hl [2, 3, 0] rfl) hp
def pX7_collect_133_b (N a0 : Nat) (kb : mm_M → Int32 → Int32 → Option (mm_M × Unit)) (kx : mm_M → Int32 → Option (mm_M × Unit)) (G : mm_M) (x1 : Int32) (x3 : Int32) : Option (mm_M × Unit) :=
  if (12 : Int32) ≤ x3 then
    kx G x1
  else
    q_gR G a0 8 26 fun r140_30 =>
    q_nn r140_30 fun b144_31 =>
    q_aI G b144_31 101 x3 fun v144_32 =>
    if v144_32 < 0 then
      kb G x1 (x3 + (1 : Int32))
    else
      q_gR G a0 8 26 fun r151_33 =>
      q_nn r151_33 fun b155_34 =>
      q_aI G b155_34 101 x3 fun v155_35 =>
      q_is G a0 8 <|
      q_cl (pX7_hasFound_0 N a0 G x1 v155_35) fun G v156_37 =>
      if v156_37 = 0 then
        q_gR G a0 8 23 fun r163_38 =>
        q_gR G a0 8 22 fun r171_39 =>
        q_nn r171_39 fun b175_40 =>
        q_aI G b175_40 101 x1 fun v175_41 =>
        q_gR G a0 8 26 fun r178_42 =>
        q_nn r178_42 fun b182_43 =>
        q_aI G b182_43 101 x3 fun v182_44 =>
        q_nn r163_38 fun b183_45 =>
        q_sI G b183_45 101 (((12 : Int32) * x1) + v175_41) v182_44 fun G =>
        q_gR G a0 8 22 fun r185_46 =>
        q_gR G a0 8 22 fun r190_47 =>
        q_nn r190_47 fun b194_48 =>
        q_aI G b194_48 101 x1 fun v194_49 =>
        q_nn r185_46 fun b197_50 =>
        q_sI G b197_50 101 x1 (v194_49 + (1 : Int32)) fun G =>
        kb G x1 (x3 + (1 : Int32))
      else
        kb G x1 (x3 + (1 : Int32))
def pX7_collect_133 (N a0 : Nat) (kx : mm_M → Int32 → Option (mm_M × Unit)) : Nat → mm_M → Int32 → Int32 → Option (mm_M × Unit)
  | 0 => fun _ _ _ => none
  | n + 1 => pX7_collect_133_b N a0 (pX7_collect_133 N a0 kx n) kx
set_option maxRecDepth 100000 in
set_option maxHeartbeats 4000000 in
theorem bX7_collect_133 {p : Program} {l : Launch} {e : Env} {s : State} {m : MethodId} {args : Array Value} {below : List Frame} {meth : Method} {c : Code} {E : mm_E} {N a0 : Nat} {res : mm_M × Unit} (X : mm_X p s m args meth c prog_9_method_21_code 5 "XorOverlayModel" tw_T E) (hr : meth.sig.returnType = none) {kx : mm_M → Int32 → Option (mm_M × Unit)} (hkx : ∀ (G : mm_M) (H : Heap) (locs : List Loc) (ls : Array Slot) (x1 : Int32), mm_V E s G H locs → lx_has ls 5 [(0, .inr (some a0)), (1, .inl x1)] → kx G x1 = some res → W p l e rX7_collect s m args below meth c H locs 0 0 (MQ below (mm_Qv E res.1) args s 0 0 (mm_A E)) (F0 m 204 ls [])) :
    ∀ (n : Nat) (G : mm_M) (H : Heap) (locs : List Loc) (ls : Array Slot) (x1 : Int32) (x3 : Int32), mm_V E s G H locs → lx_has ls 5 [(0, .inr (some a0)), (1, .inl x1), (3, .inl x3)] → pX7_collect_133 N a0 kx n G x1 x3 = some res → W p l e rX7_collect s m args below meth c H locs 0 0 (MQ below (mm_Qv E res.1) args s 0 0 (mm_A E)) (F0 m 133 ls []) := by
  have hx := X.1.1
  have hb := X.1.2.1
  intro n
  induction n with
  | zero =>
    intro G H locs ls x1 x3 V hl hp
    cases hp
  | succ n ih =>
    intro G H locs ls x1 x3 V hl hp
    have hp : pX7_collect_133_b N a0 (pX7_collect_133 N a0 kx n) kx G x1 x3 = some res := hp
    unfold pX7_collect_133_b at hp
    refine x_iload_n X dX7_collect_133 hl 2 rfl rfl ?_
    refine lv_bipush (v := (12 : Int32)) hx hb dX7_collect_134 (by decide) ?_
    refine q_if hp (lv_icmp_ge (tgt := 204) hx hb dX7_collect_136 (by decide)) (fun hp => ?_) (fun hp => ?_)
    · exact hkx _ _ _ _ _ V (lx_sub hl [0, 1] rfl) hp
    · refine x_aload_n X dX7_collect_139 hl 0 rfl rfl ?_
      refine q_getR (ci := 7) X V inX7 rfl (by decide) rfl 26 (by decide) rfl (tw_3 55 rfl rfl) rfl dX7_collect_140 hp (fun r140_30 hp => ?_)
      refine x_iload_n X dX7_collect_143 hl 2 rfl rfl ?_
      obtain ⟨b144_31, e0, hp2⟩ := q_nn_of hp
      clear hp; subst e0; have hp := hp2; clear hp2
      refine q_iald X V dX7_collect_144 hp (fun v144_32 hp => ?_)
      refine q_if hp (lv_if_lt (tgt := 198) hx hb dX7_collect_145 (by decide)) (fun hp => ?_) (fun hp => ?_)
      · refine x_iinc (v := (1 : Int32)) (lst' := [(3, .inl (x3 + (1 : Int32))), (0, .inr (some a0)), (1, .inl x1)]) X dX7_collect_198 hl 2 rfl (by decide) (by decide) rfl (fun ls hl => ?_)
        refine lv_goto (tgt := 133) hx hb dX7_collect_201 (by decide) ?_
        exact ih _ _ _ _ _ _ V (lx_sub hl [1, 2, 0] rfl) hp
      · refine x_aload_n X dX7_collect_148 hl 0 rfl rfl ?_
        refine x_iload_n X dX7_collect_149 hl 1 rfl rfl ?_
        refine x_aload_n X dX7_collect_150 hl 0 rfl rfl ?_
        refine q_getR (ci := 7) X V inX7 rfl (by decide) rfl 26 (by decide) rfl (tw_3 55 rfl rfl) rfl dX7_collect_151 hp (fun r151_33 hp => ?_)
        refine x_iload_n X dX7_collect_154 hl 2 rfl rfl ?_
        obtain ⟨b155_34, e0, hp2⟩ := q_nn_of hp
        clear hp; subst e0; have hp := hp2; clear hp2
        refine q_iald X V dX7_collect_155 hp (fun v155_35 hp => ?_)
        obtain ⟨hk, hp⟩ := q_is_of hp
        obtain ⟨⟨G, v156_37⟩, hq, hp⟩ := q_cl_of hp
        dsimp only at hp
        refine q_goi (cells' := 0) (slots' := 0) (va_runV (As := [.int x1, .int v155_35]) (rest := []) X.1 (cX7_hasFound l E hq) (tw_cwV 2 X.1.2.2.2.2 (tw_4 6 rfl rfl) kX7_hasFound.2.1 kX7_hasFound.2.2.1 kX7_hasFound.2.2.2 kX7_hasFound.1 rfl rfl hX7_hasFound ⟨Nat.le_of_ble_eq_true rfl, Nat.le_of_ble_eq_true rfl⟩) (mm_preV X V rfl (by decide) rfl hk) rfl rfl hl.1 rfl (lv_room (Nat.le_of_ble_eq_true rfl)) dX7_collect_156 ⟨by decide, by decide⟩) V ⟨rfl, rfl⟩ (fun H locs V => ?_)
        refine q_ifn hp (lv_if_ne (tgt := 198) hx hb dX7_collect_159 (by decide)) (fun hp => ?_) (fun hp => ?_)
        · refine x_iinc (v := (1 : Int32)) (lst' := [(3, .inl (x3 + (1 : Int32))), (0, .inr (some a0)), (1, .inl x1)]) X dX7_collect_198 hl 2 rfl (by decide) (by decide) rfl (fun ls hl => ?_)
          refine lv_goto (tgt := 133) hx hb dX7_collect_201 (by decide) ?_
          exact ih _ _ _ _ _ _ V (lx_sub hl [1, 2, 0] rfl) hp
        · refine x_aload_n X dX7_collect_162 hl 0 rfl rfl ?_
          refine q_getR (ci := 7) X V inX7 rfl (by decide) rfl 23 (by decide) rfl (tw_3 52 rfl rfl) rfl dX7_collect_163 hp (fun r163_38 hp => ?_)
          refine lv_bipush (v := (12 : Int32)) hx hb dX7_collect_166 (by decide) ?_
          refine x_iload_n X dX7_collect_168 hl 1 rfl rfl ?_
          refine lv_imul hx hb dX7_collect_169 ?_
          refine x_aload_n X dX7_collect_170 hl 0 rfl rfl ?_
          refine q_getR (ci := 7) X V inX7 rfl (by decide) rfl 22 (by decide) rfl (tw_3 51 rfl rfl) rfl dX7_collect_171 hp (fun r171_39 hp => ?_)
          refine x_iload_n X dX7_collect_174 hl 1 rfl rfl ?_
          obtain ⟨b175_40, e0, hp2⟩ := q_nn_of hp
          clear hp; subst e0; have hp := hp2; clear hp2
          refine q_iald X V dX7_collect_175 hp (fun v175_41 hp => ?_)
          refine lv_iadd hx hb dX7_collect_176 ?_
          refine x_aload_n X dX7_collect_177 hl 0 rfl rfl ?_
          refine q_getR (ci := 7) X V inX7 rfl (by decide) rfl 26 (by decide) rfl (tw_3 55 rfl rfl) rfl dX7_collect_178 hp (fun r178_42 hp => ?_)
          refine x_iload_n X dX7_collect_181 hl 2 rfl rfl ?_
          obtain ⟨b182_43, e0, hp2⟩ := q_nn_of hp
          clear hp; subst e0; have hp := hp2; clear hp2
          refine q_iald X V dX7_collect_182 hp (fun v182_44 hp => ?_)
          obtain ⟨b183_45, e0, hp2⟩ := q_nn_of hp
          clear hp; subst e0; have hp := hp2; clear hp2
          refine q_iast X V dX7_collect_183 hp (fun G H locs V hp => ?_)
          refine x_aload_n X dX7_collect_184 hl 0 rfl rfl ?_
          refine q_getR (ci := 7) X V inX7 rfl (by decide) rfl 22 (by decide) rfl (tw_3 51 rfl rfl) rfl dX7_collect_185 hp (fun r185_46 hp => ?_)
          refine x_iload_n X dX7_collect_188 hl 1 rfl rfl ?_
          refine x_aload_n X dX7_collect_189 hl 0 rfl rfl ?_
          refine q_getR (ci := 7) X V inX7 rfl (by decide) rfl 22 (by decide) rfl (tw_3 51 rfl rfl) rfl dX7_collect_190 hp (fun r190_47 hp => ?_)
          refine x_iload_n X dX7_collect_193 hl 1 rfl rfl ?_
          obtain ⟨b194_48, e0, hp2⟩ := q_nn_of hp
          clear hp; subst e0; have hp := hp2; clear hp2
          refine q_iald X V dX7_collect_194 hp (fun v194_49 hp => ?_)
          refine lv_iconst (v := (1 : Int32)) hx hb dX7_collect_195 (by decide) ?_
          refine lv_iadd hx hb dX7_collect_196 ?_
          obtain ⟨b197_50, e0, hp2⟩ := q_nn_of hp
          clear hp; subst e0; have hp := hp2; clear hp2
          refine q_iast X V dX7_collect_197 hp (fun G H locs V hp => ?_)
          refine x_iinc (v := (1 : Int32)) (lst' := [(3, .inl (x3 + (1 : Int32))), (0, .inr (some a0)), (1, .inl x1)]) X dX7_collect_198 hl 2 rfl (by decide) (by decide) rfl (fun ls hl => ?_)
          refine lv_goto (tgt := 133) hx hb dX7_collect_201 (by decide) ?_
          exact ih _ _ _ _ _ _ V (lx_sub hl [1, 2, 0] rfl) hp
def pX7_collect_0 (N a0 : Nat) (G : mm_M) (x1 : Int32) (x2 : Int32) : Option (mm_M × Unit) :=
  q_gR G a0 8 15 fun r1_1 =>
  q_nn r1_1 fun b5_2 =>
  q_aI G b5_2 101 x1 fun v5_3 =>
  if v5_3 = (1 : Int32) then
    q_gR G a0 8 18 fun r11_4 =>
    q_nn r11_4 fun b15_5 =>
    q_aI G b15_5 101 x1 fun v15_6 =>
    q_gR G a0 8 26 fun r17_7 =>
    q_nn r17_7 fun b21_8 =>
    q_aI G b21_8 101 (3 : Int32) fun v21_9 =>
    if v15_6 = v21_9 then
      q_gR G a0 8 19 fun r26_10 =>
      q_nn r26_10 fun b35_11 =>
      q_aI G b35_11 101 (((12 : Int32) * x1) + x2) fun v35_12 =>
      if v35_12 = (2 : Int32) then
        q_gR G a0 8 19 fun r42_13 =>
        q_nn r42_13 fun b52_14 =>
        q_sI G b52_14 101 (((12 : Int32) * x1) + x2) (3 : Int32) fun G =>
        q_gR G a0 8 21 fun r54_15 =>
        q_gR G a0 8 26 fun r64_16 =>
        q_nn r64_16 fun b68_17 =>
        q_aI G b68_17 101 (5 : Int32) fun v68_18 =>
        q_nn r54_15 fun b69_19 =>
        q_sI G b69_19 101 (((12 : Int32) * x1) + x2) v68_18 fun G =>
        pX7_collect_73 N a0 (fun (G : mm_M) (x1 : Int32) =>
          pX7_collect_133 N a0 (fun (G : mm_M) (x1 : Int32) =>
            q_is G a0 8 <|
            q_cl (pX7_goOn_0 N a0 G x1) fun G _ =>
            some (G, ())) N G x1 (9 : Int32)) N G x1 (6 : Int32)
      else
        some (G, ())
    else
      some (G, ())
  else
    some (G, ())
set_option maxRecDepth 100000 in
set_option maxHeartbeats 4000000 in
theorem bX7_collect_0 {p : Program} {l : Launch} {e : Env} {s : State} {m : MethodId} {args : Array Value} {below : List Frame} {meth : Method} {c : Code} {E : mm_E} {N a0 : Nat} {res : mm_M × Unit} (X : mm_X p s m args meth c prog_9_method_21_code 5 "XorOverlayModel" tw_T E) (hr : meth.sig.returnType = none) {G : mm_M} {H : Heap} {locs : List Loc} {ls : Array Slot} {x1 : Int32} {x2 : Int32} (V : mm_V E s G H locs) (hl : lx_has ls 5 [(0, .inr (some a0)), (1, .inl x1), (2, .inl x2)]) (hp : pX7_collect_0 N a0 G x1 x2 = some res) : W p l e rX7_collect s m args below meth c H locs 0 0 (MQ below (mm_Qv E res.1) args s 0 0 (mm_A E)) (F0 m 0 ls []) := by
  have hx := X.1.1
  have hb := X.1.2.1
  unfold pX7_collect_0 at hp
  refine x_aload_n X dX7_collect_0 hl 0 rfl rfl ?_
  refine q_getR (ci := 7) X V inX7 rfl (by decide) rfl 15 (by decide) rfl (tw_3 44 rfl rfl) rfl dX7_collect_1 hp (fun r1_1 hp => ?_)
  refine x_iload_n X dX7_collect_4 hl 1 rfl rfl ?_
  obtain ⟨b5_2, e0, hp2⟩ := q_nn_of hp
  clear hp; subst e0; have hp := hp2; clear hp2
  refine q_iald X V dX7_collect_5 hp (fun v5_3 hp => ?_)
  refine lv_iconst (v := (1 : Int32)) hx hb dX7_collect_6 (by decide) ?_
  refine q_ifn hp (lv_icmp_ne (tgt := 40) hx hb dX7_collect_7 (by decide)) (fun hp => ?_) (fun hp => ?_)
  · exact q_vret X V hr ⟨by decide, by decide⟩ dX7_collect_40 hp
  · refine x_aload_n X dX7_collect_10 hl 0 rfl rfl ?_
    refine q_getR (ci := 7) X V inX7 rfl (by decide) rfl 18 (by decide) rfl (tw_3 47 rfl rfl) rfl dX7_collect_11 hp (fun r11_4 hp => ?_)
    refine x_iload_n X dX7_collect_14 hl 1 rfl rfl ?_
    obtain ⟨b15_5, e0, hp2⟩ := q_nn_of hp
    clear hp; subst e0; have hp := hp2; clear hp2
    refine q_iald X V dX7_collect_15 hp (fun v15_6 hp => ?_)
    refine x_aload_n X dX7_collect_16 hl 0 rfl rfl ?_
    refine q_getR (ci := 7) X V inX7 rfl (by decide) rfl 26 (by decide) rfl (tw_3 55 rfl rfl) rfl dX7_collect_17 hp (fun r17_7 hp => ?_)
    refine lv_iconst (v := (3 : Int32)) hx hb dX7_collect_20 (by decide) ?_
    obtain ⟨b21_8, e0, hp2⟩ := q_nn_of hp
    clear hp; subst e0; have hp := hp2; clear hp2
    refine q_iald X V dX7_collect_21 hp (fun v21_9 hp => ?_)
    refine q_ifn hp (lv_icmp_ne (tgt := 40) hx hb dX7_collect_22 (by decide)) (fun hp => ?_) (fun hp => ?_)
    · exact q_vret X V hr ⟨by decide, by decide⟩ dX7_collect_40 hp
    · refine x_aload_n X dX7_collect_25 hl 0 rfl rfl ?_
      refine q_getR (ci := 7) X V inX7 rfl (by decide) rfl 19 (by decide) rfl (tw_3 48 rfl rfl) rfl dX7_collect_26 hp (fun r26_10 hp => ?_)
      refine lv_bipush (v := (12 : Int32)) hx hb dX7_collect_29 (by decide) ?_
      refine x_iload_n X dX7_collect_31 hl 1 rfl rfl ?_
      refine lv_imul hx hb dX7_collect_32 ?_
      refine x_iload_n X dX7_collect_33 hl 2 rfl rfl ?_
      refine lv_iadd hx hb dX7_collect_34 ?_
      obtain ⟨b35_11, e0, hp2⟩ := q_nn_of hp
      clear hp; subst e0; have hp := hp2; clear hp2
      refine q_iald X V dX7_collect_35 hp (fun v35_12 hp => ?_)
      refine lv_iconst (v := (2 : Int32)) hx hb dX7_collect_36 (by decide) ?_
      refine q_if hp (lv_icmp_eq (tgt := 41) hx hb dX7_collect_37 (by decide)) (fun hp => ?_) (fun hp => ?_)
      · refine x_aload_n X dX7_collect_41 hl 0 rfl rfl ?_
        refine q_getR (ci := 7) X V inX7 rfl (by decide) rfl 19 (by decide) rfl (tw_3 48 rfl rfl) rfl dX7_collect_42 hp (fun r42_13 hp => ?_)
        refine lv_bipush (v := (12 : Int32)) hx hb dX7_collect_45 (by decide) ?_
        refine x_iload_n X dX7_collect_47 hl 1 rfl rfl ?_
        refine lv_imul hx hb dX7_collect_48 ?_
        refine x_iload_n X dX7_collect_49 hl 2 rfl rfl ?_
        refine lv_iadd hx hb dX7_collect_50 ?_
        refine lv_iconst (v := (3 : Int32)) hx hb dX7_collect_51 (by decide) ?_
        obtain ⟨b52_14, e0, hp2⟩ := q_nn_of hp
        clear hp; subst e0; have hp := hp2; clear hp2
        refine q_iast X V dX7_collect_52 hp (fun G H locs V hp => ?_)
        refine x_aload_n X dX7_collect_53 hl 0 rfl rfl ?_
        refine q_getR (ci := 7) X V inX7 rfl (by decide) rfl 21 (by decide) rfl (tw_3 50 rfl rfl) rfl dX7_collect_54 hp (fun r54_15 hp => ?_)
        refine lv_bipush (v := (12 : Int32)) hx hb dX7_collect_57 (by decide) ?_
        refine x_iload_n X dX7_collect_59 hl 1 rfl rfl ?_
        refine lv_imul hx hb dX7_collect_60 ?_
        refine x_iload_n X dX7_collect_61 hl 2 rfl rfl ?_
        refine lv_iadd hx hb dX7_collect_62 ?_
        refine x_aload_n X dX7_collect_63 hl 0 rfl rfl ?_
        refine q_getR (ci := 7) X V inX7 rfl (by decide) rfl 26 (by decide) rfl (tw_3 55 rfl rfl) rfl dX7_collect_64 hp (fun r64_16 hp => ?_)
        refine lv_iconst (v := (5 : Int32)) hx hb dX7_collect_67 (by decide) ?_
        obtain ⟨b68_17, e0, hp2⟩ := q_nn_of hp
        clear hp; subst e0; have hp := hp2; clear hp2
        refine q_iald X V dX7_collect_68 hp (fun v68_18 hp => ?_)
        obtain ⟨b69_19, e0, hp2⟩ := q_nn_of hp
        clear hp; subst e0; have hp := hp2; clear hp2
        refine q_iast X V dX7_collect_69 hp (fun G H locs V hp => ?_)
        refine lv_bipush (v := (6 : Int32)) hx hb dX7_collect_70 (by decide) ?_
        refine x_istore_n (lst' := [(3, .inl (6 : Int32)), (0, .inr (some a0)), (1, .inl x1), (2, .inl x2)]) X dX7_collect_72 hl rfl (by decide) rfl (fun ls hl => ?_)
        refine bX7_collect_73 X hr (fun G H locs ls x1 V hl hp => ?_) _ _ _ _ _ _ _ V (lx_sub hl [1, 2, 0] rfl) hp
        refine lv_bipush (v := (9 : Int32)) hx hb dX7_collect_130 (by decide) ?_
        refine x_istore_n (lst' := [(3, .inl (9 : Int32)), (0, .inr (some a0)), (1, .inl x1)]) X dX7_collect_132 hl rfl (by decide) rfl (fun ls hl => ?_)
        refine bX7_collect_133 X hr (fun G H locs ls x1 V hl hp => ?_) _ _ _ _ _ _ _ V (lx_sub hl [1, 2, 0] rfl) hp
        refine x_aload_n X dX7_collect_204 hl 0 rfl rfl ?_
        refine x_iload_n X dX7_collect_205 hl 1 rfl rfl ?_
        obtain ⟨hk, hp⟩ := q_is_of hp
        obtain ⟨⟨G, u⟩, hq, hp⟩ := q_cl_of hp
        dsimp only at hp
        refine q_gov (cells' := 0) (slots' := 0) (va_runV (As := [.int x1]) (rest := []) X.1 (cX7_goOn l E hq) (tw_cwV 1 X.1.2.2.2.2 (tw_3 160 rfl rfl) kX7_goOn.2.1 kX7_goOn.2.2.1 kX7_goOn.2.2.2 kX7_goOn.1 rfl rfl hX7_goOn ⟨Nat.le_of_ble_eq_true rfl, Nat.le_of_ble_eq_true rfl⟩) (mm_preV X V rfl (by decide) rfl hk) rfl rfl hl.1 rfl (lv_room (Nat.le_of_ble_eq_true rfl)) dX7_collect_206 ⟨by decide, by decide⟩) V ⟨rfl, rfl⟩ (fun H locs V => ?_)
        exact q_vret X V hr ⟨by decide, by decide⟩ dX7_collect_209 hp
      · exact q_vret X V hr ⟨by decide, by decide⟩ dX7_collect_40 hp
theorem cX7_collect (l : Launch) (E : mm_E) {N a0 : Nat} {G : mm_M} {x1 : Int32} {x2 : Int32} {res : mm_M × Unit} (hp : pX7_collect_0 N a0 G x1 x2 = some res) : Met l yX7_collect (Cond.code yX7_collect prog_9_method_21_code 5 none :: tw_T) rX7_collect (mm_Pc E G [.ref a0, .int x1, .int x2]) (mm_Qv E res.1) 0 0 (mm_A E) :=
  mm_met (own := "XorOverlayModel") E G [.inr (some a0), .inl x1, .inl x2] (by decide) rfl rfl (Nat.le_of_ble_eq_true rfl) (fun p e s m args below meth c ls X hr hi V hl => bX7_collect_0 X hr V hl hp)
