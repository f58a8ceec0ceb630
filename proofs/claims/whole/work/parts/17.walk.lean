abbrev yX7_near : MethodName := ⟨"XorOverlayModel", "near", "(IIII)I"⟩
abbrev rX7_near : Room := { frames := 0, cells := 0, slots := 0, locals := 0 }
theorem kX7_near : Cond.code yX7_near prog_9_method_14_code 9 (Option.some .int) ∈ tw_T ∧ Cond.instanceMethod yX7_near ∈ tw_T ∧ Cond.selects "XorOverlayModel" yX7_near yX7_near ∈ tw_T ∧ Cond.initialized "XorOverlayModel" ∈ tw_T := ⟨(tw_3 159 rfl rfl), (tw_3 158 rfl rfl), (tw_s 28 rfl rfl), (tw_1 3 rfl rfl)⟩
theorem hX7_near : yX7_near.cls = "XorOverlayModel" ∧ yX7_near.cls ≠ "java/lang/invoke/MethodHandle" ∧ yX7_near.cls ≠ "java/lang/invoke/VarHandle" ∧ (parseMethodDescriptor yX7_near.desc).map (fun d => d.parameters.length) = some 4 := by decide +kernel
theorem dX7_near_0 : decode prog_9_method_14_code 0 = .ok (.iconst 0, 1) := by decide +kernel
theorem dX7_near_1 : decode prog_9_method_14_code 1 = .ok (.istore 5, 2) := by decide +kernel
theorem dX7_near_3 : decode prog_9_method_14_code 3 = .ok (.iload 5, 2) := by decide +kernel
theorem dX7_near_5 : decode prog_9_method_14_code 5 = .ok (.aload_n 0, 1) := by decide +kernel
theorem dX7_near_6 : decode prog_9_method_14_code 6 = .ok (.getfield 77, 3) := by decide +kernel
theorem dX7_near_9 : decode prog_9_method_14_code 9 = .ok (.if_icmp .ge 127, 3) := by decide +kernel
theorem dX7_near_12 : decode prog_9_method_14_code 12 = .ok (.iconst 0, 1) := by decide +kernel
theorem dX7_near_13 : decode prog_9_method_14_code 13 = .ok (.istore 6, 2) := by decide +kernel
theorem dX7_near_15 : decode prog_9_method_14_code 15 = .ok (.iconst 0, 1) := by decide +kernel
theorem dX7_near_16 : decode prog_9_method_14_code 16 = .ok (.istore 7, 2) := by decide +kernel
theorem dX7_near_18 : decode prog_9_method_14_code 18 = .ok (.iload 7, 2) := by decide +kernel
theorem dX7_near_20 : decode prog_9_method_14_code 20 = .ok (.aload_n 0, 1) := by decide +kernel
theorem dX7_near_21 : decode prog_9_method_14_code 21 = .ok (.getfield 77, 3) := by decide +kernel
theorem dX7_near_24 : decode prog_9_method_14_code 24 = .ok (.if_icmp .ge 75, 3) := by decide +kernel
theorem dX7_near_27 : decode prog_9_method_14_code 27 = .ok (.aload_n 0, 1) := by decide +kernel
theorem dX7_near_28 : decode prog_9_method_14_code 28 = .ok (.getfield 17, 3) := by decide +kernel
theorem dX7_near_31 : decode prog_9_method_14_code 31 = .ok (.bipush 12, 2) := by decide +kernel
theorem dX7_near_33 : decode prog_9_method_14_code 33 = .ok (.iload_n 1, 1) := by decide +kernel
theorem dX7_near_34 : decode prog_9_method_14_code 34 = .ok (.imul, 1) := by decide +kernel
theorem dX7_near_35 : decode prog_9_method_14_code 35 = .ok (.iload 7, 2) := by decide +kernel
theorem dX7_near_37 : decode prog_9_method_14_code 37 = .ok (.iadd, 1) := by decide +kernel
theorem dX7_near_38 : decode prog_9_method_14_code 38 = .ok (.baload, 1) := by decide +kernel
theorem dX7_near_39 : decode prog_9_method_14_code 39 = .ok (.ifCond .eq 35, 3) := by decide +kernel
theorem dX7_near_42 : decode prog_9_method_14_code 42 = .ok (.iload 7, 2) := by decide +kernel
theorem dX7_near_44 : decode prog_9_method_14_code 44 = .ok (.iload 4, 2) := by decide +kernel
theorem dX7_near_46 : decode prog_9_method_14_code 46 = .ok (.if_icmp .eq 28, 3) := by decide +kernel
theorem dX7_near_49 : decode prog_9_method_14_code 49 = .ok (.aload_n 0, 1) := by decide +kernel
theorem dX7_near_50 : decode prog_9_method_14_code 50 = .ok (.getfield 7, 3) := by decide +kernel
theorem dX7_near_53 : decode prog_9_method_14_code 53 = .ok (.iload 7, 2) := by decide +kernel
theorem dX7_near_55 : decode prog_9_method_14_code 55 = .ok (.iaload, 1) := by decide +kernel
theorem dX7_near_56 : decode prog_9_method_14_code 56 = .ok (.iload_n 2, 1) := by decide +kernel
theorem dX7_near_57 : decode prog_9_method_14_code 57 = .ok (.ixor, 1) := by decide +kernel
theorem dX7_near_58 : decode prog_9_method_14_code 58 = .ok (.aload_n 0, 1) := by decide +kernel
theorem dX7_near_59 : decode prog_9_method_14_code 59 = .ok (.getfield 7, 3) := by decide +kernel
theorem dX7_near_62 : decode prog_9_method_14_code 62 = .ok (.iload 5, 2) := by decide +kernel
theorem dX7_near_64 : decode prog_9_method_14_code 64 = .ok (.iaload, 1) := by decide +kernel
theorem dX7_near_65 : decode prog_9_method_14_code 65 = .ok (.iload_n 2, 1) := by decide +kernel
theorem dX7_near_66 : decode prog_9_method_14_code 66 = .ok (.ixor, 1) := by decide +kernel
theorem dX7_near_67 : decode prog_9_method_14_code 67 = .ok (.if_icmp .ge 7, 3) := by decide +kernel
theorem dX7_near_70 : decode prog_9_method_14_code 70 = .ok (.iconst 1, 1) := by decide +kernel
theorem dX7_near_71 : decode prog_9_method_14_code 71 = .ok (.goto 4, 3) := by decide +kernel
theorem dX7_near_74 : decode prog_9_method_14_code 74 = .ok (.iconst 0, 1) := by decide +kernel
theorem dX7_near_75 : decode prog_9_method_14_code 75 = .ok (.istore 8, 2) := by decide +kernel
theorem dX7_near_77 : decode prog_9_method_14_code 77 = .ok (.iload 8, 2) := by decide +kernel
theorem dX7_near_79 : decode prog_9_method_14_code 79 = .ok (.ifCond .eq 10, 3) := by decide +kernel
theorem dX7_near_82 : decode prog_9_method_14_code 82 = .ok (.iload 6, 2) := by decide +kernel
theorem dX7_near_84 : decode prog_9_method_14_code 84 = .ok (.iconst 1, 1) := by decide +kernel
theorem dX7_near_85 : decode prog_9_method_14_code 85 = .ok (.iadd, 1) := by decide +kernel
theorem dX7_near_86 : decode prog_9_method_14_code 86 = .ok (.goto 5, 3) := by decide +kernel
theorem dX7_near_89 : decode prog_9_method_14_code 89 = .ok (.iload 6, 2) := by decide +kernel
theorem dX7_near_91 : decode prog_9_method_14_code 91 = .ok (.istore 6, 2) := by decide +kernel
theorem dX7_near_93 : decode prog_9_method_14_code 93 = .ok (.iinc 7 1, 3) := by decide +kernel
theorem dX7_near_96 : decode prog_9_method_14_code 96 = .ok (.goto (-78), 3) := by decide +kernel
theorem dX7_near_99 : decode prog_9_method_14_code 99 = .ok (.aload_n 0, 1) := by decide +kernel
theorem dX7_near_100 : decode prog_9_method_14_code 100 = .ok (.getfield 17, 3) := by decide +kernel
theorem dX7_near_103 : decode prog_9_method_14_code 103 = .ok (.bipush 12, 2) := by decide +kernel
theorem dX7_near_105 : decode prog_9_method_14_code 105 = .ok (.iload_n 1, 1) := by decide +kernel
theorem dX7_near_106 : decode prog_9_method_14_code 106 = .ok (.imul, 1) := by decide +kernel
theorem dX7_near_107 : decode prog_9_method_14_code 107 = .ok (.iload 5, 2) := by decide +kernel
theorem dX7_near_109 : decode prog_9_method_14_code 109 = .ok (.iadd, 1) := by decide +kernel
theorem dX7_near_110 : decode prog_9_method_14_code 110 = .ok (.baload, 1) := by decide +kernel
theorem dX7_near_111 : decode prog_9_method_14_code 111 = .ok (.ifCond .eq 19, 3) := by decide +kernel
theorem dX7_near_114 : decode prog_9_method_14_code 114 = .ok (.iload 5, 2) := by decide +kernel
theorem dX7_near_116 : decode prog_9_method_14_code 116 = .ok (.iload 4, 2) := by decide +kernel
theorem dX7_near_118 : decode prog_9_method_14_code 118 = .ok (.if_icmp .eq 12, 3) := by decide +kernel
theorem dX7_near_121 : decode prog_9_method_14_code 121 = .ok (.iload 6, 2) := by decide +kernel
theorem dX7_near_123 : decode prog_9_method_14_code 123 = .ok (.iload_n 3, 1) := by decide +kernel
theorem dX7_near_124 : decode prog_9_method_14_code 124 = .ok (.if_icmp .ne 6, 3) := by decide +kernel
theorem dX7_near_127 : decode prog_9_method_14_code 127 = .ok (.iload 5, 2) := by decide +kernel
theorem dX7_near_129 : decode prog_9_method_14_code 129 = .ok (.ireturn, 1) := by decide +kernel
theorem dX7_near_130 : decode prog_9_method_14_code 130 = .ok (.iinc 5 1, 3) := by decide +kernel
theorem dX7_near_133 : decode prog_9_method_14_code 133 = .ok (.goto (-130), 3) := by decide +kernel
theorem dX7_near_136 : decode prog_9_method_14_code 136 = .ok (.iconst (-1), 1) := by decide +kernel
theorem dX7_near_137 : decode prog_9_method_14_code 137 = .ok (.ireturn, 1) := by decide +kernel
def pX7_near_75 (N a0 : Nat) (kb : mm_M → Int32 → Int32 → Int32 → Int32 → Int32 → Int32 → Int32 → Option (mm_M × Int32)) (kx : mm_M → Int32 → Int32 → Int32 → Int32 → Int32 → Int32 → Option (mm_M × Int32)) (G : mm_M) (x1 : Int32) (x2 : Int32) (x3 : Int32) (x4 : Int32) (x5 : Int32) (x6 : Int32) (x7 : Int32) (s0 : Int32) : Option (mm_M × Int32) :=
  if s0 = 0 then
    kb G x1 x2 x3 x4 x5 x6 (x7 + (1 : Int32))
  else
    kb G x1 x2 x3 x4 x5 (x6 + (1 : Int32)) (x7 + (1 : Int32))
set_option maxRecDepth 100000 in
set_option maxHeartbeats 4000000 in
theorem bX7_near_75 {p : Program} {l : Launch} {e : Env} {s : State} {m : MethodId} {args : Array Value} {below : List Frame} {meth : Method} {c : Code} {E : mm_E} {N a0 : Nat} {res : mm_M × Int32} (X : mm_X p s m args meth c prog_9_method_14_code 9 "XorOverlayModel" tw_T E) (hr : meth.sig.returnType = (Option.some .int)) {kb : mm_M → Int32 → Int32 → Int32 → Int32 → Int32 → Int32 → Int32 → Option (mm_M × Int32)} {kx : mm_M → Int32 → Int32 → Int32 → Int32 → Int32 → Int32 → Option (mm_M × Int32)} (ih : ∀ (G : mm_M) (H : Heap) (locs : List Loc) (ls : Array Slot) (x1 : Int32) (x2 : Int32) (x3 : Int32) (x4 : Int32) (x5 : Int32) (x6 : Int32) (x7 : Int32), mm_V E s G H locs → lx_has ls 9 [(0, .inr (some a0)), (1, .inl x1), (2, .inl x2), (3, .inl x3), (4, .inl x4), (5, .inl x5), (6, .inl x6), (7, .inl x7)] → kb G x1 x2 x3 x4 x5 x6 x7 = some res → W p l e rX7_near s m args below meth c H locs 0 0 (MQ below (mm_Qi E res.1 res.2) args s 0 0 (mm_A E)) (F0 m 18 ls [])) (hkx : ∀ (G : mm_M) (H : Heap) (locs : List Loc) (ls : Array Slot) (x1 : Int32) (x2 : Int32) (x3 : Int32) (x4 : Int32) (x5 : Int32) (x6 : Int32), mm_V E s G H locs → lx_has ls 9 [(0, .inr (some a0)), (1, .inl x1), (2, .inl x2), (3, .inl x3), (4, .inl x4), (5, .inl x5), (6, .inl x6)] → kx G x1 x2 x3 x4 x5 x6 = some res → W p l e rX7_near s m args below meth c H locs 0 0 (MQ below (mm_Qi E res.1 res.2) args s 0 0 (mm_A E)) (F0 m 99 ls [])) {G : mm_M} {H : Heap} {locs : List Loc} {ls : Array Slot} {x1 : Int32} {x2 : Int32} {x3 : Int32} {x4 : Int32} {x5 : Int32} {x6 : Int32} {x7 : Int32} {s0 : Int32} (V : mm_V E s G H locs) (hl : lx_has ls 9 [(0, .inr (some a0)), (1, .inl x1), (2, .inl x2), (3, .inl x3), (4, .inl x4), (5, .inl x5), (6, .inl x6), (7, .inl x7)]) (hp : pX7_near_75 N a0 kb kx G x1 x2 x3 x4 x5 x6 x7 s0 = some res) : W p l e rX7_near s m args below meth c H locs 0 0 (MQ below (mm_Qi E res.1 res.2) args s 0 0 (mm_A E)) (F0 m 75 ls [.int s0]) := by
  have hx := X.1.1
  have hb := X.1.2.1
  unfold pX7_near_75 at hp
  refine x_istore (lst' := [(8, .inl s0), (0, .inr (some a0)), (1, .inl x1), (2, .inl x2), (3, .inl x3), (4, .inl x4), (5, .inl x5), (6, .inl x6), (7, .inl x7)]) X dX7_near_75 hl (by decide) rfl (fun ls hl => ?_)
  refine x_iload X dX7_near_77 hl 0 rfl ?_
  refine q_if hp (lv_if_eq (tgt := 89) hx hb dX7_near_79 (by decide)) (fun hp => ?_) (fun hp => ?_)
  · refine x_iload X dX7_near_89 hl 7 rfl ?_
    refine x_istore (lst' := [(6, .inl x6), (8, .inl s0), (0, .inr (some a0)), (1, .inl x1), (2, .inl x2), (3, .inl x3), (4, .inl x4), (5, .inl x5), (7, .inl x7)]) X dX7_near_91 hl (by decide) rfl (fun ls hl => ?_)
    refine x_iinc (v := (1 : Int32)) (lst' := [(7, .inl (x7 + (1 : Int32))), (6, .inl x6), (8, .inl s0), (0, .inr (some a0)), (1, .inl x1), (2, .inl x2), (3, .inl x3), (4, .inl x4), (5, .inl x5)]) X dX7_near_93 hl 8 rfl (by decide) (by decide) rfl (fun ls hl => ?_)
    refine lv_goto (tgt := 18) hx hb dX7_near_96 (by decide) ?_
    exact ih _ _ _ _ _ _ _ _ _ _ _ V (lx_sub hl [3, 4, 5, 6, 7, 8, 1, 0] rfl) hp
  · refine x_iload X dX7_near_82 hl 7 rfl ?_
    refine lv_iconst (v := (1 : Int32)) hx hb dX7_near_84 (by decide) ?_
    refine lv_iadd hx hb dX7_near_85 ?_
    refine lv_goto (tgt := 91) hx hb dX7_near_86 (by decide) ?_
    refine x_istore (lst' := [(6, .inl (x6 + (1 : Int32))), (8, .inl s0), (0, .inr (some a0)), (1, .inl x1), (2, .inl x2), (3, .inl x3), (4, .inl x4), (5, .inl x5), (7, .inl x7)]) X dX7_near_91 hl (by decide) rfl (fun ls hl => ?_)
    refine x_iinc (v := (1 : Int32)) (lst' := [(7, .inl (x7 + (1 : Int32))), (6, .inl (x6 + (1 : Int32))), (8, .inl s0), (0, .inr (some a0)), (1, .inl x1), (2, .inl x2), (3, .inl x3), (4, .inl x4), (5, .inl x5)]) X dX7_near_93 hl 8 rfl (by decide) (by decide) rfl (fun ls hl => ?_)
    refine lv_goto (tgt := 18) hx hb dX7_near_96 (by decide) ?_
    exact ih _ _ _ _ _ _ _ _ _ _ _ V (lx_sub hl [3, 4, 5, 6, 7, 8, 1, 0] rfl) hp
def pX7_near_74 (N a0 : Nat) (kb : mm_M → Int32 → Int32 → Int32 → Int32 → Int32 → Int32 → Int32 → Option (mm_M × Int32)) (kx : mm_M → Int32 → Int32 → Int32 → Int32 → Int32 → Int32 → Option (mm_M × Int32)) (G : mm_M) (x1 : Int32) (x2 : Int32) (x3 : Int32) (x4 : Int32) (x5 : Int32) (x6 : Int32) (x7 : Int32) : Option (mm_M × Int32) :=
  pX7_near_75 N a0 kb kx G x1 x2 x3 x4 x5 x6 x7 (0 : Int32)
set_option maxRecDepth 100000 in
set_option maxHeartbeats 4000000 in
theorem bX7_near_74 {p : Program} {l : Launch} {e : Env} {s : State} {m : MethodId} {args : Array Value} {below : List Frame} {meth : Method} {c : Code} {E : mm_E} {N a0 : Nat} {res : mm_M × Int32} (X : mm_X p s m args meth c prog_9_method_14_code 9 "XorOverlayModel" tw_T E) (hr : meth.sig.returnType = (Option.some .int)) {kb : mm_M → Int32 → Int32 → Int32 → Int32 → Int32 → Int32 → Int32 → Option (mm_M × Int32)} {kx : mm_M → Int32 → Int32 → Int32 → Int32 → Int32 → Int32 → Option (mm_M × Int32)} (ih : ∀ (G : mm_M) (H : Heap) (locs : List Loc) (ls : Array Slot) (x1 : Int32) (x2 : Int32) (x3 : Int32) (x4 : Int32) (x5 : Int32) (x6 : Int32) (x7 : Int32), mm_V E s G H locs → lx_has ls 9 [(0, .inr (some a0)), (1, .inl x1), (2, .inl x2), (3, .inl x3), (4, .inl x4), (5, .inl x5), (6, .inl x6), (7, .inl x7)] → kb G x1 x2 x3 x4 x5 x6 x7 = some res → W p l e rX7_near s m args below meth c H locs 0 0 (MQ below (mm_Qi E res.1 res.2) args s 0 0 (mm_A E)) (F0 m 18 ls [])) (hkx : ∀ (G : mm_M) (H : Heap) (locs : List Loc) (ls : Array Slot) (x1 : Int32) (x2 : Int32) (x3 : Int32) (x4 : Int32) (x5 : Int32) (x6 : Int32), mm_V E s G H locs → lx_has ls 9 [(0, .inr (some a0)), (1, .inl x1), (2, .inl x2), (3, .inl x3), (4, .inl x4), (5, .inl x5), (6, .inl x6)] → kx G x1 x2 x3 x4 x5 x6 = some res → W p l e rX7_near s m args below meth c H locs 0 0 (MQ below (mm_Qi E res.1 res.2) args s 0 0 (mm_A E)) (F0 m 99 ls [])) {G : mm_M} {H : Heap} {locs : List Loc} {ls : Array Slot} {x1 : Int32} {x2 : Int32} {x3 : Int32} {x4 : Int32} {x5 : Int32} {x6 : Int32} {x7 : Int32} (V : mm_V E s G H locs) (hl : lx_has ls 9 [(0, .inr (some a0)), (1, .inl x1), (2, .inl x2), (3, .inl x3), (4, .inl x4), (5, .inl x5), (6, .inl x6), (7, .inl x7)]) (hp : pX7_near_74 N a0 kb kx G x1 x2 x3 x4 x5 x6 x7 = some res) : W p l e rX7_near s m args below meth c H locs 0 0 (MQ below (mm_Qi E res.1 res.2) args s 0 0 (mm_A E)) (F0 m 74 ls []) := by
  have hx := X.1.1
  have hb := X.1.2.1
  unfold pX7_near_74 at hp
  refine lv_iconst (v := (0 : Int32)) hx hb dX7_near_74 (by decide) ?_
  exact bX7_near_75 X hr ih hkx V (lx_sub hl [0, 1, 2, 3, 4, 5, 6, 7] rfl) hp
def pX7_near_18_b (N a0 : Nat) (kb : mm_M → Int32 → Int32 → Int32 → Int32 → Int32 → Int32 → Int32 → Option (mm_M × Int32)) (kx : mm_M → Int32 → Int32 → Int32 → Int32 → Int32 → Int32 → Option (mm_M × Int32)) (G : mm_M) (x1 : Int32) (x2 : Int32) (x3 : Int32) (x4 : Int32) (x5 : Int32) (x6 : Int32) (x7 : Int32) : Option (mm_M × Int32) :=
  q_gI G a0 8 3 fun v21_2 =>
  if v21_2 ≤ x7 then
    kx G x1 x2 x3 x4 x5 x6
  else
    q_gR G a0 8 6 fun r28_3 =>
    q_nn r28_3 fun b38_4 =>
    q_aI G b38_4 102 (((12 : Int32) * x1) + x7) fun v38_5 =>
    if v38_5 = 0 then
      pX7_near_74 N a0 kb kx G x1 x2 x3 x4 x5 x6 x7
    else
      if x7 = x4 then
        pX7_near_74 N a0 kb kx G x1 x2 x3 x4 x5 x6 x7
      else
        q_gR G a0 8 4 fun r50_6 =>
        q_nn r50_6 fun b55_7 =>
        q_aI G b55_7 101 x7 fun v55_8 =>
        q_gR G a0 8 4 fun r59_9 =>
        q_nn r59_9 fun b64_10 =>
        q_aI G b64_10 101 x5 fun v64_11 =>
        if (v64_11 ^^^ x2) ≤ (v55_8 ^^^ x2) then
          pX7_near_74 N a0 kb kx G x1 x2 x3 x4 x5 x6 x7
        else
          pX7_near_75 N a0 kb kx G x1 x2 x3 x4 x5 x6 x7 (1 : Int32)
def pX7_near_18 (N a0 : Nat) (kx : mm_M → Int32 → Int32 → Int32 → Int32 → Int32 → Int32 → Option (mm_M × Int32)) : Nat → mm_M → Int32 → Int32 → Int32 → Int32 → Int32 → Int32 → Int32 → Option (mm_M × Int32)
  | 0 => fun _ _ _ _ _ _ _ _ => none
  | n + 1 => pX7_near_18_b N a0 (pX7_near_18 N a0 kx n) kx
set_option maxRecDepth 100000 in
set_option maxHeartbeats 4000000 in
theorem bX7_near_18 {p : Program} {l : Launch} {e : Env} {s : State} {m : MethodId} {args : Array Value} {below : List Frame} {meth : Method} {c : Code} {E : mm_E} {N a0 : Nat} {res : mm_M × Int32} (X : mm_X p s m args meth c prog_9_method_14_code 9 "XorOverlayModel" tw_T E) (hr : meth.sig.returnType = (Option.some .int)) {kx : mm_M → Int32 → Int32 → Int32 → Int32 → Int32 → Int32 → Option (mm_M × Int32)} (hkx : ∀ (G : mm_M) (H : Heap) (locs : List Loc) (ls : Array Slot) (x1 : Int32) (x2 : Int32) (x3 : Int32) (x4 : Int32) (x5 : Int32) (x6 : Int32), mm_V E s G H locs → lx_has ls 9 [(0, .inr (some a0)), (1, .inl x1), (2, .inl x2), (3, .inl x3), (4, .inl x4), (5, .inl x5), (6, .inl x6)] → kx G x1 x2 x3 x4 x5 x6 = some res → W p l e rX7_near s m args below meth c H locs 0 0 (MQ below (mm_Qi E res.1 res.2) args s 0 0 (mm_A E)) (F0 m 99 ls [])) :
    ∀ (n : Nat) (G : mm_M) (H : Heap) (locs : List Loc) (ls : Array Slot) (x1 : Int32) (x2 : Int32) (x3 : Int32) (x4 : Int32) (x5 : Int32) (x6 : Int32) (x7 : Int32), mm_V E s G H locs → lx_has ls 9 [(0, .inr (some a0)), (1, .inl x1), (2, .inl x2), (3, .inl x3), (4, .inl x4), (5, .inl x5), (6, .inl x6), (7, .inl x7)] → pX7_near_18 N a0 kx n G x1 x2 x3 x4 x5 x6 x7 = some res → W p l e rX7_near s m args below meth c H locs 0 0 (MQ below (mm_Qi E res.1 res.2) args s 0 0 (mm_A E)) (F0 m 18 ls []) := by
  have hx := X.1.1
  have hb := X.1.2.1
  intro n
  induction n with
  | zero =>
    intro G H locs ls x1 x2 x3 x4 x5 x6 x7 V hl hp
    cases hp
  | succ n ih =>
    intro G H locs ls x1 x2 x3 x4 x5 x6 x7 V hl hp
    have hp : pX7_near_18_b N a0 (pX7_near_18 N a0 kx n) kx G x1 x2 x3 x4 x5 x6 x7 = some res := hp
    unfold pX7_near_18_b at hp
    refine x_iload X dX7_near_18 hl 7 rfl ?_
    refine x_aload_n X dX7_near_20 hl 0 rfl rfl ?_
    refine q_getI (ci := 7) X V inX7 rfl (by decide) rfl 3 (by decide) rfl (tw_3 32 rfl rfl) rfl dX7_near_21 hp (fun v21_2 hp => ?_)
    refine q_if hp (lv_icmp_ge (tgt := 99) hx hb dX7_near_24 (by decide)) (fun hp => ?_) (fun hp => ?_)
    · exact hkx _ _ _ _ _ _ _ _ _ _ V (lx_sub hl [0, 1, 2, 3, 4, 5, 6] rfl) hp
    · refine x_aload_n X dX7_near_27 hl 0 rfl rfl ?_
      refine q_getR (ci := 7) X V inX7 rfl (by decide) rfl 6 (by decide) rfl (tw_3 35 rfl rfl) rfl dX7_near_28 hp (fun r28_3 hp => ?_)
      refine lv_bipush (v := (12 : Int32)) hx hb dX7_near_31 (by decide) ?_
      refine x_iload_n X dX7_near_33 hl 1 rfl rfl ?_
      refine lv_imul hx hb dX7_near_34 ?_
      refine x_iload X dX7_near_35 hl 7 rfl ?_
      refine lv_iadd hx hb dX7_near_37 ?_
      obtain ⟨b38_4, e0, hp2⟩ := q_nn_of hp
      clear hp; subst e0; have hp := hp2; clear hp2
      refine q_zald X V dX7_near_38 hp (fun v38_5 hp => ?_)
      refine q_if hp (lv_if_eq (tgt := 74) hx hb dX7_near_39 (by decide)) (fun hp => ?_) (fun hp => ?_)
      · exact bX7_near_74 X hr ih hkx V (lx_sub hl [0, 1, 2, 3, 4, 5, 6, 7] rfl) hp
      · refine x_iload X dX7_near_42 hl 7 rfl ?_
        refine x_iload X dX7_near_44 hl 4 rfl ?_
        refine q_if hp (lv_icmp_eq (tgt := 74) hx hb dX7_near_46 (by decide)) (fun hp => ?_) (fun hp => ?_)
        · exact bX7_near_74 X hr ih hkx V (lx_sub hl [0, 1, 2, 3, 4, 5, 6, 7] rfl) hp
        · refine x_aload_n X dX7_near_49 hl 0 rfl rfl ?_
          refine q_getR (ci := 7) X V inX7 rfl (by decide) rfl 4 (by decide) rfl (tw_3 33 rfl rfl) rfl dX7_near_50 hp (fun r50_6 hp => ?_)
          refine x_iload X dX7_near_53 hl 7 rfl ?_
          obtain ⟨b55_7, e0, hp2⟩ := q_nn_of hp
          clear hp; subst e0; have hp := hp2; clear hp2
          refine q_iald X V dX7_near_55 hp (fun v55_8 hp => ?_)
          refine x_iload_n X dX7_near_56 hl 2 rfl rfl ?_
          refine lv_ixor hx hb dX7_near_57 ?_
          refine x_aload_n X dX7_near_58 hl 0 rfl rfl ?_
          refine q_getR (ci := 7) X V inX7 rfl (by decide) rfl 4 (by decide) rfl (tw_3 33 rfl rfl) rfl dX7_near_59 hp (fun r59_9 hp => ?_)
          refine x_iload X dX7_near_62 hl 5 rfl ?_
          obtain ⟨b64_10, e0, hp2⟩ := q_nn_of hp
          clear hp; subst e0; have hp := hp2; clear hp2
          refine q_iald X V dX7_near_64 hp (fun v64_11 hp => ?_)
          refine x_iload_n X dX7_near_65 hl 2 rfl rfl ?_
          refine lv_ixor hx hb dX7_near_66 ?_
          refine q_if hp (lv_icmp_ge (tgt := 74) hx hb dX7_near_67 (by decide)) (fun hp => ?_) (fun hp => ?_)
          · exact bX7_near_74 X hr ih hkx V (lx_sub hl [0, 1, 2, 3, 4, 5, 6, 7] rfl) hp
          · refine lv_iconst (v := (1 : Int32)) hx hb dX7_near_70 (by decide) ?_
            refine lv_goto (tgt := 75) hx hb dX7_near_71 (by decide) ?_
            exact bX7_near_75 X hr ih hkx V (lx_sub hl [0, 1, 2, 3, 4, 5, 6, 7] rfl) hp
def pX7_near_3_b (N a0 : Nat) (kb : mm_M → Int32 → Int32 → Int32 → Int32 → Int32 → Option (mm_M × Int32)) (kx : mm_M → Option (mm_M × Int32)) (G : mm_M) (x1 : Int32) (x2 : Int32) (x3 : Int32) (x4 : Int32) (x5 : Int32) : Option (mm_M × Int32) :=
  q_gI G a0 8 3 fun v6_1 =>
  if v6_1 ≤ x5 then
    kx G
  else
    pX7_near_18 N a0 (fun (G : mm_M) (x1 : Int32) (x2 : Int32) (x3 : Int32) (x4 : Int32) (x5 : Int32) (x6 : Int32) =>
      q_gR G a0 8 6 fun r100_12 =>
      q_nn r100_12 fun b110_13 =>
      q_aI G b110_13 102 (((12 : Int32) * x1) + x5) fun v110_14 =>
      if v110_14 = 0 then
        kb G x1 x2 x3 x4 (x5 + (1 : Int32))
      else
        if x5 = x4 then
          kb G x1 x2 x3 x4 (x5 + (1 : Int32))
        else
          if x6 = x3 then
            some (G, x5)
          else
            kb G x1 x2 x3 x4 (x5 + (1 : Int32))) N G x1 x2 x3 x4 x5 (0 : Int32) (0 : Int32)
def pX7_near_3 (N a0 : Nat) (kx : mm_M → Option (mm_M × Int32)) : Nat → mm_M → Int32 → Int32 → Int32 → Int32 → Int32 → Option (mm_M × Int32)
  | 0 => fun _ _ _ _ _ _ => none
  | n + 1 => pX7_near_3_b N a0 (pX7_near_3 N a0 kx n) kx
set_option maxRecDepth 100000 in
set_option maxHeartbeats 4000000 in
theorem bX7_near_3 {p : Program} {l : Launch} {e : Env} {s : State} {m : MethodId} {args : Array Value} {below : List Frame} {meth : Method} {c : Code} {E : mm_E} {N a0 : Nat} {res : mm_M × Int32} (X : mm_X p s m args meth c prog_9_method_14_code 9 "XorOverlayModel" tw_T E) (hr : meth.sig.returnType = (Option.some .int)) {kx : mm_M → Option (mm_M × Int32)} (hkx : ∀ (G : mm_M) (H : Heap) (locs : List Loc) (ls : Array Slot), mm_V E s G H locs → lx_has ls 9 [(0, .inr (some a0))] → kx G = some res → W p l e rX7_near s m args below meth c H locs 0 0 (MQ below (mm_Qi E res.1 res.2) args s 0 0 (mm_A E)) (F0 m 136 ls [])) :
    ∀ (n : Nat) (G : mm_M) (H : Heap) (locs : List Loc) (ls : Array Slot) (x1 : Int32) (x2 : Int32) (x3 : Int32) (x4 : Int32) (x5 : Int32), mm_V E s G H locs → lx_has ls 9 [(0, .inr (some a0)), (1, .inl x1), (2, .inl x2), (3, .inl x3), (4, .inl x4), (5, .inl x5)] → pX7_near_3 N a0 kx n G x1 x2 x3 x4 x5 = some res → W p l e rX7_near s m args below meth c H locs 0 0 (MQ below (mm_Qi E res.1 res.2) args s 0 0 (mm_A E)) (F0 m 3 ls []) := by
  have hx := X.1.1
  have hb := X.1.2.1
  intro n
  induction n with
  | zero =>
    intro G H locs ls x1 x2 x3 x4 x5 V hl hp
    cases hp
  | succ n ih =>
    intro G H locs ls x1 x2 x3 x4 x5 V hl hp
    have hp : pX7_near_3_b N a0 (pX7_near_3 N a0 kx n) kx G x1 x2 x3 x4 x5 = some res := hp
    unfold pX7_near_3_b at hp
    refine x_iload X dX7_near_3 hl 5 rfl ?_
    refine x_aload_n X dX7_near_5 hl 0 rfl rfl ?_
    refine q_getI (ci := 7) X V inX7 rfl (by decide) rfl 3 (by decide) rfl (tw_3 32 rfl rfl) rfl dX7_near_6 hp (fun v6_1 hp => ?_)
    refine q_if hp (lv_icmp_ge (tgt := 136) hx hb dX7_near_9 (by decide)) (fun hp => ?_) (fun hp => ?_)
    · exact hkx _ _ _ _ V (lx_sub hl [0] rfl) hp
    · refine lv_iconst (v := (0 : Int32)) hx hb dX7_near_12 (by decide) ?_
      refine x_istore (lst' := [(6, .inl (0 : Int32)), (0, .inr (some a0)), (1, .inl x1), (2, .inl x2), (3, .inl x3), (4, .inl x4), (5, .inl x5)]) X dX7_near_13 hl (by decide) rfl (fun ls hl => ?_)
      refine lv_iconst (v := (0 : Int32)) hx hb dX7_near_15 (by decide) ?_
      refine x_istore (lst' := [(7, .inl (0 : Int32)), (6, .inl (0 : Int32)), (0, .inr (some a0)), (1, .inl x1), (2, .inl x2), (3, .inl x3), (4, .inl x4), (5, .inl x5)]) X dX7_near_16 hl (by decide) rfl (fun ls hl => ?_)
      refine bX7_near_18 X hr (fun G H locs ls x1 x2 x3 x4 x5 x6 V hl hp => ?_) _ _ _ _ _ _ _ _ _ _ _ _ V (lx_sub hl [2, 3, 4, 5, 6, 7, 1, 0] rfl) hp
      refine x_aload_n X dX7_near_99 hl 0 rfl rfl ?_
      refine q_getR (ci := 7) X V inX7 rfl (by decide) rfl 6 (by decide) rfl (tw_3 35 rfl rfl) rfl dX7_near_100 hp (fun r100_12 hp => ?_)
      refine lv_bipush (v := (12 : Int32)) hx hb dX7_near_103 (by decide) ?_
      refine x_iload_n X dX7_near_105 hl 1 rfl rfl ?_
      refine lv_imul hx hb dX7_near_106 ?_
      refine x_iload X dX7_near_107 hl 5 rfl ?_
      refine lv_iadd hx hb dX7_near_109 ?_
      obtain ⟨b110_13, e0, hp2⟩ := q_nn_of hp
      clear hp; subst e0; have hp := hp2; clear hp2
      refine q_zald X V dX7_near_110 hp (fun v110_14 hp => ?_)
      refine q_if hp (lv_if_eq (tgt := 130) hx hb dX7_near_111 (by decide)) (fun hp => ?_) (fun hp => ?_)
      · refine x_iinc (v := (1 : Int32)) (lst' := [(5, .inl (x5 + (1 : Int32))), (0, .inr (some a0)), (1, .inl x1), (2, .inl x2), (3, .inl x3), (4, .inl x4), (6, .inl x6)]) X dX7_near_130 hl 5 rfl (by decide) (by decide) rfl (fun ls hl => ?_)
        refine lv_goto (tgt := 3) hx hb dX7_near_133 (by decide) ?_
        exact ih _ _ _ _ _ _ _ _ _ V (lx_sub hl [1, 2, 3, 4, 5, 0] rfl) hp
      · refine x_iload X dX7_near_114 hl 5 rfl ?_
        refine x_iload X dX7_near_116 hl 4 rfl ?_
        refine q_if hp (lv_icmp_eq (tgt := 130) hx hb dX7_near_118 (by decide)) (fun hp => ?_) (fun hp => ?_)
        · refine x_iinc (v := (1 : Int32)) (lst' := [(5, .inl (x5 + (1 : Int32))), (0, .inr (some a0)), (1, .inl x1), (2, .inl x2), (3, .inl x3), (4, .inl x4), (6, .inl x6)]) X dX7_near_130 hl 5 rfl (by decide) (by decide) rfl (fun ls hl => ?_)
          refine lv_goto (tgt := 3) hx hb dX7_near_133 (by decide) ?_
          exact ih _ _ _ _ _ _ _ _ _ V (lx_sub hl [1, 2, 3, 4, 5, 0] rfl) hp
        · refine x_iload X dX7_near_121 hl 6 rfl ?_
          refine x_iload_n X dX7_near_123 hl 3 rfl rfl ?_
          refine q_ifn hp (lv_icmp_ne (tgt := 130) hx hb dX7_near_124 (by decide)) (fun hp => ?_) (fun hp => ?_)
          · refine x_iinc (v := (1 : Int32)) (lst' := [(5, .inl (x5 + (1 : Int32))), (0, .inr (some a0)), (1, .inl x1), (2, .inl x2), (3, .inl x3), (4, .inl x4), (6, .inl x6)]) X dX7_near_130 hl 5 rfl (by decide) (by decide) rfl (fun ls hl => ?_)
            refine lv_goto (tgt := 3) hx hb dX7_near_133 (by decide) ?_
            exact ih _ _ _ _ _ _ _ _ _ V (lx_sub hl [1, 2, 3, 4, 5, 0] rfl) hp
          · refine x_iload X dX7_near_127 hl 5 rfl ?_
            exact q_iret X V hr ⟨by decide, by decide⟩ dX7_near_129 hp
def pX7_near_0 (N a0 : Nat) (G : mm_M) (x1 : Int32) (x2 : Int32) (x3 : Int32) (x4 : Int32) : Option (mm_M × Int32) :=
  pX7_near_3 N a0 (fun (G : mm_M) =>
    some (G, (-1 : Int32))) N G x1 x2 x3 x4 (0 : Int32)
set_option maxRecDepth 100000 in
set_option maxHeartbeats 4000000 in
theorem bX7_near_0 {p : Program} {l : Launch} {e : Env} {s : State} {m : MethodId} {args : Array Value} {below : List Frame} {meth : Method} {c : Code} {E : mm_E} {N a0 : Nat} {res : mm_M × Int32} (X : mm_X p s m args meth c prog_9_method_14_code 9 "XorOverlayModel" tw_T E) (hr : meth.sig.returnType = (Option.some .int)) {G : mm_M} {H : Heap} {locs : List Loc} {ls : Array Slot} {x1 : Int32} {x2 : Int32} {x3 : Int32} {x4 : Int32} (V : mm_V E s G H locs) (hl : lx_has ls 9 [(0, .inr (some a0)), (1, .inl x1), (2, .inl x2), (3, .inl x3), (4, .inl x4)]) (hp : pX7_near_0 N a0 G x1 x2 x3 x4 = some res) : W p l e rX7_near s m args below meth c H locs 0 0 (MQ below (mm_Qi E res.1 res.2) args s 0 0 (mm_A E)) (F0 m 0 ls []) := by
  have hx := X.1.1
  have hb := X.1.2.1
  unfold pX7_near_0 at hp
  refine lv_iconst (v := (0 : Int32)) hx hb dX7_near_0 (by decide) ?_
  refine x_istore (lst' := [(5, .inl (0 : Int32)), (0, .inr (some a0)), (1, .inl x1), (2, .inl x2), (3, .inl x3), (4, .inl x4)]) X dX7_near_1 hl (by decide) rfl (fun ls hl => ?_)
  refine bX7_near_3 X hr (fun G H locs ls V hl hp => ?_) _ _ _ _ _ _ _ _ _ _ V (lx_sub hl [1, 2, 3, 4, 5, 0] rfl) hp
  refine lv_iconst (v := (-1 : Int32)) hx hb dX7_near_136 (by decide) ?_
  exact q_iret X V hr ⟨by decide, by decide⟩ dX7_near_137 hp
theorem cX7_near (l : Launch) (E : mm_E) {N a0 : Nat} {G : mm_M} {x1 : Int32} {x2 : Int32} {x3 : Int32} {x4 : Int32} {res : mm_M × Int32} (hp : pX7_near_0 N a0 G x1 x2 x3 x4 = some res) : Met l yX7_near (Cond.code yX7_near prog_9_method_14_code 9 (Option.some .int) :: tw_T) rX7_near (mm_Pc E G [.ref a0, .int x1, .int x2, .int x3, .int x4]) (mm_Qi E res.1 res.2) 0 0 (mm_A E) :=
  mm_met (own := "XorOverlayModel") E G [.inr (some a0), .inl x1, .inl x2, .inl x3, .inl x4] (by decide) rfl rfl (Nat.le_of_ble_eq_true rfl) (fun p e s m args below meth c ls X hr hi V hl => bX7_near_0 X hr V hl hp)
abbrev yX7_tokenOf : MethodName := ⟨"XorOverlayModel", "tokenOf", "(III)I"⟩
abbrev rX7_tokenOf : Room := { frames := 0, cells := 0, slots := 0, locals := 0 }
theorem kX7_tokenOf : Cond.code yX7_tokenOf prog_9_method_15_code 5 (Option.some .int) ∈ tw_T ∧ Cond.instanceMethod yX7_tokenOf ∈ tw_T ∧ Cond.selects "XorOverlayModel" yX7_tokenOf yX7_tokenOf ∈ tw_T ∧ Cond.initialized "XorOverlayModel" ∈ tw_T := ⟨(tw_3 239 rfl rfl), (tw_3 238 rfl rfl), (tw_s 43 rfl rfl), (tw_1 3 rfl rfl)⟩
theorem hX7_tokenOf : yX7_tokenOf.cls = "XorOverlayModel" ∧ yX7_tokenOf.cls ≠ "java/lang/invoke/MethodHandle" ∧ yX7_tokenOf.cls ≠ "java/lang/invoke/VarHandle" ∧ (parseMethodDescriptor yX7_tokenOf.desc).map (fun d => d.parameters.length) = some 3 := by decide +kernel
theorem dX7_tokenOf_0 : decode prog_9_method_15_code 0 = .ok (.ldc 113, 2) := by decide +kernel
theorem dX7_tokenOf_2 : decode prog_9_method_15_code 2 = .ok (.aload_n 0, 1) := by decide +kernel
theorem dX7_tokenOf_3 : decode prog_9_method_15_code 3 = .ok (.getfield 7, 3) := by decide +kernel
theorem dX7_tokenOf_6 : decode prog_9_method_15_code 6 = .ok (.iload_n 1, 1) := by decide +kernel
theorem dX7_tokenOf_7 : decode prog_9_method_15_code 7 = .ok (.iaload, 1) := by decide +kernel
theorem dX7_tokenOf_8 : decode prog_9_method_15_code 8 = .ok (.imul, 1) := by decide +kernel
theorem dX7_tokenOf_9 : decode prog_9_method_15_code 9 = .ok (.sipush 9973, 3) := by decide +kernel
theorem dX7_tokenOf_12 : decode prog_9_method_15_code 12 = .ok (.aload_n 0, 1) := by decide +kernel
theorem dX7_tokenOf_13 : decode prog_9_method_15_code 13 = .ok (.getfield 7, 3) := by decide +kernel
theorem dX7_tokenOf_16 : decode prog_9_method_15_code 16 = .ok (.iload_n 2, 1) := by decide +kernel
theorem dX7_tokenOf_17 : decode prog_9_method_15_code 17 = .ok (.iaload, 1) := by decide +kernel
theorem dX7_tokenOf_18 : decode prog_9_method_15_code 18 = .ok (.imul, 1) := by decide +kernel
theorem dX7_tokenOf_19 : decode prog_9_method_15_code 19 = .ok (.iadd, 1) := by decide +kernel
theorem dX7_tokenOf_20 : decode prog_9_method_15_code 20 = .ok (.sipush 30011, 3) := by decide +kernel
theorem dX7_tokenOf_23 : decode prog_9_method_15_code 23 = .ok (.iload_n 3, 1) := by decide +kernel
theorem dX7_tokenOf_24 : decode prog_9_method_15_code 24 = .ok (.imul, 1) := by decide +kernel
theorem dX7_tokenOf_25 : decode prog_9_method_15_code 25 = .ok (.iadd, 1) := by decide +kernel
theorem dX7_tokenOf_26 : decode prog_9_method_15_code 26 = .ok (.istore 4, 2) := by decide +kernel
theorem dX7_tokenOf_28 : decode prog_9_method_15_code 28 = .ok (.iload 4, 2) := by decide +kernel
theorem dX7_tokenOf_30 : decode prog_9_method_15_code 30 = .ok (.iload 4, 2) := by decide +kernel
theorem dX7_tokenOf_32 : decode prog_9_method_15_code 32 = .ok (.bipush 7, 2) := by decide +kernel
theorem dX7_tokenOf_34 : decode prog_9_method_15_code 34 = .ok (.iushr, 1) := by decide +kernel
theorem dX7_tokenOf_35 : decode prog_9_method_15_code 35 = .ok (.ixor, 1) := by decide +kernel
theorem dX7_tokenOf_36 : decode prog_9_method_15_code 36 = .ok (.ldc 114, 2) := by decide +kernel
theorem dX7_tokenOf_38 : decode prog_9_method_15_code 38 = .ok (.iand, 1) := by decide +kernel
theorem dX7_tokenOf_39 : decode prog_9_method_15_code 39 = .ok (.ireturn, 1) := by decide +kernel
def pX7_tokenOf_0 (N a0 : Nat) (G : mm_M) (x1 : Int32) (x2 : Int32) (x3 : Int32) : Option (mm_M × Int32) :=
  q_gR G a0 8 4 fun r3_1 =>
  q_nn r3_1 fun b7_2 =>
  q_aI G b7_2 101 x1 fun v7_3 =>
  q_gR G a0 8 4 fun r13_4 =>
  q_nn r13_4 fun b17_5 =>
  q_aI G b17_5 101 x2 fun v17_6 =>
  some (G, ((((((40503 : Int32) * v7_3) + ((9973 : Int32) * v17_6)) + ((30011 : Int32) * x3)) ^^^ (((((((40503 : Int32) * v7_3) + ((9973 : Int32) * v17_6)) + ((30011 : Int32) * x3))).toUInt32 >>> (((7 : Int32)).toUInt32 &&& Int32.toUInt32 31)).toInt32)) &&& (65535 : Int32)))
set_option maxRecDepth 100000 in
set_option maxHeartbeats 4000000 in
theorem bX7_tokenOf_0 {p : Program} {l : Launch} {e : Env} {s : State} {m : MethodId} {args : Array Value} {below : List Frame} {meth : Method} {c : Code} {E : mm_E} {N a0 : Nat} {res : mm_M × Int32} (X : mm_X p s m args meth c prog_9_method_15_code 5 "XorOverlayModel" tw_T E) (hr : meth.sig.returnType = (Option.some .int)) {G : mm_M} {H : Heap} {locs : List Loc} {ls : Array Slot} {x1 : Int32} {x2 : Int32} {x3 : Int32} (V : mm_V E s G H locs) (hl : lx_has ls 5 [(0, .inr (some a0)), (1, .inl x1), (2, .inl x2), (3, .inl x3)]) (hp : pX7_tokenOf_0 N a0 G x1 x2 x3 = some res) : W p l e rX7_tokenOf s m args below meth c H locs 0 0 (MQ below (mm_Qi E res.1 res.2) args s 0 0 (mm_A E)) (F0 m 0 ls []) := by
  have hx := X.1.1
  have hb := X.1.2.1
  unfold pX7_tokenOf_0 at hp
  refine lv_ldc (v := (40503 : Int32)) hx hb X.1.2.2.2.1 (X.1.2.2.2.2 _ (tw_4 0 rfl rfl)) dX7_tokenOf_0 ?_
  refine x_aload_n X dX7_tokenOf_2 hl 0 rfl rfl ?_
  refine q_getR (ci := 7) X V inX7 rfl (by decide) rfl 4 (by decide) rfl (tw_3 33 rfl rfl) rfl dX7_tokenOf_3 hp (fun r3_1 hp => ?_)
  refine x_iload_n X dX7_tokenOf_6 hl 1 rfl rfl ?_
  obtain ⟨b7_2, e0, hp2⟩ := q_nn_of hp
  clear hp; subst e0; have hp := hp2; clear hp2
  refine q_iald X V dX7_tokenOf_7 hp (fun v7_3 hp => ?_)
  refine lv_imul hx hb dX7_tokenOf_8 ?_
  refine lv_sipush (v := (9973 : Int32)) hx hb dX7_tokenOf_9 (by decide) ?_
  refine x_aload_n X dX7_tokenOf_12 hl 0 rfl rfl ?_
  refine q_getR (ci := 7) X V inX7 rfl (by decide) rfl 4 (by decide) rfl (tw_3 33 rfl rfl) rfl dX7_tokenOf_13 hp (fun r13_4 hp => ?_)
  refine x_iload_n X dX7_tokenOf_16 hl 2 rfl rfl ?_
  obtain ⟨b17_5, e0, hp2⟩ := q_nn_of hp
  clear hp; subst e0; have hp := hp2; clear hp2
  refine q_iald X V dX7_tokenOf_17 hp (fun v17_6 hp => ?_)
  refine lv_imul hx hb dX7_tokenOf_18 ?_
  refine lv_iadd hx hb dX7_tokenOf_19 ?_
  refine lv_sipush (v := (30011 : Int32)) hx hb dX7_tokenOf_20 (by decide) ?_
  refine x_iload_n X dX7_tokenOf_23 hl 3 rfl rfl ?_
  refine lv_imul hx hb dX7_tokenOf_24 ?_
  refine lv_iadd hx hb dX7_tokenOf_25 ?_
  refine x_istore (lst' := [(4, .inl ((((40503 : Int32) * v7_3) + ((9973 : Int32) * v17_6)) + ((30011 : Int32) * x3))), (0, .inr (some a0)), (1, .inl x1), (2, .inl x2), (3, .inl x3)]) X dX7_tokenOf_26 hl (by decide) rfl (fun ls hl => ?_)
  refine x_iload X dX7_tokenOf_28 hl 0 rfl ?_
  refine x_iload X dX7_tokenOf_30 hl 0 rfl ?_
  refine lv_bipush (v := (7 : Int32)) hx hb dX7_tokenOf_32 (by decide) ?_
  refine lv_iushr (v := ((((((40503 : Int32) * v7_3) + ((9973 : Int32) * v17_6)) + ((30011 : Int32) * x3))).toUInt32 >>> (((7 : Int32)).toUInt32 &&& Int32.toUInt32 31)).toInt32) hx hb dX7_tokenOf_34 rfl ?_
  refine lv_ixor hx hb dX7_tokenOf_35 ?_
  refine lv_ldc (v := (65535 : Int32)) hx hb X.1.2.2.2.1 (X.1.2.2.2.2 _ (tw_4 1 rfl rfl)) dX7_tokenOf_36 ?_
  refine lv_iand hx hb dX7_tokenOf_38 ?_
  exact q_iret X V hr ⟨by decide, by decide⟩ dX7_tokenOf_39 hp
theorem cX7_tokenOf (l : Launch) (E : mm_E) {N a0 : Nat} {G : mm_M} {x1 : Int32} {x2 : Int32} {x3 : Int32} {res : mm_M × Int32} (hp : pX7_tokenOf_0 N a0 G x1 x2 x3 = some res) : Met l yX7_tokenOf (Cond.code yX7_tokenOf prog_9_method_15_code 5 (Option.some .int) :: tw_T) rX7_tokenOf (mm_Pc E G [.ref a0, .int x1, .int x2, .int x3]) (mm_Qi E res.1 res.2) 0 0 (mm_A E) :=
  mm_met (own := "XorOverlayModel") E G [.inr (some a0), .inl x1, .inl x2, .inl x3] (by decide) rfl rfl (Nat.le_of_ble_eq_true rfl) (fun p e s m args below meth c ls X hr hi V hl => bX7_tokenOf_0 X hr V hl hp)
abbrev yX7_send : MethodName := ⟨"XorOverlayModel", "send", "(IIIIII)I"⟩
abbrev rX7_send : Room := { frames := 0, cells := 0, slots := 0, locals := 0 }
theorem kX7_send : Cond.code yX7_send prog_9_method_16_code 9 (Option.some .int) ∈ tw_T ∧ Cond.instanceMethod yX7_send ∈ tw_T ∧ Cond.selects "XorOverlayModel" yX7_send yX7_send ∈ tw_T ∧ Cond.initialized "XorOverlayModel" ∈ tw_T := ⟨(tw_3 183 rfl rfl), (tw_3 182 rfl rfl), (tw_s 34 rfl rfl), (tw_1 3 rfl rfl)⟩
theorem hX7_send : yX7_send.cls = "XorOverlayModel" ∧ yX7_send.cls ≠ "java/lang/invoke/MethodHandle" ∧ yX7_send.cls ≠ "java/lang/invoke/VarHandle" ∧ (parseMethodDescriptor yX7_send.desc).map (fun d => d.parameters.length) = some 6 := by decide +kernel
theorem dX7_send_0 : decode prog_9_method_16_code 0 = .ok (.aload_n 0, 1) := by decide +kernel
theorem dX7_send_1 : decode prog_9_method_16_code 1 = .ok (.getfield 115, 3) := by decide +kernel
theorem dX7_send_4 : decode prog_9_method_16_code 4 = .ok (.bipush 24, 2) := by decide +kernel
theorem dX7_send_6 : decode prog_9_method_16_code 6 = .ok (.if_icmp .lt 5, 3) := by decide +kernel
theorem dX7_send_9 : decode prog_9_method_16_code 9 = .ok (.iconst (-1), 1) := by decide +kernel
theorem dX7_send_10 : decode prog_9_method_16_code 10 = .ok (.ireturn, 1) := by decide +kernel
theorem dX7_send_11 : decode prog_9_method_16_code 11 = .ok (.bipush 12, 2) := by decide +kernel
theorem dX7_send_13 : decode prog_9_method_16_code 13 = .ok (.aload_n 0, 1) := by decide +kernel
theorem dX7_send_14 : decode prog_9_method_16_code 14 = .ok (.getfield 115, 3) := by decide +kernel
theorem dX7_send_17 : decode prog_9_method_16_code 17 = .ok (.imul, 1) := by decide +kernel
theorem dX7_send_18 : decode prog_9_method_16_code 18 = .ok (.istore 7, 2) := by decide +kernel
theorem dX7_send_20 : decode prog_9_method_16_code 20 = .ok (.aload_n 0, 1) := by decide +kernel
theorem dX7_send_21 : decode prog_9_method_16_code 21 = .ok (.dup, 1) := by decide +kernel
theorem dX7_send_22 : decode prog_9_method_16_code 22 = .ok (.getfield 115, 3) := by decide +kernel
theorem dX7_send_25 : decode prog_9_method_16_code 25 = .ok (.iconst 1, 1) := by decide +kernel
theorem dX7_send_26 : decode prog_9_method_16_code 26 = .ok (.iadd, 1) := by decide +kernel
theorem dX7_send_27 : decode prog_9_method_16_code 27 = .ok (.putfield 115, 3) := by decide +kernel
theorem dX7_send_30 : decode prog_9_method_16_code 30 = .ok (.aload_n 0, 1) := by decide +kernel
theorem dX7_send_31 : decode prog_9_method_16_code 31 = .ok (.getfield 71, 3) := by decide +kernel
theorem dX7_send_34 : decode prog_9_method_16_code 34 = .ok (.iload 7, 2) := by decide +kernel
theorem dX7_send_36 : decode prog_9_method_16_code 36 = .ok (.iload_n 1, 1) := by decide +kernel
theorem dX7_send_37 : decode prog_9_method_16_code 37 = .ok (.iastore, 1) := by decide +kernel
theorem dX7_send_38 : decode prog_9_method_16_code 38 = .ok (.aload_n 0, 1) := by decide +kernel
theorem dX7_send_39 : decode prog_9_method_16_code 39 = .ok (.getfield 71, 3) := by decide +kernel
theorem dX7_send_42 : decode prog_9_method_16_code 42 = .ok (.iload 7, 2) := by decide +kernel
theorem dX7_send_44 : decode prog_9_method_16_code 44 = .ok (.iconst 1, 1) := by decide +kernel
theorem dX7_send_45 : decode prog_9_method_16_code 45 = .ok (.iadd, 1) := by decide +kernel
theorem dX7_send_46 : decode prog_9_method_16_code 46 = .ok (.aload_n 0, 1) := by decide +kernel
theorem dX7_send_47 : decode prog_9_method_16_code 47 = .ok (.getfield 7, 3) := by decide +kernel
theorem dX7_send_50 : decode prog_9_method_16_code 50 = .ok (.iload_n 2, 1) := by decide +kernel
theorem dX7_send_51 : decode prog_9_method_16_code 51 = .ok (.iaload, 1) := by decide +kernel
theorem dX7_send_52 : decode prog_9_method_16_code 52 = .ok (.iastore, 1) := by decide +kernel
theorem dX7_send_53 : decode prog_9_method_16_code 53 = .ok (.aload_n 0, 1) := by decide +kernel
theorem dX7_send_54 : decode prog_9_method_16_code 54 = .ok (.getfield 71, 3) := by decide +kernel
theorem dX7_send_57 : decode prog_9_method_16_code 57 = .ok (.iload 7, 2) := by decide +kernel
theorem dX7_send_59 : decode prog_9_method_16_code 59 = .ok (.iconst 2, 1) := by decide +kernel
theorem dX7_send_60 : decode prog_9_method_16_code 60 = .ok (.iadd, 1) := by decide +kernel
theorem dX7_send_61 : decode prog_9_method_16_code 61 = .ok (.aload_n 0, 1) := by decide +kernel
theorem dX7_send_62 : decode prog_9_method_16_code 62 = .ok (.getfield 7, 3) := by decide +kernel
theorem dX7_send_65 : decode prog_9_method_16_code 65 = .ok (.iload_n 3, 1) := by decide +kernel
theorem dX7_send_66 : decode prog_9_method_16_code 66 = .ok (.iaload, 1) := by decide +kernel
theorem dX7_send_67 : decode prog_9_method_16_code 67 = .ok (.iastore, 1) := by decide +kernel
theorem dX7_send_68 : decode prog_9_method_16_code 68 = .ok (.aload_n 0, 1) := by decide +kernel
theorem dX7_send_69 : decode prog_9_method_16_code 69 = .ok (.getfield 71, 3) := by decide +kernel
theorem dX7_send_72 : decode prog_9_method_16_code 72 = .ok (.iload 7, 2) := by decide +kernel
theorem dX7_send_74 : decode prog_9_method_16_code 74 = .ok (.iconst 3, 1) := by decide +kernel
theorem dX7_send_75 : decode prog_9_method_16_code 75 = .ok (.iadd, 1) := by decide +kernel
theorem dX7_send_76 : decode prog_9_method_16_code 76 = .ok (.iload 4, 2) := by decide +kernel
theorem dX7_send_78 : decode prog_9_method_16_code 78 = .ok (.iastore, 1) := by decide +kernel
theorem dX7_send_79 : decode prog_9_method_16_code 79 = .ok (.aload_n 0, 1) := by decide +kernel
theorem dX7_send_80 : decode prog_9_method_16_code 80 = .ok (.getfield 71, 3) := by decide +kernel
theorem dX7_send_83 : decode prog_9_method_16_code 83 = .ok (.iload 7, 2) := by decide +kernel
theorem dX7_send_85 : decode prog_9_method_16_code 85 = .ok (.iconst 4, 1) := by decide +kernel
theorem dX7_send_86 : decode prog_9_method_16_code 86 = .ok (.iadd, 1) := by decide +kernel
theorem dX7_send_87 : decode prog_9_method_16_code 87 = .ok (.iload 5, 2) := by decide +kernel
theorem dX7_send_89 : decode prog_9_method_16_code 89 = .ok (.iastore, 1) := by decide +kernel
theorem dX7_send_90 : decode prog_9_method_16_code 90 = .ok (.aload_n 0, 1) := by decide +kernel
theorem dX7_send_91 : decode prog_9_method_16_code 91 = .ok (.getfield 71, 3) := by decide +kernel
theorem dX7_send_94 : decode prog_9_method_16_code 94 = .ok (.iload 7, 2) := by decide +kernel
theorem dX7_send_96 : decode prog_9_method_16_code 96 = .ok (.iconst 5, 1) := by decide +kernel
theorem dX7_send_97 : decode prog_9_method_16_code 97 = .ok (.iadd, 1) := by decide +kernel
theorem dX7_send_98 : decode prog_9_method_16_code 98 = .ok (.iload 6, 2) := by decide +kernel
theorem dX7_send_100 : decode prog_9_method_16_code 100 = .ok (.iastore, 1) := by decide +kernel
theorem dX7_send_101 : decode prog_9_method_16_code 101 = .ok (.bipush 6, 2) := by decide +kernel
theorem dX7_send_103 : decode prog_9_method_16_code 103 = .ok (.istore 8, 2) := by decide +kernel
theorem dX7_send_105 : decode prog_9_method_16_code 105 = .ok (.iload 8, 2) := by decide +kernel
theorem dX7_send_107 : decode prog_9_method_16_code 107 = .ok (.bipush 12, 2) := by decide +kernel
theorem dX7_send_109 : decode prog_9_method_16_code 109 = .ok (.if_icmp .ge 20, 3) := by decide +kernel
theorem dX7_send_112 : decode prog_9_method_16_code 112 = .ok (.aload_n 0, 1) := by decide +kernel
theorem dX7_send_113 : decode prog_9_method_16_code 113 = .ok (.getfield 71, 3) := by decide +kernel
theorem dX7_send_116 : decode prog_9_method_16_code 116 = .ok (.iload 7, 2) := by decide +kernel
theorem dX7_send_118 : decode prog_9_method_16_code 118 = .ok (.iload 8, 2) := by decide +kernel
theorem dX7_send_120 : decode prog_9_method_16_code 120 = .ok (.iadd, 1) := by decide +kernel
theorem dX7_send_121 : decode prog_9_method_16_code 121 = .ok (.iconst (-1), 1) := by decide +kernel
theorem dX7_send_122 : decode prog_9_method_16_code 122 = .ok (.iastore, 1) := by decide +kernel
theorem dX7_send_123 : decode prog_9_method_16_code 123 = .ok (.iinc 8 1, 3) := by decide +kernel
theorem dX7_send_126 : decode prog_9_method_16_code 126 = .ok (.goto (-21), 3) := by decide +kernel
theorem dX7_send_129 : decode prog_9_method_16_code 129 = .ok (.iload 7, 2) := by decide +kernel
theorem dX7_send_131 : decode prog_9_method_16_code 131 = .ok (.ireturn, 1) := by decide +kernel
def pX7_send_105_b (N a0 : Nat) (kb : mm_M → Int32 → Int32 → Option (mm_M × Int32)) (kx : mm_M → Int32 → Option (mm_M × Int32)) (G : mm_M) (x7 : Int32) (x8 : Int32) : Option (mm_M × Int32) :=
  if (12 : Int32) ≤ x8 then
    kx G x7
  else
    q_gR G a0 8 25 fun r113_22 =>
    q_nn r113_22 fun b122_23 =>
    q_sI G b122_23 101 (x7 + x8) (-1 : Int32) fun G =>
    kb G x7 (x8 + (1 : Int32))
def pX7_send_105 (N a0 : Nat) (kx : mm_M → Int32 → Option (mm_M × Int32)) : Nat → mm_M → Int32 → Int32 → Option (mm_M × Int32)
  | 0 => fun _ _ _ => none
  | n + 1 => pX7_send_105_b N a0 (pX7_send_105 N a0 kx n) kx
set_option maxRecDepth 100000 in
set_option maxHeartbeats 4000000 in
theorem bX7_send_105 {p : Program} {l : Launch} {e : Env} {s : State} {m : MethodId} {args : Array Value} {below : List Frame} {meth : Method} {c : Code} {E : mm_E} {N a0 : Nat} {res : mm_M × Int32} (X : mm_X p s m args meth c prog_9_method_16_code 9 "XorOverlayModel" tw_T E) (hr : meth.sig.returnType = (Option.some .int)) {kx : mm_M → Int32 → Option (mm_M × Int32)} (hkx : ∀ (G : mm_M) (H : Heap) (locs : List Loc) (ls : Array Slot) (x7 : Int32), mm_V E s G H locs → lx_has ls 9 [(0, .inr (some a0)), (7, .inl x7)] → kx G x7 = some res → W p l e rX7_send s m args below meth c H locs 0 0 (MQ below (mm_Qi E res.1 res.2) args s 0 0 (mm_A E)) (F0 m 129 ls [])) :
    ∀ (n : Nat) (G : mm_M) (H : Heap) (locs : List Loc) (ls : Array Slot) (x7 : Int32) (x8 : Int32), mm_V E s G H locs → lx_has ls 9 [(0, .inr (some a0)), (7, .inl x7), (8, .inl x8)] → pX7_send_105 N a0 kx n G x7 x8 = some res → W p l e rX7_send s m args below meth c H locs 0 0 (MQ below (mm_Qi E res.1 res.2) args s 0 0 (mm_A E)) (F0 m 105 ls []) := by
  have hx := X.1.1
  have hb := X.1.2.1
  intro n
  induction n with
  | zero =>
    intro G H locs ls x7 x8 V hl hp
    cases hp
  | succ n ih =>
    intro G H locs ls x7 x8 V hl hp
    have hp : pX7_send_105_b N a0 (pX7_send_105 N a0 kx n) kx G x7 x8 = some res := hp
    unfold pX7_send_105_b at hp
    refine x_iload X dX7_send_105 hl 2 rfl ?_
    refine lv_bipush (v := (12 : Int32)) hx hb dX7_send_107 (by decide) ?_
    refine q_if hp (lv_icmp_ge (tgt := 129) hx hb dX7_send_109 (by decide)) (fun hp => ?_) (fun hp => ?_)
    · exact hkx _ _ _ _ _ V (lx_sub hl [0, 1] rfl) hp
    · refine x_aload_n X dX7_send_112 hl 0 rfl rfl ?_
      refine q_getR (ci := 7) X V inX7 rfl (by decide) rfl 25 (by decide) rfl (tw_3 54 rfl rfl) rfl dX7_send_113 hp (fun r113_22 hp => ?_)
      refine x_iload X dX7_send_116 hl 1 rfl ?_
      refine x_iload X dX7_send_118 hl 2 rfl ?_
      refine lv_iadd hx hb dX7_send_120 ?_
      refine lv_iconst (v := (-1 : Int32)) hx hb dX7_send_121 (by decide) ?_
      obtain ⟨b122_23, e0, hp2⟩ := q_nn_of hp
      clear hp; subst e0; have hp := hp2; clear hp2
      refine q_iast X V dX7_send_122 hp (fun G H locs V hp => ?_)
      refine x_iinc (v := (1 : Int32)) (lst' := [(8, .inl (x8 + (1 : Int32))), (0, .inr (some a0)), (7, .inl x7)]) X dX7_send_123 hl 2 rfl (by decide) (by decide) rfl (fun ls hl => ?_)
      refine lv_goto (tgt := 105) hx hb dX7_send_126 (by decide) ?_
      exact ih _ _ _ _ _ _ V (lx_sub hl [1, 2, 0] rfl) hp
def pX7_send_0 (N a0 : Nat) (G : mm_M) (x1 : Int32) (x2 : Int32) (x3 : Int32) (x4 : Int32) (x5 : Int32) (x6 : Int32) : Option (mm_M × Int32) :=
  q_gI G a0 8 24 fun v1_1 =>
  if v1_1 < (24 : Int32) then
    q_gI G a0 8 24 fun v14_2 =>
    q_gI G a0 8 24 fun v22_3 =>
    q_pI G a0 8 24 (v22_3 + (1 : Int32)) fun G =>
    q_gR G a0 8 25 fun r31_4 =>
    q_nn r31_4 fun b37_5 =>
    q_sI G b37_5 101 ((12 : Int32) * v14_2) x1 fun G =>
    q_gR G a0 8 25 fun r39_6 =>
    q_gR G a0 8 4 fun r47_7 =>
    q_nn r47_7 fun b51_8 =>
    q_aI G b51_8 101 x2 fun v51_9 =>
    q_nn r39_6 fun b52_10 =>
    q_sI G b52_10 101 (((12 : Int32) * v14_2) + (1 : Int32)) v51_9 fun G =>
    q_gR G a0 8 25 fun r54_11 =>
    q_gR G a0 8 4 fun r62_12 =>
    q_nn r62_12 fun b66_13 =>
    q_aI G b66_13 101 x3 fun v66_14 =>
    q_nn r54_11 fun b67_15 =>
    q_sI G b67_15 101 (((12 : Int32) * v14_2) + (2 : Int32)) v66_14 fun G =>
    q_gR G a0 8 25 fun r69_16 =>
    q_nn r69_16 fun b78_17 =>
    q_sI G b78_17 101 (((12 : Int32) * v14_2) + (3 : Int32)) x4 fun G =>
    q_gR G a0 8 25 fun r80_18 =>
    q_nn r80_18 fun b89_19 =>
    q_sI G b89_19 101 (((12 : Int32) * v14_2) + (4 : Int32)) x5 fun G =>
    q_gR G a0 8 25 fun r91_20 =>
    q_nn r91_20 fun b100_21 =>
    q_sI G b100_21 101 (((12 : Int32) * v14_2) + (5 : Int32)) x6 fun G =>
    pX7_send_105 N a0 (fun (G : mm_M) (x7 : Int32) =>
      some (G, x7)) N G ((12 : Int32) * v14_2) (6 : Int32)
  else
    some (G, (-1 : Int32))
set_option maxRecDepth 100000 in
set_option maxHeartbeats 4000000 in
theorem bX7_send_0 {p : Program} {l : Launch} {e : Env} {s : State} {m : MethodId} {args : Array Value} {below : List Frame} {meth : Method} {c : Code} {E : mm_E} {N a0 : Nat} {res : mm_M × Int32} (X : mm_X p s m args meth c prog_9_method_16_code 9 "XorOverlayModel" tw_T E) (hr : meth.sig.returnType = (Option.some .int)) {G : mm_M} {H : Heap} {locs : List Loc} {ls : Array Slot} {x1 : Int32} {x2 : Int32} {x3 : Int32} {x4 : Int32} {x5 : Int32} {x6 : Int32} (V : mm_V E s G H locs) (hl : lx_has ls 9 [(0, .inr (some a0)), (1, .inl x1), (2, .inl x2), (3, .inl x3), (4, .inl x4), (5, .inl x5), (6, .inl x6)]) (hp : pX7_send_0 N a0 G x1 x2 x3 x4 x5 x6 = some res) : W p l e rX7_send s m args below meth c H locs 0 0 (MQ below (mm_Qi E res.1 res.2) args s 0 0 (mm_A E)) (F0 m 0 ls []) := by
  have hx := X.1.1
  have hb := X.1.2.1
  unfold pX7_send_0 at hp
  refine x_aload_n X dX7_send_0 hl 0 rfl rfl ?_
  refine q_getI (ci := 7) X V inX7 rfl (by decide) rfl 24 (by decide) rfl (tw_3 53 rfl rfl) rfl dX7_send_1 hp (fun v1_1 hp => ?_)
  refine lv_bipush (v := (24 : Int32)) hx hb dX7_send_4 (by decide) ?_
  refine q_if hp (lv_icmp_lt (tgt := 11) hx hb dX7_send_6 (by decide)) (fun hp => ?_) (fun hp => ?_)
  · refine lv_bipush (v := (12 : Int32)) hx hb dX7_send_11 (by decide) ?_
    refine x_aload_n X dX7_send_13 hl 0 rfl rfl ?_
    refine q_getI (ci := 7) X V inX7 rfl (by decide) rfl 24 (by decide) rfl (tw_3 53 rfl rfl) rfl dX7_send_14 hp (fun v14_2 hp => ?_)
    refine lv_imul hx hb dX7_send_17 ?_
    refine x_istore (lst' := [(7, .inl ((12 : Int32) * v14_2)), (0, .inr (some a0)), (1, .inl x1), (2, .inl x2), (3, .inl x3), (4, .inl x4), (5, .inl x5), (6, .inl x6)]) X dX7_send_18 hl (by decide) rfl (fun ls hl => ?_)
    refine x_aload_n X dX7_send_20 hl 1 rfl rfl ?_
    refine lv_dup hx hb dX7_send_21 (va_rf_cat _) ?_
    refine q_getI (ci := 7) X V inX7 rfl (by decide) rfl 24 (by decide) rfl (tw_3 53 rfl rfl) rfl dX7_send_22 hp (fun v22_3 hp => ?_)
    refine lv_iconst (v := (1 : Int32)) hx hb dX7_send_25 (by decide) ?_
    refine lv_iadd hx hb dX7_send_26 ?_
    refine q_putI (ci := 7) X V inX7 rfl tyX7 tyX7_ok nmX7 (by decide) rfl 24 (by decide) rfl (tw_3 53 rfl rfl) rfl (Or.inl rfl) .int rfl rfl rfl dX7_send_27 hp (fun G H locs V hp => ?_)
    refine x_aload_n X dX7_send_30 hl 1 rfl rfl ?_
    refine q_getR (ci := 7) X V inX7 rfl (by decide) rfl 25 (by decide) rfl (tw_3 54 rfl rfl) rfl dX7_send_31 hp (fun r31_4 hp => ?_)
    refine x_iload X dX7_send_34 hl 0 rfl ?_
    refine x_iload_n X dX7_send_36 hl 2 rfl rfl ?_
    obtain ⟨b37_5, e0, hp2⟩ := q_nn_of hp
    clear hp; subst e0; have hp := hp2; clear hp2
    refine q_iast X V dX7_send_37 hp (fun G H locs V hp => ?_)
    refine x_aload_n X dX7_send_38 hl 1 rfl rfl ?_
    refine q_getR (ci := 7) X V inX7 rfl (by decide) rfl 25 (by decide) rfl (tw_3 54 rfl rfl) rfl dX7_send_39 hp (fun r39_6 hp => ?_)
    refine x_iload X dX7_send_42 hl 0 rfl ?_
    refine lv_iconst (v := (1 : Int32)) hx hb dX7_send_44 (by decide) ?_
    refine lv_iadd hx hb dX7_send_45 ?_
    refine x_aload_n X dX7_send_46 hl 1 rfl rfl ?_
    refine q_getR (ci := 7) X V inX7 rfl (by decide) rfl 4 (by decide) rfl (tw_3 33 rfl rfl) rfl dX7_send_47 hp (fun r47_7 hp => ?_)
    refine x_iload_n X dX7_send_50 hl 3 rfl rfl ?_
    obtain ⟨b51_8, e0, hp2⟩ := q_nn_of hp
    clear hp; subst e0; have hp := hp2; clear hp2
    refine q_iald X V dX7_send_51 hp (fun v51_9 hp => ?_)
    obtain ⟨b52_10, e0, hp2⟩ := q_nn_of hp
    clear hp; subst e0; have hp := hp2; clear hp2
    refine q_iast X V dX7_send_52 hp (fun G H locs V hp => ?_)
    refine x_aload_n X dX7_send_53 hl 1 rfl rfl ?_
    refine q_getR (ci := 7) X V inX7 rfl (by decide) rfl 25 (by decide) rfl (tw_3 54 rfl rfl) rfl dX7_send_54 hp (fun r54_11 hp => ?_)
    refine x_iload X dX7_send_57 hl 0 rfl ?_
    refine lv_iconst (v := (2 : Int32)) hx hb dX7_send_59 (by decide) ?_
    refine lv_iadd hx hb dX7_send_60 ?_
    refine x_aload_n X dX7_send_61 hl 1 rfl rfl ?_
    refine q_getR (ci := 7) X V inX7 rfl (by decide) rfl 4 (by decide) rfl (tw_3 33 rfl rfl) rfl dX7_send_62 hp (fun r62_12 hp => ?_)
    refine x_iload_n X dX7_send_65 hl 4 rfl rfl ?_
    obtain ⟨b66_13, e0, hp2⟩ := q_nn_of hp
    clear hp; subst e0; have hp := hp2; clear hp2
    refine q_iald X V dX7_send_66 hp (fun v66_14 hp => ?_)
    obtain ⟨b67_15, e0, hp2⟩ := q_nn_of hp
    clear hp; subst e0; have hp := hp2; clear hp2
    refine q_iast X V dX7_send_67 hp (fun G H locs V hp => ?_)
    refine x_aload_n X dX7_send_68 hl 1 rfl rfl ?_
    refine q_getR (ci := 7) X V inX7 rfl (by decide) rfl 25 (by decide) rfl (tw_3 54 rfl rfl) rfl dX7_send_69 hp (fun r69_16 hp => ?_)
    refine x_iload X dX7_send_72 hl 0 rfl ?_
    refine lv_iconst (v := (3 : Int32)) hx hb dX7_send_74 (by decide) ?_
    refine lv_iadd hx hb dX7_send_75 ?_
    refine x_iload X dX7_send_76 hl 5 rfl ?_
    obtain ⟨b78_17, e0, hp2⟩ := q_nn_of hp
    clear hp; subst e0; have hp := hp2; clear hp2
    refine q_iast X V dX7_send_78 hp (fun G H locs V hp => ?_)
    refine x_aload_n X dX7_send_79 hl 1 rfl rfl ?_
    refine q_getR (ci := 7) X V inX7 rfl (by decide) rfl 25 (by decide) rfl (tw_3 54 rfl rfl) rfl dX7_send_80 hp (fun r80_18 hp => ?_)
    refine x_iload X dX7_send_83 hl 0 rfl ?_
    refine lv_iconst (v := (4 : Int32)) hx hb dX7_send_85 (by decide) ?_
    refine lv_iadd hx hb dX7_send_86 ?_
    refine x_iload X dX7_send_87 hl 6 rfl ?_
    obtain ⟨b89_19, e0, hp2⟩ := q_nn_of hp
    clear hp; subst e0; have hp := hp2; clear hp2
    refine q_iast X V dX7_send_89 hp (fun G H locs V hp => ?_)
    refine x_aload_n X dX7_send_90 hl 1 rfl rfl ?_
    refine q_getR (ci := 7) X V inX7 rfl (by decide) rfl 25 (by decide) rfl (tw_3 54 rfl rfl) rfl dX7_send_91 hp (fun r91_20 hp => ?_)
    refine x_iload X dX7_send_94 hl 0 rfl ?_
    refine lv_iconst (v := (5 : Int32)) hx hb dX7_send_96 (by decide) ?_
    refine lv_iadd hx hb dX7_send_97 ?_
    refine x_iload X dX7_send_98 hl 7 rfl ?_
    obtain ⟨b100_21, e0, hp2⟩ := q_nn_of hp
    clear hp; subst e0; have hp := hp2; clear hp2
    refine q_iast X V dX7_send_100 hp (fun G H locs V hp => ?_)
    refine lv_bipush (v := (6 : Int32)) hx hb dX7_send_101 (by decide) ?_
    refine x_istore (lst' := [(8, .inl (6 : Int32)), (7, .inl ((12 : Int32) * v14_2)), (0, .inr (some a0)), (1, .inl x1), (2, .inl x2), (3, .inl x3), (4, .inl x4), (5, .inl x5), (6, .inl x6)]) X dX7_send_103 hl (by decide) rfl (fun ls hl => ?_)
    refine bX7_send_105 X hr (fun G H locs ls x7 V hl hp => ?_) _ _ _ _ _ _ _ V (lx_sub hl [2, 1, 0] rfl) hp
    refine x_iload X dX7_send_129 hl 1 rfl ?_
    exact q_iret X V hr ⟨by decide, by decide⟩ dX7_send_131 hp
  · refine lv_iconst (v := (-1 : Int32)) hx hb dX7_send_9 (by decide) ?_
    exact q_iret X V hr ⟨by decide, by decide⟩ dX7_send_10 hp
theorem cX7_send (l : Launch) (E : mm_E) {N a0 : Nat} {G : mm_M} {x1 : Int32} {x2 : Int32} {x3 : Int32} {x4 : Int32} {x5 : Int32} {x6 : Int32} {res : mm_M × Int32} (hp : pX7_send_0 N a0 G x1 x2 x3 x4 x5 x6 = some res) : Met l yX7_send (Cond.code yX7_send prog_9_method_16_code 9 (Option.some .int) :: tw_T) rX7_send (mm_Pc E G [.ref a0, .int x1, .int x2, .int x3, .int x4, .int x5, .int x6]) (mm_Qi E res.1 res.2) 0 0 (mm_A E) :=
  mm_met (own := "XorOverlayModel") E G [.inr (some a0), .inl x1, .inl x2, .inl x3, .inl x4, .inl x5, .inl x6] (by decide) rfl rfl (Nat.le_of_ble_eq_true rfl) (fun p e s m args below meth c ls X hr hi V hl => bX7_send_0 X hr V hl hp)
abbrev yX7_takeOut : MethodName := ⟨"XorOverlayModel", "takeOut", "(I)V"⟩
abbrev rX7_takeOut : Room := { frames := 0, cells := 0, slots := 0, locals := 0 }
theorem kX7_takeOut : Cond.code yX7_takeOut prog_9_method_17_code 3 none ∈ tw_T ∧ Cond.instanceMethod yX7_takeOut ∈ tw_T ∧ Cond.selects "XorOverlayModel" yX7_takeOut yX7_takeOut ∈ tw_T ∧ Cond.initialized "XorOverlayModel" ∈ tw_T := ⟨(tw_3 231 rfl rfl), (tw_3 230 rfl rfl), (tw_s 41 rfl rfl), (tw_1 3 rfl rfl)⟩
theorem hX7_takeOut : yX7_takeOut.cls = "XorOverlayModel" ∧ yX7_takeOut.cls ≠ "java/lang/invoke/MethodHandle" ∧ yX7_takeOut.cls ≠ "java/lang/invoke/VarHandle" ∧ (parseMethodDescriptor yX7_takeOut.desc).map (fun d => d.parameters.length) = some 1 := by decide +kernel
theorem dX7_takeOut_0 : decode prog_9_method_17_code 0 = .ok (.iconst 0, 1) := by decide +kernel
theorem dX7_takeOut_1 : decode prog_9_method_17_code 1 = .ok (.istore_n 2, 1) := by decide +kernel
theorem dX7_takeOut_2 : decode prog_9_method_17_code 2 = .ok (.iload_n 2, 1) := by decide +kernel
theorem dX7_takeOut_3 : decode prog_9_method_17_code 3 = .ok (.bipush 12, 2) := by decide +kernel
theorem dX7_takeOut_5 : decode prog_9_method_17_code 5 = .ok (.if_icmp .ge 26, 3) := by decide +kernel
theorem dX7_takeOut_8 : decode prog_9_method_17_code 8 = .ok (.aload_n 0, 1) := by decide +kernel
theorem dX7_takeOut_9 : decode prog_9_method_17_code 9 = .ok (.getfield 74, 3) := by decide +kernel
theorem dX7_takeOut_12 : decode prog_9_method_17_code 12 = .ok (.iload_n 2, 1) := by decide +kernel
theorem dX7_takeOut_13 : decode prog_9_method_17_code 13 = .ok (.aload_n 0, 1) := by decide +kernel
theorem dX7_takeOut_14 : decode prog_9_method_17_code 14 = .ok (.getfield 71, 3) := by decide +kernel
theorem dX7_takeOut_17 : decode prog_9_method_17_code 17 = .ok (.bipush 12, 2) := by decide +kernel
theorem dX7_takeOut_19 : decode prog_9_method_17_code 19 = .ok (.iload_n 1, 1) := by decide +kernel
theorem dX7_takeOut_20 : decode prog_9_method_17_code 20 = .ok (.imul, 1) := by decide +kernel
theorem dX7_takeOut_21 : decode prog_9_method_17_code 21 = .ok (.iload_n 2, 1) := by decide +kernel
theorem dX7_takeOut_22 : decode prog_9_method_17_code 22 = .ok (.iadd, 1) := by decide +kernel
theorem dX7_takeOut_23 : decode prog_9_method_17_code 23 = .ok (.iaload, 1) := by decide +kernel
theorem dX7_takeOut_24 : decode prog_9_method_17_code 24 = .ok (.iastore, 1) := by decide +kernel
theorem dX7_takeOut_25 : decode prog_9_method_17_code 25 = .ok (.iinc 2 1, 3) := by decide +kernel
theorem dX7_takeOut_28 : decode prog_9_method_17_code 28 = .ok (.goto (-26), 3) := by decide +kernel
theorem dX7_takeOut_31 : decode prog_9_method_17_code 31 = .ok (.aload_n 0, 1) := by decide +kernel
theorem dX7_takeOut_32 : decode prog_9_method_17_code 32 = .ok (.dup, 1) := by decide +kernel
theorem dX7_takeOut_33 : decode prog_9_method_17_code 33 = .ok (.getfield 115, 3) := by decide +kernel
theorem dX7_takeOut_36 : decode prog_9_method_17_code 36 = .ok (.iconst 1, 1) := by decide +kernel
theorem dX7_takeOut_37 : decode prog_9_method_17_code 37 = .ok (.isub, 1) := by decide +kernel
theorem dX7_takeOut_38 : decode prog_9_method_17_code 38 = .ok (.putfield 115, 3) := by decide +kernel
theorem dX7_takeOut_41 : decode prog_9_method_17_code 41 = .ok (.bipush 12, 2) := by decide +kernel
theorem dX7_takeOut_43 : decode prog_9_method_17_code 43 = .ok (.iload_n 1, 1) := by decide +kernel
theorem dX7_takeOut_44 : decode prog_9_method_17_code 44 = .ok (.imul, 1) := by decide +kernel
theorem dX7_takeOut_45 : decode prog_9_method_17_code 45 = .ok (.istore_n 2, 1) := by decide +kernel
theorem dX7_takeOut_46 : decode prog_9_method_17_code 46 = .ok (.iload_n 2, 1) := by decide +kernel
theorem dX7_takeOut_47 : decode prog_9_method_17_code 47 = .ok (.bipush 12, 2) := by decide +kernel
theorem dX7_takeOut_49 : decode prog_9_method_17_code 49 = .ok (.aload_n 0, 1) := by decide +kernel
theorem dX7_takeOut_50 : decode prog_9_method_17_code 50 = .ok (.getfield 115, 3) := by decide +kernel
theorem dX7_takeOut_53 : decode prog_9_method_17_code 53 = .ok (.imul, 1) := by decide +kernel
theorem dX7_takeOut_54 : decode prog_9_method_17_code 54 = .ok (.if_icmp .ge 24, 3) := by decide +kernel
theorem dX7_takeOut_57 : decode prog_9_method_17_code 57 = .ok (.aload_n 0, 1) := by decide +kernel
theorem dX7_takeOut_58 : decode prog_9_method_17_code 58 = .ok (.getfield 71, 3) := by decide +kernel
theorem dX7_takeOut_61 : decode prog_9_method_17_code 61 = .ok (.iload_n 2, 1) := by decide +kernel
theorem dX7_takeOut_62 : decode prog_9_method_17_code 62 = .ok (.aload_n 0, 1) := by decide +kernel
theorem dX7_takeOut_63 : decode prog_9_method_17_code 63 = .ok (.getfield 71, 3) := by decide +kernel
theorem dX7_takeOut_66 : decode prog_9_method_17_code 66 = .ok (.iload_n 2, 1) := by decide +kernel
theorem dX7_takeOut_67 : decode prog_9_method_17_code 67 = .ok (.bipush 12, 2) := by decide +kernel
theorem dX7_takeOut_69 : decode prog_9_method_17_code 69 = .ok (.iadd, 1) := by decide +kernel
theorem dX7_takeOut_70 : decode prog_9_method_17_code 70 = .ok (.iaload, 1) := by decide +kernel
theorem dX7_takeOut_71 : decode prog_9_method_17_code 71 = .ok (.iastore, 1) := by decide +kernel
theorem dX7_takeOut_72 : decode prog_9_method_17_code 72 = .ok (.iinc 2 1, 3) := by decide +kernel
theorem dX7_takeOut_75 : decode prog_9_method_17_code 75 = .ok (.goto (-29), 3) := by decide +kernel
theorem dX7_takeOut_78 : decode prog_9_method_17_code 78 = .ok (.return_, 1) := by decide +kernel
def pX7_takeOut_2_b (N a0 : Nat) (kb : mm_M → Int32 → Int32 → Option (mm_M × Unit)) (kx : mm_M → Int32 → Option (mm_M × Unit)) (G : mm_M) (x1 : Int32) (x2 : Int32) : Option (mm_M × Unit) :=
  if (12 : Int32) ≤ x2 then
    kx G x1
  else
    q_gR G a0 8 26 fun r9_1 =>
    q_gR G a0 8 25 fun r14_2 =>
    q_nn r14_2 fun b23_3 =>
    q_aI G b23_3 101 (((12 : Int32) * x1) + x2) fun v23_4 =>
    q_nn r9_1 fun b24_5 =>
    q_sI G b24_5 101 x2 v23_4 fun G =>
    kb G x1 (x2 + (1 : Int32))
def pX7_takeOut_2 (N a0 : Nat) (kx : mm_M → Int32 → Option (mm_M × Unit)) : Nat → mm_M → Int32 → Int32 → Option (mm_M × Unit)
  | 0 => fun _ _ _ => none
  | n + 1 => pX7_takeOut_2_b N a0 (pX7_takeOut_2 N a0 kx n) kx
set_option maxRecDepth 100000 in
set_option maxHeartbeats 4000000 in
theorem bX7_takeOut_2 {p : Program} {l : Launch} {e : Env} {s : State} {m : MethodId} {args : Array Value} {below : List Frame} {meth : Method} {c : Code} {E : mm_E} {N a0 : Nat} {res : mm_M × Unit} (X : mm_X p s m args meth c prog_9_method_17_code 3 "XorOverlayModel" tw_T E) (hr : meth.sig.returnType = none) {kx : mm_M → Int32 → Option (mm_M × Unit)} (hkx : ∀ (G : mm_M) (H : Heap) (locs : List Loc) (ls : Array Slot) (x1 : Int32), mm_V E s G H locs → lx_has ls 3 [(0, .inr (some a0)), (1, .inl x1)] → kx G x1 = some res → W p l e rX7_takeOut s m args below meth c H locs 0 0 (MQ below (mm_Qv E res.1) args s 0 0 (mm_A E)) (F0 m 31 ls [])) :
    ∀ (n : Nat) (G : mm_M) (H : Heap) (locs : List Loc) (ls : Array Slot) (x1 : Int32) (x2 : Int32), mm_V E s G H locs → lx_has ls 3 [(0, .inr (some a0)), (1, .inl x1), (2, .inl x2)] → pX7_takeOut_2 N a0 kx n G x1 x2 = some res → W p l e rX7_takeOut s m args below meth c H locs 0 0 (MQ below (mm_Qv E res.1) args s 0 0 (mm_A E)) (F0 m 2 ls []) := by
  have hx := X.1.1
  have hb := X.1.2.1
  intro n
  induction n with
  | zero =>
    intro G H locs ls x1 x2 V hl hp
    cases hp
  | succ n ih =>
    intro G H locs ls x1 x2 V hl hp
    have hp : pX7_takeOut_2_b N a0 (pX7_takeOut_2 N a0 kx n) kx G x1 x2 = some res := hp
    unfold pX7_takeOut_2_b at hp
    refine x_iload_n X dX7_takeOut_2 hl 2 rfl rfl ?_
    refine lv_bipush (v := (12 : Int32)) hx hb dX7_takeOut_3 (by decide) ?_
    refine q_if hp (lv_icmp_ge (tgt := 31) hx hb dX7_takeOut_5 (by decide)) (fun hp => ?_) (fun hp => ?_)
    · exact hkx _ _ _ _ _ V (lx_sub hl [0, 1] rfl) hp
    · refine x_aload_n X dX7_takeOut_8 hl 0 rfl rfl ?_
      refine q_getR (ci := 7) X V inX7 rfl (by decide) rfl 26 (by decide) rfl (tw_3 55 rfl rfl) rfl dX7_takeOut_9 hp (fun r9_1 hp => ?_)
      refine x_iload_n X dX7_takeOut_12 hl 2 rfl rfl ?_
      refine x_aload_n X dX7_takeOut_13 hl 0 rfl rfl ?_
      refine q_getR (ci := 7) X V inX7 rfl (by decide) rfl 25 (by decide) rfl (tw_3 54 rfl rfl) rfl dX7_takeOut_14 hp (fun r14_2 hp => ?_)
      refine lv_bipush (v := (12 : Int32)) hx hb dX7_takeOut_17 (by decide) ?_
      refine x_iload_n X dX7_takeOut_19 hl 1 rfl rfl ?_
      refine lv_imul hx hb dX7_takeOut_20 ?_
      refine x_iload_n X dX7_takeOut_21 hl 2 rfl rfl ?_
      refine lv_iadd hx hb dX7_takeOut_22 ?_
      obtain ⟨b23_3, e0, hp2⟩ := q_nn_of hp
      clear hp; subst e0; have hp := hp2; clear hp2
      refine q_iald X V dX7_takeOut_23 hp (fun v23_4 hp => ?_)
      obtain ⟨b24_5, e0, hp2⟩ := q_nn_of hp
      clear hp; subst e0; have hp := hp2; clear hp2
      refine q_iast X V dX7_takeOut_24 hp (fun G H locs V hp => ?_)
      refine x_iinc (v := (1 : Int32)) (lst' := [(2, .inl (x2 + (1 : Int32))), (0, .inr (some a0)), (1, .inl x1)]) X dX7_takeOut_25 hl 2 rfl (by decide) (by decide) rfl (fun ls hl => ?_)
      refine lv_goto (tgt := 2) hx hb dX7_takeOut_28 (by decide) ?_
      exact ih _ _ _ _ _ _ V (lx_sub hl [1, 2, 0] rfl) hp
def pX7_takeOut_46_b (N a0 : Nat) (kb : mm_M → Int32 → Option (mm_M × Unit)) (kx : mm_M → Option (mm_M × Unit)) (G : mm_M) (x2 : Int32) : Option (mm_M × Unit) :=
  q_gI G a0 8 24 fun v50_7 =>
  if ((12 : Int32) * v50_7) ≤ x2 then
    kx G
  else
    q_gR G a0 8 25 fun r58_8 =>
    q_gR G a0 8 25 fun r63_9 =>
    q_nn r63_9 fun b70_10 =>
    q_aI G b70_10 101 (x2 + (12 : Int32)) fun v70_11 =>
    q_nn r58_8 fun b71_12 =>
    q_sI G b71_12 101 x2 v70_11 fun G =>
    kb G (x2 + (1 : Int32))
def pX7_takeOut_46 (N a0 : Nat) (kx : mm_M → Option (mm_M × Unit)) : Nat → mm_M → Int32 → Option (mm_M × Unit)
  | 0 => fun _ _ => none
  | n + 1 => pX7_takeOut_46_b N a0 (pX7_takeOut_46 N a0 kx n) kx
set_option maxRecDepth 100000 in
set_option maxHeartbeats 4000000 in
theorem bX7_takeOut_46 {p : Program} {l : Launch} {e : Env} {s : State} {m : MethodId} {args : Array Value} {below : List Frame} {meth : Method} {c : Code} {E : mm_E} {N a0 : Nat} {res : mm_M × Unit} (X : mm_X p s m args meth c prog_9_method_17_code 3 "XorOverlayModel" tw_T E) (hr : meth.sig.returnType = none) {kx : mm_M → Option (mm_M × Unit)} (hkx : ∀ (G : mm_M) (H : Heap) (locs : List Loc) (ls : Array Slot), mm_V E s G H locs → lx_has ls 3 [(0, .inr (some a0))] → kx G = some res → W p l e rX7_takeOut s m args below meth c H locs 0 0 (MQ below (mm_Qv E res.1) args s 0 0 (mm_A E)) (F0 m 78 ls [])) :
    ∀ (n : Nat) (G : mm_M) (H : Heap) (locs : List Loc) (ls : Array Slot) (x2 : Int32), mm_V E s G H locs → lx_has ls 3 [(0, .inr (some a0)), (2, .inl x2)] → pX7_takeOut_46 N a0 kx n G x2 = some res → W p l e rX7_takeOut s m args below meth c H locs 0 0 (MQ below (mm_Qv E res.1) args s 0 0 (mm_A E)) (F0 m 46 ls []) := by
  have hx := X.1.1
  have hb := X.1.2.1
  intro n
  induction n with
  | zero =>
    intro G H locs ls x2 V hl hp
    cases hp
  | succ n ih =>
    intro G H locs ls x2 V hl hp
    have hp : pX7_takeOut_46_b N a0 (pX7_takeOut_46 N a0 kx n) kx G x2 = some res := hp
    unfold pX7_takeOut_46_b at hp
    refine x_iload_n X dX7_takeOut_46 hl 1 rfl rfl ?_
    refine lv_bipush (v := (12 : Int32)) hx hb dX7_takeOut_47 (by decide) ?_
    refine x_aload_n X dX7_takeOut_49 hl 0 rfl rfl ?_
    refine q_getI (ci := 7) X V inX7 rfl (by decide) rfl 24 (by decide) rfl (tw_3 53 rfl rfl) rfl dX7_takeOut_50 hp (fun v50_7 hp => ?_)
    refine lv_imul hx hb dX7_takeOut_53 ?_
    refine q_if hp (lv_icmp_ge (tgt := 78) hx hb dX7_takeOut_54 (by decide)) (fun hp => ?_) (fun hp => ?_)
    · exact hkx _ _ _ _ V (lx_sub hl [0] rfl) hp
    · refine x_aload_n X dX7_takeOut_57 hl 0 rfl rfl ?_
      refine q_getR (ci := 7) X V inX7 rfl (by decide) rfl 25 (by decide) rfl (tw_3 54 rfl rfl) rfl dX7_takeOut_58 hp (fun r58_8 hp => ?_)
      refine x_iload_n X dX7_takeOut_61 hl 1 rfl rfl ?_
      refine x_aload_n X dX7_takeOut_62 hl 0 rfl rfl ?_
      refine q_getR (ci := 7) X V inX7 rfl (by decide) rfl 25 (by decide) rfl (tw_3 54 rfl rfl) rfl dX7_takeOut_63 hp (fun r63_9 hp => ?_)
      refine x_iload_n X dX7_takeOut_66 hl 1 rfl rfl ?_
      refine lv_bipush (v := (12 : Int32)) hx hb dX7_takeOut_67 (by decide) ?_
      refine lv_iadd hx hb dX7_takeOut_69 ?_
      obtain ⟨b70_10, e0, hp2⟩ := q_nn_of hp
      clear hp; subst e0; have hp := hp2; clear hp2
      refine q_iald X V dX7_takeOut_70 hp (fun v70_11 hp => ?_)
      obtain ⟨b71_12, e0, hp2⟩ := q_nn_of hp
      clear hp; subst e0; have hp := hp2; clear hp2
      refine q_iast X V dX7_takeOut_71 hp (fun G H locs V hp => ?_)
      refine x_iinc (v := (1 : Int32)) (lst' := [(2, .inl (x2 + (1 : Int32))), (0, .inr (some a0))]) X dX7_takeOut_72 hl 1 rfl (by decide) (by decide) rfl (fun ls hl => ?_)
      refine lv_goto (tgt := 46) hx hb dX7_takeOut_75 (by decide) ?_
      exact ih _ _ _ _ _ V (lx_sub hl [1, 0] rfl) hp
def pX7_takeOut_0 (N a0 : Nat) (G : mm_M) (x1 : Int32) : Option (mm_M × Unit) :=
  pX7_takeOut_2 N a0 (fun (G : mm_M) (x1 : Int32) =>
    q_gI G a0 8 24 fun v33_6 =>
    q_pI G a0 8 24 (v33_6 - (1 : Int32)) fun G =>
    pX7_takeOut_46 N a0 (fun (G : mm_M) =>
      some (G, ())) N G ((12 : Int32) * x1)) N G x1 (0 : Int32)
set_option maxRecDepth 100000 in
set_option maxHeartbeats 4000000 in
theorem bX7_takeOut_0 {p : Program} {l : Launch} {e : Env} {s : State} {m : MethodId} {args : Array Value} {below : List Frame} {meth : Method} {c : Code} {E : mm_E} {N a0 : Nat} {res : mm_M × Unit} (X : mm_X p s m args meth c prog_9_method_17_code 3 "XorOverlayModel" tw_T E) (hr : meth.sig.returnType = none) {G : mm_M} {H : Heap} {locs : List Loc} {ls : Array Slot} {x1 : Int32} (V : mm_V E s G H locs) (hl : lx_has ls 3 [(0, .inr (some a0)), (1, .inl x1)]) (hp : pX7_takeOut_0 N a0 G x1 = some res) : W p l e rX7_takeOut s m args below meth c H locs 0 0 (MQ below (mm_Qv E res.1) args s 0 0 (mm_A E)) (F0 m 0 ls []) := by
  have hx := X.1.1
  have hb := X.1.2.1
  unfold pX7_takeOut_0 at hp
  refine lv_iconst (v := (0 : Int32)) hx hb dX7_takeOut_0 (by decide) ?_
  refine x_istore_n (lst' := [(2, .inl (0 : Int32)), (0, .inr (some a0)), (1, .inl x1)]) X dX7_takeOut_1 hl rfl (by decide) rfl (fun ls hl => ?_)
  refine bX7_takeOut_2 X hr (fun G H locs ls x1 V hl hp => ?_) _ _ _ _ _ _ _ V (lx_sub hl [1, 2, 0] rfl) hp
  refine x_aload_n X dX7_takeOut_31 hl 0 rfl rfl ?_
  refine lv_dup hx hb dX7_takeOut_32 (va_rf_cat _) ?_
  refine q_getI (ci := 7) X V inX7 rfl (by decide) rfl 24 (by decide) rfl (tw_3 53 rfl rfl) rfl dX7_takeOut_33 hp (fun v33_6 hp => ?_)
  refine lv_iconst (v := (1 : Int32)) hx hb dX7_takeOut_36 (by decide) ?_
  refine lv_isub hx hb dX7_takeOut_37 ?_
  refine q_putI (ci := 7) X V inX7 rfl tyX7 tyX7_ok nmX7 (by decide) rfl 24 (by decide) rfl (tw_3 53 rfl rfl) rfl (Or.inl rfl) .int rfl rfl rfl dX7_takeOut_38 hp (fun G H locs V hp => ?_)
  refine lv_bipush (v := (12 : Int32)) hx hb dX7_takeOut_41 (by decide) ?_
  refine x_iload_n X dX7_takeOut_43 hl 1 rfl rfl ?_
  refine lv_imul hx hb dX7_takeOut_44 ?_
  refine x_istore_n (lst' := [(2, .inl ((12 : Int32) * x1)), (0, .inr (some a0)), (1, .inl x1)]) X dX7_takeOut_45 hl rfl (by decide) rfl (fun ls hl => ?_)
  refine bX7_takeOut_46 X hr (fun G H locs ls V hl hp => ?_) _ _ _ _ _ _ V (lx_sub hl [1, 0] rfl) hp
  exact q_vret X V hr ⟨by decide, by decide⟩ dX7_takeOut_78 hp
theorem cX7_takeOut (l : Launch) (E : mm_E) {N a0 : Nat} {G : mm_M} {x1 : Int32} {res : mm_M × Unit} (hp : pX7_takeOut_0 N a0 G x1 = some res) : Met l yX7_takeOut (Cond.code yX7_takeOut prog_9_method_17_code 3 none :: tw_T) rX7_takeOut (mm_Pc E G [.ref a0, .int x1]) (mm_Qv E res.1) 0 0 (mm_A E) :=
  mm_met (own := "XorOverlayModel") E G [.inr (some a0), .inl x1] (by decide) rfl rfl (Nat.le_of_ble_eq_true rfl) (fun p e s m args below meth c ls X hr hi V hl => bX7_takeOut_0 X hr V hl hp)
abbrev yX7_inLine : MethodName := ⟨"XorOverlayModel", "inLine", "(I)Z"⟩
abbrev rX7_inLine : Room := { frames := 0, cells := 0, slots := 0, locals := 0 }
theorem kX7_inLine : Cond.code yX7_inLine prog_9_method_18_code 2 (Option.some .boolean) ∈ tw_T ∧ Cond.instanceMethod yX7_inLine ∈ tw_T ∧ Cond.selects "XorOverlayModel" yX7_inLine yX7_inLine ∈ tw_T ∧ Cond.initialized "XorOverlayModel" ∈ tw_T := ⟨(tw_3 227 rfl rfl), (tw_3 226 rfl rfl), (tw_s 40 rfl rfl), (tw_1 3 rfl rfl)⟩
theorem hX7_inLine : yX7_inLine.cls = "XorOverlayModel" ∧ yX7_inLine.cls ≠ "java/lang/invoke/MethodHandle" ∧ yX7_inLine.cls ≠ "java/lang/invoke/VarHandle" ∧ (parseMethodDescriptor yX7_inLine.desc).map (fun d => d.parameters.length) = some 1 := by decide +kernel
theorem dX7_inLine_0 : decode prog_9_method_18_code 0 = .ok (.iload_n 1, 1) := by decide +kernel
theorem dX7_inLine_1 : decode prog_9_method_18_code 1 = .ok (.ifCond .lt 15, 3) := by decide +kernel
theorem dX7_inLine_4 : decode prog_9_method_18_code 4 = .ok (.iload_n 1, 1) := by decide +kernel
theorem dX7_inLine_5 : decode prog_9_method_18_code 5 = .ok (.aload_n 0, 1) := by decide +kernel
theorem dX7_inLine_6 : decode prog_9_method_18_code 6 = .ok (.getfield 115, 3) := by decide +kernel
theorem dX7_inLine_9 : decode prog_9_method_18_code 9 = .ok (.if_icmp .ge 7, 3) := by decide +kernel
theorem dX7_inLine_12 : decode prog_9_method_18_code 12 = .ok (.iconst 1, 1) := by decide +kernel
theorem dX7_inLine_13 : decode prog_9_method_18_code 13 = .ok (.goto 4, 3) := by decide +kernel
theorem dX7_inLine_16 : decode prog_9_method_18_code 16 = .ok (.iconst 0, 1) := by decide +kernel
theorem dX7_inLine_17 : decode prog_9_method_18_code 17 = .ok (.ireturn, 1) := by decide +kernel
def pX7_inLine_0 (N a0 : Nat) (G : mm_M) (x1 : Int32) : Option (mm_M × Int32) :=
  if x1 < 0 then
    some (G, (0 : Int32))
  else
    q_gI G a0 8 24 fun v6_1 =>
    if v6_1 ≤ x1 then
      some (G, (0 : Int32))
    else
      some (G, (1 : Int32))
set_option maxRecDepth 100000 in
set_option maxHeartbeats 4000000 in
theorem bX7_inLine_0 {p : Program} {l : Launch} {e : Env} {s : State} {m : MethodId} {args : Array Value} {below : List Frame} {meth : Method} {c : Code} {E : mm_E} {N a0 : Nat} {res : mm_M × Int32} (X : mm_X p s m args meth c prog_9_method_18_code 2 "XorOverlayModel" tw_T E) (hr : meth.sig.returnType = (Option.some .boolean)) {G : mm_M} {H : Heap} {locs : List Loc} {ls : Array Slot} {x1 : Int32} (V : mm_V E s G H locs) (hl : lx_has ls 2 [(0, .inr (some a0)), (1, .inl x1)]) (hp : pX7_inLine_0 N a0 G x1 = some res) : W p l e rX7_inLine s m args below meth c H locs 0 0 (MQ below (mm_Qi E res.1 res.2) args s 0 0 (mm_A E)) (F0 m 0 ls []) := by
  have hx := X.1.1
  have hb := X.1.2.1
  unfold pX7_inLine_0 at hp
  refine x_iload_n X dX7_inLine_0 hl 1 rfl rfl ?_
  refine q_if hp (lv_if_lt (tgt := 16) hx hb dX7_inLine_1 (by decide)) (fun hp => ?_) (fun hp => ?_)
  · refine lv_iconst (v := (0 : Int32)) hx hb dX7_inLine_16 (by decide) ?_
    exact q_zret X V hr rfl ⟨by decide, by decide⟩ dX7_inLine_17 hp
  · refine x_iload_n X dX7_inLine_4 hl 1 rfl rfl ?_
    refine x_aload_n X dX7_inLine_5 hl 0 rfl rfl ?_
    refine q_getI (ci := 7) X V inX7 rfl (by decide) rfl 24 (by decide) rfl (tw_3 53 rfl rfl) rfl dX7_inLine_6 hp (fun v6_1 hp => ?_)
    refine q_if hp (lv_icmp_ge (tgt := 16) hx hb dX7_inLine_9 (by decide)) (fun hp => ?_) (fun hp => ?_)
    · refine lv_iconst (v := (0 : Int32)) hx hb dX7_inLine_16 (by decide) ?_
      exact q_zret X V hr rfl ⟨by decide, by decide⟩ dX7_inLine_17 hp
    · refine lv_iconst (v := (1 : Int32)) hx hb dX7_inLine_12 (by decide) ?_
      refine lv_goto (tgt := 17) hx hb dX7_inLine_13 (by decide) ?_
      exact q_zret X V hr rfl ⟨by decide, by decide⟩ dX7_inLine_17 hp
theorem cX7_inLine (l : Launch) (E : mm_E) {N a0 : Nat} {G : mm_M} {x1 : Int32} {res : mm_M × Int32} (hp : pX7_inLine_0 N a0 G x1 = some res) : Met l yX7_inLine (Cond.code yX7_inLine prog_9_method_18_code 2 (Option.some .boolean) :: tw_T) rX7_inLine (mm_Pc E G [.ref a0, .int x1]) (mm_Qi E res.1 res.2) 0 0 (mm_A E) :=
  mm_met (own := "XorOverlayModel") E G [.inr (some a0), .inl x1] (by decide) rfl rfl (Nat.le_of_ble_eq_true rfl) (fun p e s m args below meth c ls X hr hi V hl => bX7_inLine_0 X hr V hl hp)
abbrev yX7_answer : MethodName := ⟨"XorOverlayModel", "answer", "(II)V"⟩
abbrev rX7_answer : Room := { frames := 1, cells := 0, slots := 0, locals := 28 }
theorem kX7_answer : Cond.code yX7_answer prog_9_method_19_code 7 none ∈ tw_T ∧ Cond.instanceMethod yX7_answer ∈ tw_T ∧ Cond.selects "XorOverlayModel" yX7_answer yX7_answer ∈ tw_T ∧ Cond.initialized "XorOverlayModel" ∈ tw_T := ⟨(tw_3 235 rfl rfl), (tw_3 234 rfl rfl), (tw_s 42 rfl rfl), (tw_1 3 rfl rfl)⟩
theorem hX7_answer : yX7_answer.cls = "XorOverlayModel" ∧ yX7_answer.cls ≠ "java/lang/invoke/MethodHandle" ∧ yX7_answer.cls ≠ "java/lang/invoke/VarHandle" ∧ (parseMethodDescriptor yX7_answer.desc).map (fun d => d.parameters.length) = some 2 := by decide +kernel
theorem dX7_answer_0 : decode prog_9_method_19_code 0 = .ok (.aload_n 0, 1) := by decide +kernel
theorem dX7_answer_1 : decode prog_9_method_19_code 1 = .ok (.iload_n 1, 1) := by decide +kernel
theorem dX7_answer_2 : decode prog_9_method_19_code 2 = .ok (.iload_n 2, 1) := by decide +kernel
theorem dX7_answer_3 : decode prog_9_method_19_code 3 = .ok (.iconst 1, 1) := by decide +kernel
theorem dX7_answer_4 : decode prog_9_method_19_code 4 = .ok (.aload_n 0, 1) := by decide +kernel
theorem dX7_answer_5 : decode prog_9_method_19_code 5 = .ok (.getfield 99, 3) := by decide +kernel
theorem dX7_answer_8 : decode prog_9_method_19_code 8 = .ok (.bipush 8, 2) := by decide +kernel
theorem dX7_answer_10 : decode prog_9_method_19_code 10 = .ok (.idiv, 1) := by decide +kernel
theorem dX7_answer_11 : decode prog_9_method_19_code 11 = .ok (.iadd, 1) := by decide +kernel
theorem dX7_answer_12 : decode prog_9_method_19_code 12 = .ok (.invokevirtual 118, 3) := by decide +kernel
theorem dX7_answer_15 : decode prog_9_method_19_code 15 = .ok (.istore_n 3, 1) := by decide +kernel
theorem dX7_answer_16 : decode prog_9_method_19_code 16 = .ok (.aload_n 0, 1) := by decide +kernel
theorem dX7_answer_17 : decode prog_9_method_19_code 17 = .ok (.iconst 2, 1) := by decide +kernel
theorem dX7_answer_18 : decode prog_9_method_19_code 18 = .ok (.iload_n 1, 1) := by decide +kernel
theorem dX7_answer_19 : decode prog_9_method_19_code 19 = .ok (.iload_n 2, 1) := by decide +kernel
theorem dX7_answer_20 : decode prog_9_method_19_code 20 = .ok (.aload_n 0, 1) := by decide +kernel
theorem dX7_answer_21 : decode prog_9_method_19_code 21 = .ok (.getfield 74, 3) := by decide +kernel
theorem dX7_answer_24 : decode prog_9_method_19_code 24 = .ok (.iconst 3, 1) := by decide +kernel
theorem dX7_answer_25 : decode prog_9_method_19_code 25 = .ok (.iaload, 1) := by decide +kernel
theorem dX7_answer_26 : decode prog_9_method_19_code 26 = .ok (.iconst (-1), 1) := by decide +kernel
theorem dX7_answer_27 : decode prog_9_method_19_code 27 = .ok (.iload_n 3, 1) := by decide +kernel
theorem dX7_answer_28 : decode prog_9_method_19_code 28 = .ok (.invokevirtual 121, 3) := by decide +kernel
theorem dX7_answer_31 : decode prog_9_method_19_code 31 = .ok (.istore 4, 2) := by decide +kernel
theorem dX7_answer_33 : decode prog_9_method_19_code 33 = .ok (.iload 4, 2) := by decide +kernel
theorem dX7_answer_35 : decode prog_9_method_19_code 35 = .ok (.ifCond .ge 4, 3) := by decide +kernel
theorem dX7_answer_38 : decode prog_9_method_19_code 38 = .ok (.return_, 1) := by decide +kernel
theorem dX7_answer_39 : decode prog_9_method_19_code 39 = .ok (.iconst 0, 1) := by decide +kernel
theorem dX7_answer_40 : decode prog_9_method_19_code 40 = .ok (.istore 5, 2) := by decide +kernel
theorem dX7_answer_42 : decode prog_9_method_19_code 42 = .ok (.iload 5, 2) := by decide +kernel
theorem dX7_answer_44 : decode prog_9_method_19_code 44 = .ok (.iconst 3, 1) := by decide +kernel
theorem dX7_answer_45 : decode prog_9_method_19_code 45 = .ok (.if_icmp .ge 54, 3) := by decide +kernel
theorem dX7_answer_48 : decode prog_9_method_19_code 48 = .ok (.aload_n 0, 1) := by decide +kernel
theorem dX7_answer_49 : decode prog_9_method_19_code 49 = .ok (.iload_n 1, 1) := by decide +kernel
theorem dX7_answer_50 : decode prog_9_method_19_code 50 = .ok (.aload_n 0, 1) := by decide +kernel
theorem dX7_answer_51 : decode prog_9_method_19_code 51 = .ok (.getfield 74, 3) := by decide +kernel
theorem dX7_answer_54 : decode prog_9_method_19_code 54 = .ok (.iconst 4, 1) := by decide +kernel
theorem dX7_answer_55 : decode prog_9_method_19_code 55 = .ok (.iaload, 1) := by decide +kernel
theorem dX7_answer_56 : decode prog_9_method_19_code 56 = .ok (.iload 5, 2) := by decide +kernel
theorem dX7_answer_58 : decode prog_9_method_19_code 58 = .ok (.iload_n 2, 1) := by decide +kernel
theorem dX7_answer_59 : decode prog_9_method_19_code 59 = .ok (.invokevirtual 125, 3) := by decide +kernel
theorem dX7_answer_62 : decode prog_9_method_19_code 62 = .ok (.istore 6, 2) := by decide +kernel
theorem dX7_answer_64 : decode prog_9_method_19_code 64 = .ok (.aload_n 0, 1) := by decide +kernel
theorem dX7_answer_65 : decode prog_9_method_19_code 65 = .ok (.getfield 71, 3) := by decide +kernel
theorem dX7_answer_68 : decode prog_9_method_19_code 68 = .ok (.iload 4, 2) := by decide +kernel
theorem dX7_answer_70 : decode prog_9_method_19_code 70 = .ok (.bipush 6, 2) := by decide +kernel
theorem dX7_answer_72 : decode prog_9_method_19_code 72 = .ok (.iadd, 1) := by decide +kernel
theorem dX7_answer_73 : decode prog_9_method_19_code 73 = .ok (.iload 5, 2) := by decide +kernel
theorem dX7_answer_75 : decode prog_9_method_19_code 75 = .ok (.iadd, 1) := by decide +kernel
theorem dX7_answer_76 : decode prog_9_method_19_code 76 = .ok (.iload 6, 2) := by decide +kernel
theorem dX7_answer_78 : decode prog_9_method_19_code 78 = .ok (.ifCond .ge 7, 3) := by decide +kernel
theorem dX7_answer_81 : decode prog_9_method_19_code 81 = .ok (.iconst (-1), 1) := by decide +kernel
theorem dX7_answer_82 : decode prog_9_method_19_code 82 = .ok (.goto 10, 3) := by decide +kernel
theorem dX7_answer_85 : decode prog_9_method_19_code 85 = .ok (.aload_n 0, 1) := by decide +kernel
theorem dX7_answer_86 : decode prog_9_method_19_code 86 = .ok (.getfield 7, 3) := by decide +kernel
theorem dX7_answer_89 : decode prog_9_method_19_code 89 = .ok (.iload 6, 2) := by decide +kernel
theorem dX7_answer_91 : decode prog_9_method_19_code 91 = .ok (.iaload, 1) := by decide +kernel
theorem dX7_answer_92 : decode prog_9_method_19_code 92 = .ok (.iastore, 1) := by decide +kernel
theorem dX7_answer_93 : decode prog_9_method_19_code 93 = .ok (.iinc 5 1, 3) := by decide +kernel
theorem dX7_answer_96 : decode prog_9_method_19_code 96 = .ok (.goto (-54), 3) := by decide +kernel
theorem dX7_answer_99 : decode prog_9_method_19_code 99 = .ok (.iconst 0, 1) := by decide +kernel
theorem dX7_answer_100 : decode prog_9_method_19_code 100 = .ok (.istore 5, 2) := by decide +kernel
theorem dX7_answer_102 : decode prog_9_method_19_code 102 = .ok (.iconst 0, 1) := by decide +kernel
theorem dX7_answer_103 : decode prog_9_method_19_code 103 = .ok (.istore 6, 2) := by decide +kernel
theorem dX7_answer_105 : decode prog_9_method_19_code 105 = .ok (.iload 6, 2) := by decide +kernel
theorem dX7_answer_107 : decode prog_9_method_19_code 107 = .ok (.aload_n 0, 1) := by decide +kernel
theorem dX7_answer_108 : decode prog_9_method_19_code 108 = .ok (.getfield 32, 3) := by decide +kernel
theorem dX7_answer_111 : decode prog_9_method_19_code 111 = .ok (.iload_n 1, 1) := by decide +kernel
theorem dX7_answer_112 : decode prog_9_method_19_code 112 = .ok (.iaload, 1) := by decide +kernel
theorem dX7_answer_113 : decode prog_9_method_19_code 113 = .ok (.if_icmp .ge 74, 3) := by decide +kernel
theorem dX7_answer_116 : decode prog_9_method_19_code 116 = .ok (.aload_n 0, 1) := by decide +kernel
theorem dX7_answer_117 : decode prog_9_method_19_code 117 = .ok (.getfield 74, 3) := by decide +kernel
theorem dX7_answer_120 : decode prog_9_method_19_code 120 = .ok (.iconst 0, 1) := by decide +kernel
theorem dX7_answer_121 : decode prog_9_method_19_code 121 = .ok (.iaload, 1) := by decide +kernel
theorem dX7_answer_122 : decode prog_9_method_19_code 122 = .ok (.iconst 1, 1) := by decide +kernel
theorem dX7_answer_123 : decode prog_9_method_19_code 123 = .ok (.if_icmp .ne 64, 3) := by decide +kernel
theorem dX7_answer_126 : decode prog_9_method_19_code 126 = .ok (.aload_n 0, 1) := by decide +kernel
theorem dX7_answer_127 : decode prog_9_method_19_code 127 = .ok (.getfield 35, 3) := by decide +kernel
theorem dX7_answer_130 : decode prog_9_method_19_code 130 = .ok (.bipush 6, 2) := by decide +kernel
theorem dX7_answer_132 : decode prog_9_method_19_code 132 = .ok (.iload_n 1, 1) := by decide +kernel
theorem dX7_answer_133 : decode prog_9_method_19_code 133 = .ok (.imul, 1) := by decide +kernel
theorem dX7_answer_134 : decode prog_9_method_19_code 134 = .ok (.iload 6, 2) := by decide +kernel
theorem dX7_answer_136 : decode prog_9_method_19_code 136 = .ok (.iadd, 1) := by decide +kernel
theorem dX7_answer_137 : decode prog_9_method_19_code 137 = .ok (.iaload, 1) := by decide +kernel
theorem dX7_answer_138 : decode prog_9_method_19_code 138 = .ok (.aload_n 0, 1) := by decide +kernel
theorem dX7_answer_139 : decode prog_9_method_19_code 139 = .ok (.getfield 74, 3) := by decide +kernel
theorem dX7_answer_142 : decode prog_9_method_19_code 142 = .ok (.iconst 4, 1) := by decide +kernel
theorem dX7_answer_143 : decode prog_9_method_19_code 143 = .ok (.iaload, 1) := by decide +kernel
theorem dX7_answer_144 : decode prog_9_method_19_code 144 = .ok (.if_icmp .ne 37, 3) := by decide +kernel
theorem dX7_answer_147 : decode prog_9_method_19_code 147 = .ok (.iload 5, 2) := by decide +kernel
theorem dX7_answer_149 : decode prog_9_method_19_code 149 = .ok (.iconst 3, 1) := by decide +kernel
theorem dX7_answer_150 : decode prog_9_method_19_code 150 = .ok (.if_icmp .ge 31, 3) := by decide +kernel
theorem dX7_answer_153 : decode prog_9_method_19_code 153 = .ok (.aload_n 0, 1) := by decide +kernel
theorem dX7_answer_154 : decode prog_9_method_19_code 154 = .ok (.getfield 71, 3) := by decide +kernel
theorem dX7_answer_157 : decode prog_9_method_19_code 157 = .ok (.iload 4, 2) := by decide +kernel
theorem dX7_answer_159 : decode prog_9_method_19_code 159 = .ok (.bipush 9, 2) := by decide +kernel
theorem dX7_answer_161 : decode prog_9_method_19_code 161 = .ok (.iadd, 1) := by decide +kernel
theorem dX7_answer_162 : decode prog_9_method_19_code 162 = .ok (.iload 5, 2) := by decide +kernel
theorem dX7_answer_164 : decode prog_9_method_19_code 164 = .ok (.iadd, 1) := by decide +kernel
theorem dX7_answer_165 : decode prog_9_method_19_code 165 = .ok (.aload_n 0, 1) := by decide +kernel
theorem dX7_answer_166 : decode prog_9_method_19_code 166 = .ok (.getfield 38, 3) := by decide +kernel
theorem dX7_answer_169 : decode prog_9_method_19_code 169 = .ok (.bipush 6, 2) := by decide +kernel
theorem dX7_answer_171 : decode prog_9_method_19_code 171 = .ok (.iload_n 1, 1) := by decide +kernel
theorem dX7_answer_172 : decode prog_9_method_19_code 172 = .ok (.imul, 1) := by decide +kernel
theorem dX7_answer_173 : decode prog_9_method_19_code 173 = .ok (.iload 6, 2) := by decide +kernel
theorem dX7_answer_175 : decode prog_9_method_19_code 175 = .ok (.iadd, 1) := by decide +kernel
theorem dX7_answer_176 : decode prog_9_method_19_code 176 = .ok (.iaload, 1) := by decide +kernel
theorem dX7_answer_177 : decode prog_9_method_19_code 177 = .ok (.iastore, 1) := by decide +kernel
theorem dX7_answer_178 : decode prog_9_method_19_code 178 = .ok (.iinc 5 1, 3) := by decide +kernel
theorem dX7_answer_181 : decode prog_9_method_19_code 181 = .ok (.iinc 6 1, 3) := by decide +kernel
theorem dX7_answer_184 : decode prog_9_method_19_code 184 = .ok (.goto (-79), 3) := by decide +kernel
theorem dX7_answer_187 : decode prog_9_method_19_code 187 = .ok (.return_, 1) := by decide +kernel
def pX7_answer_42_b (N a0 : Nat) (kb : mm_M → Int32 → Int32 → Int32 → Int32 → Option (mm_M × Unit)) (kx : mm_M → Int32 → Int32 → Option (mm_M × Unit)) (G : mm_M) (x1 : Int32) (x2 : Int32) (x4 : Int32) (x5 : Int32) : Option (mm_M × Unit) :=
  if (3 : Int32) ≤ x5 then
    kx G x1 x4
  else
    q_gR G a0 8 26 fun r51_9 =>
    q_nn r51_9 fun b55_10 =>
    q_aI G b55_10 101 (4 : Int32) fun v55_11 =>
    q_is G a0 8 <|
    q_cl (pX7_near_0 N a0 G x1 v55_11 x5 x2) fun G v59_13 =>
    q_gR G a0 8 25 fun r65_14 =>
    if 0 ≤ v59_13 then
      q_gR G a0 8 4 fun r86_15 =>
      q_nn r86_15 fun b91_16 =>
      q_aI G b91_16 101 v59_13 fun v91_17 =>
      q_nn r65_14 fun b92_18 =>
      q_sI G b92_18 101 ((x4 + (6 : Int32)) + x5) v91_17 fun G =>
      kb G x1 x2 x4 (x5 + (1 : Int32))
    else
      q_nn r65_14 fun b92_19 =>
      q_sI G b92_19 101 ((x4 + (6 : Int32)) + x5) (-1 : Int32) fun G =>
      kb G x1 x2 x4 (x5 + (1 : Int32))
def pX7_answer_42 (N a0 : Nat) (kx : mm_M → Int32 → Int32 → Option (mm_M × Unit)) : Nat → mm_M → Int32 → Int32 → Int32 → Int32 → Option (mm_M × Unit)
  | 0 => fun _ _ _ _ _ => none
  | n + 1 => pX7_answer_42_b N a0 (pX7_answer_42 N a0 kx n) kx
set_option maxRecDepth 100000 in
set_option maxHeartbeats 4000000 in
theorem bX7_answer_42 {p : Program} {l : Launch} {e : Env} {s : State} {m : MethodId} {args : Array Value} {below : List Frame} {meth : Method} {c : Code} {E : mm_E} {N a0 : Nat} {res : mm_M × Unit} (X : mm_X p s m args meth c prog_9_method_19_code 7 "XorOverlayModel" tw_T E) (hr : meth.sig.returnType = none) {kx : mm_M → Int32 → Int32 → Option (mm_M × Unit)} (hkx : ∀ (G : mm_M) (H : Heap) (locs : List Loc) (ls : Array Slot) (x1 : Int32) (x4 : Int32), mm_V E s G H locs → lx_has ls 7 [(0, .inr (some a0)), (1, .inl x1), (4, .inl x4)] → kx G x1 x4 = some res → W p l e rX7_answer s m args below meth c H locs 0 0 (MQ below (mm_Qv E res.1) args s 0 0 (mm_A E)) (F0 m 99 ls [])) :
    ∀ (n : Nat) (G : mm_M) (H : Heap) (locs : List Loc) (ls : Array Slot) (x1 : Int32) (x2 : Int32) (x4 : Int32) (x5 : Int32), mm_V E s G H locs → lx_has ls 7 [(0, .inr (some a0)), (1, .inl x1), (2, .inl x2), (4, .inl x4), (5, .inl x5)] → pX7_answer_42 N a0 kx n G x1 x2 x4 x5 = some res → W p l e rX7_answer s m args below meth c H locs 0 0 (MQ below (mm_Qv E res.1) args s 0 0 (mm_A E)) (F0 m 42 ls []) := by
  have hx := X.1.1
  have hb := X.1.2.1
  intro n
  induction n with
  | zero =>
    intro G H locs ls x1 x2 x4 x5 V hl hp
    cases hp
  | succ n ih =>
    intro G H locs ls x1 x2 x4 x5 V hl hp
    have hp : pX7_answer_42_b N a0 (pX7_answer_42 N a0 kx n) kx G x1 x2 x4 x5 = some res := hp
    unfold pX7_answer_42_b at hp
    refine x_iload X dX7_answer_42 hl 4 rfl ?_
    refine lv_iconst (v := (3 : Int32)) hx hb dX7_answer_44 (by decide) ?_
    refine q_if hp (lv_icmp_ge (tgt := 99) hx hb dX7_answer_45 (by decide)) (fun hp => ?_) (fun hp => ?_)
    · exact hkx _ _ _ _ _ _ V (lx_sub hl [0, 1, 3] rfl) hp
    · refine x_aload_n X dX7_answer_48 hl 0 rfl rfl ?_
      refine x_iload_n X dX7_answer_49 hl 1 rfl rfl ?_
      refine x_aload_n X dX7_answer_50 hl 0 rfl rfl ?_
      refine q_getR (ci := 7) X V inX7 rfl (by decide) rfl 26 (by decide) rfl (tw_3 55 rfl rfl) rfl dX7_answer_51 hp (fun r51_9 hp => ?_)
      refine lv_iconst (v := (4 : Int32)) hx hb dX7_answer_54 (by decide) ?_
      obtain ⟨b55_10, e0, hp2⟩ := q_nn_of hp
      clear hp; subst e0; have hp := hp2; clear hp2
      refine q_iald X V dX7_answer_55 hp (fun v55_11 hp => ?_)
      refine x_iload X dX7_answer_56 hl 4 rfl ?_
      refine x_iload_n X dX7_answer_58 hl 2 rfl rfl ?_
      obtain ⟨hk, hp⟩ := q_is_of hp
      obtain ⟨⟨G, v59_13⟩, hq, hp⟩ := q_cl_of hp
      dsimp only at hp
      refine q_goi (cells' := 0) (slots' := 0) (va_runV (As := [.int x1, .int v55_11, .int x5, .int x2]) (rest := []) X.1 (cX7_near l E hq) (tw_cwV 4 X.1.2.2.2.2 (tw_3 156 rfl rfl) kX7_near.2.1 kX7_near.2.2.1 kX7_near.2.2.2 kX7_near.1 rfl rfl hX7_near ⟨Nat.le_of_ble_eq_true rfl, Nat.le_of_ble_eq_true rfl⟩) (mm_preV X V rfl (by decide) rfl hk) rfl rfl hl.1 rfl (lv_room (Nat.le_of_ble_eq_true rfl)) dX7_answer_59 ⟨by decide, by decide⟩) V ⟨rfl, rfl⟩ (fun H locs V => ?_)
      refine x_istore (lst' := [(6, .inl v59_13), (0, .inr (some a0)), (1, .inl x1), (2, .inl x2), (4, .inl x4), (5, .inl x5)]) X dX7_answer_62 hl (by decide) rfl (fun ls hl => ?_)
      refine x_aload_n X dX7_answer_64 hl 1 rfl rfl ?_
      refine q_getR (ci := 7) X V inX7 rfl (by decide) rfl 25 (by decide) rfl (tw_3 54 rfl rfl) rfl dX7_answer_65 hp (fun r65_14 hp => ?_)
      refine x_iload X dX7_answer_68 hl 4 rfl ?_
      refine lv_bipush (v := (6 : Int32)) hx hb dX7_answer_70 (by decide) ?_
      refine lv_iadd hx hb dX7_answer_72 ?_
      refine x_iload X dX7_answer_73 hl 5 rfl ?_
      refine lv_iadd hx hb dX7_answer_75 ?_
      refine x_iload X dX7_answer_76 hl 0 rfl ?_
      refine q_if hp (lv_if_ge (tgt := 85) hx hb dX7_answer_78 (by decide)) (fun hp => ?_) (fun hp => ?_)
      · refine x_aload_n X dX7_answer_85 hl 1 rfl rfl ?_
        refine q_getR (ci := 7) X V inX7 rfl (by decide) rfl 4 (by decide) rfl (tw_3 33 rfl rfl) rfl dX7_answer_86 hp (fun r86_15 hp => ?_)
        refine x_iload X dX7_answer_89 hl 0 rfl ?_
        obtain ⟨b91_16, e0, hp2⟩ := q_nn_of hp
        clear hp; subst e0; have hp := hp2; clear hp2
        refine q_iald X V dX7_answer_91 hp (fun v91_17 hp => ?_)
        obtain ⟨b92_18, e0, hp2⟩ := q_nn_of hp
        clear hp; subst e0; have hp := hp2; clear hp2
        refine q_iast X V dX7_answer_92 hp (fun G H locs V hp => ?_)
        refine x_iinc (v := (1 : Int32)) (lst' := [(5, .inl (x5 + (1 : Int32))), (6, .inl v59_13), (0, .inr (some a0)), (1, .inl x1), (2, .inl x2), (4, .inl x4)]) X dX7_answer_93 hl 5 rfl (by decide) (by decide) rfl (fun ls hl => ?_)
        refine lv_goto (tgt := 42) hx hb dX7_answer_96 (by decide) ?_
        exact ih _ _ _ _ _ _ _ _ V (lx_sub hl [2, 3, 4, 5, 0] rfl) hp
      · refine lv_iconst (v := (-1 : Int32)) hx hb dX7_answer_81 (by decide) ?_
        refine lv_goto (tgt := 92) hx hb dX7_answer_82 (by decide) ?_
        obtain ⟨b92_19, e0, hp2⟩ := q_nn_of hp
        clear hp; subst e0; have hp := hp2; clear hp2
        refine q_iast X V dX7_answer_92 hp (fun G H locs V hp => ?_)
        refine x_iinc (v := (1 : Int32)) (lst' := [(5, .inl (x5 + (1 : Int32))), (6, .inl v59_13), (0, .inr (some a0)), (1, .inl x1), (2, .inl x2), (4, .inl x4)]) X dX7_answer_93 hl 5 rfl (by decide) (by decide) rfl (fun ls hl => ?_)
        refine lv_goto (tgt := 42) hx hb dX7_answer_96 (by decide) ?_
        exact ih _ _ _ _ _ _ _ _ V (lx_sub hl [2, 3, 4, 5, 0] rfl) hp
def pX7_answer_105_b (N a0 : Nat) (kb : mm_M → Int32 → Int32 → Int32 → Int32 → Option (mm_M × Unit)) (kx : mm_M → Option (mm_M × Unit)) (G : mm_M) (x1 : Int32) (x4 : Int32) (x5 : Int32) (x6 : Int32) : Option (mm_M × Unit) :=
  q_gR G a0 8 11 fun r108_20 =>
  q_nn r108_20 fun b112_21 =>
  q_aI G b112_21 101 x1 fun v112_22 =>
  if v112_22 ≤ x6 then
    kx G
  else
    q_gR G a0 8 26 fun r117_23 =>
    q_nn r117_23 fun b121_24 =>
    q_aI G b121_24 101 (0 : Int32) fun v121_25 =>
    if v121_25 = (1 : Int32) then
      q_gR G a0 8 12 fun r127_26 =>
      q_nn r127_26 fun b137_27 =>
      q_aI G b137_27 101 (((6 : Int32) * x1) + x6) fun v137_28 =>
      q_gR G a0 8 26 fun r139_29 =>
      q_nn r139_29 fun b143_30 =>
      q_aI G b143_30 101 (4 : Int32) fun v143_31 =>
      if v137_28 = v143_31 then
        if (3 : Int32) ≤ x5 then
          kb G x1 x4 x5 (x6 + (1 : Int32))
        else
          q_gR G a0 8 25 fun r154_32 =>
          q_gR G a0 8 13 fun r166_33 =>
          q_nn r166_33 fun b176_34 =>
          q_aI G b176_34 101 (((6 : Int32) * x1) + x6) fun v176_35 =>
          q_nn r154_32 fun b177_36 =>
          q_sI G b177_36 101 ((x4 + (9 : Int32)) + x5) v176_35 fun G =>
          kb G x1 x4 (x5 + (1 : Int32)) (x6 + (1 : Int32))
      else
        kb G x1 x4 x5 (x6 + (1 : Int32))
    else
      kx G
def pX7_answer_105 (N a0 : Nat) (kx : mm_M → Option (mm_M × Unit)) : Nat → mm_M → Int32 → Int32 → Int32 → Int32 → Option (mm_M × Unit)
  | 0 => fun _ _ _ _ _ => none
  | n + 1 => pX7_answer_105_b N a0 (pX7_answer_105 N a0 kx n) kx
set_option maxRecDepth 100000 in
set_option maxHeartbeats 4000000 in
theorem bX7_answer_105 {p : Program} {l : Launch} {e : Env} {s : State} {m : MethodId} {args : Array Value} {below : List Frame} {meth : Method} {c : Code} {E : mm_E} {N a0 : Nat} {res : mm_M × Unit} (X : mm_X p s m args meth c prog_9_method_19_code 7 "XorOverlayModel" tw_T E) (hr : meth.sig.returnType = none) {kx : mm_M → Option (mm_M × Unit)} (hkx : ∀ (G : mm_M) (H : Heap) (locs : List Loc) (ls : Array Slot), mm_V E s G H locs → lx_has ls 7 [(0, .inr (some a0))] → kx G = some res → W p l e rX7_answer s m args below meth c H locs 0 0 (MQ below (mm_Qv E res.1) args s 0 0 (mm_A E)) (F0 m 187 ls [])) :
    ∀ (n : Nat) (G : mm_M) (H : Heap) (locs : List Loc) (ls : Array Slot) (x1 : Int32) (x4 : Int32) (x5 : Int32) (x6 : Int32), mm_V E s G H locs → lx_has ls 7 [(0, .inr (some a0)), (1, .inl x1), (4, .inl x4), (5, .inl x5), (6, .inl x6)] → pX7_answer_105 N a0 kx n G x1 x4 x5 x6 = some res → W p l e rX7_answer s m args below meth c H locs 0 0 (MQ below (mm_Qv E res.1) args s 0 0 (mm_A E)) (F0 m 105 ls []) := by
  have hx := X.1.1
  have hb := X.1.2.1
  intro n
  induction n with
  | zero =>
    intro G H locs ls x1 x4 x5 x6 V hl hp
    cases hp
  | succ n ih =>
    intro G H locs ls x1 x4 x5 x6 V hl hp
    have hp : pX7_answer_105_b N a0 (pX7_answer_105 N a0 kx n) kx G x1 x4 x5 x6 = some res := hp
    unfold pX7_answer_105_b at hp
    refine x_iload X dX7_answer_105 hl 4 rfl ?_
    refine x_aload_n X dX7_answer_107 hl 0 rfl rfl ?_
    refine q_getR (ci := 7) X V inX7 rfl (by decide) rfl 11 (by decide) rfl (tw_3 40 rfl rfl) rfl dX7_answer_108 hp (fun r108_20 hp => ?_)
    refine x_iload_n X dX7_answer_111 hl 1 rfl rfl ?_
    obtain ⟨b112_21, e0, hp2⟩ := q_nn_of hp
    clear hp; subst e0; have hp := hp2; clear hp2
    refine q_iald X V dX7_answer_112 hp (fun v112_22 hp => ?_)
    refine q_if hp (lv_icmp_ge (tgt := 187) hx hb dX7_answer_113 (by decide)) (fun hp => ?_) (fun hp => ?_)
    · exact hkx _ _ _ _ V (lx_sub hl [0] rfl) hp
    · refine x_aload_n X dX7_answer_116 hl 0 rfl rfl ?_
      refine q_getR (ci := 7) X V inX7 rfl (by decide) rfl 26 (by decide) rfl (tw_3 55 rfl rfl) rfl dX7_answer_117 hp (fun r117_23 hp => ?_)
      refine lv_iconst (v := (0 : Int32)) hx hb dX7_answer_120 (by decide) ?_
      obtain ⟨b121_24, e0, hp2⟩ := q_nn_of hp
      clear hp; subst e0; have hp := hp2; clear hp2
      refine q_iald X V dX7_answer_121 hp (fun v121_25 hp => ?_)
      refine lv_iconst (v := (1 : Int32)) hx hb dX7_answer_122 (by decide) ?_
      refine q_ifn hp (lv_icmp_ne (tgt := 187) hx hb dX7_answer_123 (by decide)) (fun hp => ?_) (fun hp => ?_)
      · exact hkx _ _ _ _ V (lx_sub hl [0] rfl) hp
      · refine x_aload_n X dX7_answer_126 hl 0 rfl rfl ?_
        refine q_getR (ci := 7) X V inX7 rfl (by decide) rfl 12 (by decide) rfl (tw_3 41 rfl rfl) rfl dX7_answer_127 hp (fun r127_26 hp => ?_)
        refine lv_bipush (v := (6 : Int32)) hx hb dX7_answer_130 (by decide) ?_
        refine x_iload_n X dX7_answer_132 hl 1 rfl rfl ?_
        refine lv_imul hx hb dX7_answer_133 ?_
        refine x_iload X dX7_answer_134 hl 4 rfl ?_
        refine lv_iadd hx hb dX7_answer_136 ?_
        obtain ⟨b137_27, e0, hp2⟩ := q_nn_of hp
        clear hp; subst e0; have hp := hp2; clear hp2
        refine q_iald X V dX7_answer_137 hp (fun v137_28 hp => ?_)
        refine x_aload_n X dX7_answer_138 hl 0 rfl rfl ?_
        refine q_getR (ci := 7) X V inX7 rfl (by decide) rfl 26 (by decide) rfl (tw_3 55 rfl rfl) rfl dX7_answer_139 hp (fun r139_29 hp => ?_)
        refine lv_iconst (v := (4 : Int32)) hx hb dX7_answer_142 (by decide) ?_
        obtain ⟨b143_30, e0, hp2⟩ := q_nn_of hp
        clear hp; subst e0; have hp := hp2; clear hp2
        refine q_iald X V dX7_answer_143 hp (fun v143_31 hp => ?_)
        refine q_ifn hp (lv_icmp_ne (tgt := 181) hx hb dX7_answer_144 (by decide)) (fun hp => ?_) (fun hp => ?_)
        · refine x_iinc (v := (1 : Int32)) (lst' := [(6, .inl (x6 + (1 : Int32))), (0, .inr (some a0)), (1, .inl x1), (4, .inl x4), (5, .inl x5)]) X dX7_answer_181 hl 4 rfl (by decide) (by decide) rfl (fun ls hl => ?_)
          refine lv_goto (tgt := 105) hx hb dX7_answer_184 (by decide) ?_
          exact ih _ _ _ _ _ _ _ _ V (lx_sub hl [1, 2, 3, 4, 0] rfl) hp
        · refine x_iload X dX7_answer_147 hl 3 rfl ?_
          refine lv_iconst (v := (3 : Int32)) hx hb dX7_answer_149 (by decide) ?_
          refine q_if hp (lv_icmp_ge (tgt := 181) hx hb dX7_answer_150 (by decide)) (fun hp => ?_) (fun hp => ?_)
          · refine x_iinc (v := (1 : Int32)) (lst' := [(6, .inl (x6 + (1 : Int32))), (0, .inr (some a0)), (1, .inl x1), (4, .inl x4), (5, .inl x5)]) X dX7_answer_181 hl 4 rfl (by decide) (by decide) rfl (fun ls hl => ?_)
            refine lv_goto (tgt := 105) hx hb dX7_answer_184 (by decide) ?_
            exact ih _ _ _ _ _ _ _ _ V (lx_sub hl [1, 2, 3, 4, 0] rfl) hp
          · refine x_aload_n X dX7_answer_153 hl 0 rfl rfl ?_
            refine q_getR (ci := 7) X V inX7 rfl (by decide) rfl 25 (by decide) rfl (tw_3 54 rfl rfl) rfl dX7_answer_154 hp (fun r154_32 hp => ?_)
            refine x_iload X dX7_answer_157 hl 2 rfl ?_
            refine lv_bipush (v := (9 : Int32)) hx hb dX7_answer_159 (by decide) ?_
            refine lv_iadd hx hb dX7_answer_161 ?_
            refine x_iload X dX7_answer_162 hl 3 rfl ?_
            refine lv_iadd hx hb dX7_answer_164 ?_
            refine x_aload_n X dX7_answer_165 hl 0 rfl rfl ?_
            refine q_getR (ci := 7) X V inX7 rfl (by decide) rfl 13 (by decide) rfl (tw_3 42 rfl rfl) rfl dX7_answer_166 hp (fun r166_33 hp => ?_)
            refine lv_bipush (v := (6 : Int32)) hx hb dX7_answer_169 (by decide) ?_
            refine x_iload_n X dX7_answer_171 hl 1 rfl rfl ?_
            refine lv_imul hx hb dX7_answer_172 ?_
            refine x_iload X dX7_answer_173 hl 4 rfl ?_
            refine lv_iadd hx hb dX7_answer_175 ?_
            obtain ⟨b176_34, e0, hp2⟩ := q_nn_of hp
            clear hp; subst e0; have hp := hp2; clear hp2
            refine q_iald X V dX7_answer_176 hp (fun v176_35 hp => ?_)
            obtain ⟨b177_36, e0, hp2⟩ := q_nn_of hp
            clear hp; subst e0; have hp := hp2; clear hp2
            refine q_iast X V dX7_answer_177 hp (fun G H locs V hp => ?_)
            refine x_iinc (v := (1 : Int32)) (lst' := [(5, .inl (x5 + (1 : Int32))), (0, .inr (some a0)), (1, .inl x1), (4, .inl x4), (6, .inl x6)]) X dX7_answer_178 hl 3 rfl (by decide) (by decide) rfl (fun ls hl => ?_)
            refine x_iinc (v := (1 : Int32)) (lst' := [(6, .inl (x6 + (1 : Int32))), (5, .inl (x5 + (1 : Int32))), (0, .inr (some a0)), (1, .inl x1), (4, .inl x4)]) X dX7_answer_181 hl 4 rfl (by decide) (by decide) rfl (fun ls hl => ?_)
            refine lv_goto (tgt := 105) hx hb dX7_answer_184 (by decide) ?_
            exact ih _ _ _ _ _ _ _ _ V (lx_sub hl [2, 3, 4, 1, 0] rfl) hp
def pX7_answer_0 (N a0 : Nat) (G : mm_M) (x1 : Int32) (x2 : Int32) : Option (mm_M × Unit) :=
  q_gI G a0 8 0 fun v5_1 =>
  q_is G a0 8 <|
  q_cl (pX7_tokenOf_0 N a0 G x1 x2 ((1 : Int32) + (v5_1 / (8 : Int32)))) fun G v12_3 =>
  q_gR G a0 8 26 fun r21_4 =>
  q_nn r21_4 fun b25_5 =>
  q_aI G b25_5 101 (3 : Int32) fun v25_6 =>
  q_is G a0 8 <|
  q_cl (pX7_send_0 N a0 G (2 : Int32) x1 x2 v25_6 (-1 : Int32) v12_3) fun G v28_8 =>
  if 0 ≤ v28_8 then
    pX7_answer_42 N a0 (fun (G : mm_M) (x1 : Int32) (x4 : Int32) =>
      pX7_answer_105 N a0 (fun (G : mm_M) =>
        some (G, ())) N G x1 x4 (0 : Int32) (0 : Int32)) N G x1 x2 v28_8 (0 : Int32)
  else
    some (G, ())
set_option maxRecDepth 100000 in
set_option maxHeartbeats 4000000 in
theorem bX7_answer_0 {p : Program} {l : Launch} {e : Env} {s : State} {m : MethodId} {args : Array Value} {below : List Frame} {meth : Method} {c : Code} {E : mm_E} {N a0 : Nat} {res : mm_M × Unit} (X : mm_X p s m args meth c prog_9_method_19_code 7 "XorOverlayModel" tw_T E) (hr : meth.sig.returnType = none) {G : mm_M} {H : Heap} {locs : List Loc} {ls : Array Slot} {x1 : Int32} {x2 : Int32} (V : mm_V E s G H locs) (hl : lx_has ls 7 [(0, .inr (some a0)), (1, .inl x1), (2, .inl x2)]) (hp : pX7_answer_0 N a0 G x1 x2 = some res) : W p l e rX7_answer s m args below meth c H locs 0 0 (MQ below (mm_Qv E res.1) args s 0 0 (mm_A E)) (F0 m 0 ls []) := by
  have hx := X.1.1
  have hb := X.1.2.1
  unfold pX7_answer_0 at hp
  refine x_aload_n X dX7_answer_0 hl 0 rfl rfl ?_
  refine x_iload_n X dX7_answer_1 hl 1 rfl rfl ?_
  refine x_iload_n X dX7_answer_2 hl 2 rfl rfl ?_
  refine lv_iconst (v := (1 : Int32)) hx hb dX7_answer_3 (by decide) ?_
  refine x_aload_n X dX7_answer_4 hl 0 rfl rfl ?_
  refine q_getI (ci := 7) X V inX7 rfl (by decide) rfl 0 (by decide) rfl (tw_3 29 rfl rfl) rfl dX7_answer_5 hp (fun v5_1 hp => ?_)
  refine lv_bipush (v := (8 : Int32)) hx hb dX7_answer_8 (by decide) ?_
  refine lv_idiv hx hb dX7_answer_10 (by decide) ?_
  refine lv_iadd hx hb dX7_answer_11 ?_
  obtain ⟨hk, hp⟩ := q_is_of hp
  obtain ⟨⟨G, v12_3⟩, hq, hp⟩ := q_cl_of hp
  dsimp only at hp
  refine q_goi (cells' := 0) (slots' := 0) (va_runV (As := [.int x1, .int x2, .int ((1 : Int32) + (v5_1 / (8 : Int32)))]) (rest := []) X.1 (cX7_tokenOf l E hq) (tw_cwV 3 X.1.2.2.2.2 (tw_3 236 rfl rfl) kX7_tokenOf.2.1 kX7_tokenOf.2.2.1 kX7_tokenOf.2.2.2 kX7_tokenOf.1 rfl rfl hX7_tokenOf ⟨Nat.le_of_ble_eq_true rfl, Nat.le_of_ble_eq_true rfl⟩) (mm_preV X V rfl (by decide) rfl hk) rfl rfl hl.1 rfl (lv_room (Nat.le_of_ble_eq_true rfl)) dX7_answer_12 ⟨by decide, by decide⟩) V ⟨rfl, rfl⟩ (fun H locs V => ?_)
  refine x_istore_n (lst' := [(3, .inl v12_3), (0, .inr (some a0)), (1, .inl x1), (2, .inl x2)]) X dX7_answer_15 hl rfl (by decide) rfl (fun ls hl => ?_)
  refine x_aload_n X dX7_answer_16 hl 1 rfl rfl ?_
  refine lv_iconst (v := (2 : Int32)) hx hb dX7_answer_17 (by decide) ?_
  refine x_iload_n X dX7_answer_18 hl 2 rfl rfl ?_
  refine x_iload_n X dX7_answer_19 hl 3 rfl rfl ?_
  refine x_aload_n X dX7_answer_20 hl 1 rfl rfl ?_
  refine q_getR (ci := 7) X V inX7 rfl (by decide) rfl 26 (by decide) rfl (tw_3 55 rfl rfl) rfl dX7_answer_21 hp (fun r21_4 hp => ?_)
  refine lv_iconst (v := (3 : Int32)) hx hb dX7_answer_24 (by decide) ?_
  obtain ⟨b25_5, e0, hp2⟩ := q_nn_of hp
  clear hp; subst e0; have hp := hp2; clear hp2
  refine q_iald X V dX7_answer_25 hp (fun v25_6 hp => ?_)
  refine lv_iconst (v := (-1 : Int32)) hx hb dX7_answer_26 (by decide) ?_
  refine x_iload_n X dX7_answer_27 hl 0 rfl rfl ?_
  obtain ⟨hk, hp⟩ := q_is_of hp
  obtain ⟨⟨G, v28_8⟩, hq, hp⟩ := q_cl_of hp
  dsimp only at hp
  refine q_goi (cells' := 0) (slots' := 0) (va_runV (As := [.int (2 : Int32), .int x1, .int x2, .int v25_6, .int (-1 : Int32), .int v12_3]) (rest := []) X.1 (cX7_send l E hq) (tw_cwV 6 X.1.2.2.2.2 (tw_3 180 rfl rfl) kX7_send.2.1 kX7_send.2.2.1 kX7_send.2.2.2 kX7_send.1 rfl rfl hX7_send ⟨Nat.le_of_ble_eq_true rfl, Nat.le_of_ble_eq_true rfl⟩) (mm_preV X V rfl (by decide) rfl hk) rfl rfl hl.1 rfl (lv_room (Nat.le_of_ble_eq_true rfl)) dX7_answer_28 ⟨by decide, by decide⟩) V ⟨rfl, rfl⟩ (fun H locs V => ?_)
  refine x_istore (lst' := [(4, .inl v28_8), (3, .inl v12_3), (0, .inr (some a0)), (1, .inl x1), (2, .inl x2)]) X dX7_answer_31 hl (by decide) rfl (fun ls hl => ?_)
  refine x_iload X dX7_answer_33 hl 0 rfl ?_
  refine q_if hp (lv_if_ge (tgt := 39) hx hb dX7_answer_35 (by decide)) (fun hp => ?_) (fun hp => ?_)
  · refine lv_iconst (v := (0 : Int32)) hx hb dX7_answer_39 (by decide) ?_
    refine x_istore (lst' := [(5, .inl (0 : Int32)), (4, .inl v28_8), (3, .inl v12_3), (0, .inr (some a0)), (1, .inl x1), (2, .inl x2)]) X dX7_answer_40 hl (by decide) rfl (fun ls hl => ?_)
    refine bX7_answer_42 X hr (fun G H locs ls x1 x4 V hl hp => ?_) _ _ _ _ _ _ _ _ _ V (lx_sub hl [3, 4, 5, 1, 0] rfl) hp
    refine lv_iconst (v := (0 : Int32)) hx hb dX7_answer_99 (by decide) ?_
    refine x_istore (lst' := [(5, .inl (0 : Int32)), (0, .inr (some a0)), (1, .inl x1), (4, .inl x4)]) X dX7_answer_100 hl (by decide) rfl (fun ls hl => ?_)
    refine lv_iconst (v := (0 : Int32)) hx hb dX7_answer_102 (by decide) ?_
    refine x_istore (lst' := [(6, .inl (0 : Int32)), (5, .inl (0 : Int32)), (0, .inr (some a0)), (1, .inl x1), (4, .inl x4)]) X dX7_answer_103 hl (by decide) rfl (fun ls hl => ?_)
    refine bX7_answer_105 X hr (fun G H locs ls V hl hp => ?_) _ _ _ _ _ _ _ _ _ V (lx_sub hl [2, 3, 4, 1, 0] rfl) hp
    exact q_vret X V hr ⟨by decide, by decide⟩ dX7_answer_187 hp
  · exact q_vret X V hr ⟨by decide, by decide⟩ dX7_answer_38 hp
theorem cX7_answer (l : Launch) (E : mm_E) {N a0 : Nat} {G : mm_M} {x1 : Int32} {x2 : Int32} {res : mm_M × Unit} (hp : pX7_answer_0 N a0 G x1 x2 = some res) : Met l yX7_answer (Cond.code yX7_answer prog_9_method_19_code 7 none :: tw_T) rX7_answer (mm_Pc E G [.ref a0, .int x1, .int x2]) (mm_Qv E res.1) 0 0 (mm_A E) :=
  mm_met (own := "XorOverlayModel") E G [.inr (some a0), .inl x1, .inl x2] (by decide) rfl rfl (Nat.le_of_ble_eq_true rfl) (fun p e s m args below meth c ls X hr hi V hl => bX7_answer_0 X hr V hl hp)
abbrev yX7_hasFound : MethodName := ⟨"XorOverlayModel", "hasFound", "(II)Z"⟩
abbrev rX7_hasFound : Room := { frames := 0, cells := 0, slots := 0, locals := 0 }
theorem kX7_hasFound : Cond.code yX7_hasFound prog_9_method_20_code 5 (Option.some .boolean) ∈ tw_T ∧ Cond.instanceMethod yX7_hasFound ∈ tw_T ∧ Cond.selects "XorOverlayModel" yX7_hasFound yX7_hasFound ∈ tw_T ∧ Cond.initialized "XorOverlayModel" ∈ tw_T := ⟨(tw_4 9 rfl rfl), (tw_4 8 rfl rfl), (tw_s 45 rfl rfl), (tw_1 3 rfl rfl)⟩
theorem hX7_hasFound : yX7_hasFound.cls = "XorOverlayModel" ∧ yX7_hasFound.cls ≠ "java/lang/invoke/MethodHandle" ∧ yX7_hasFound.cls ≠ "java/lang/invoke/VarHandle" ∧ (parseMethodDescriptor yX7_hasFound.desc).map (fun d => d.parameters.length) = some 2 := by decide +kernel
theorem dX7_hasFound_0 : decode prog_9_method_20_code 0 = .ok (.iconst 0, 1) := by decide +kernel
theorem dX7_hasFound_1 : decode prog_9_method_20_code 1 = .ok (.istore_n 3, 1) := by decide +kernel
theorem dX7_hasFound_2 : decode prog_9_method_20_code 2 = .ok (.iconst 0, 1) := by decide +kernel
theorem dX7_hasFound_3 : decode prog_9_method_20_code 3 = .ok (.istore 4, 2) := by decide +kernel
theorem dX7_hasFound_5 : decode prog_9_method_20_code 5 = .ok (.iload 4, 2) := by decide +kernel
theorem dX7_hasFound_7 : decode prog_9_method_20_code 7 = .ok (.aload_n 0, 1) := by decide +kernel
theorem dX7_hasFound_8 : decode prog_9_method_20_code 8 = .ok (.getfield 65, 3) := by decide +kernel
theorem dX7_hasFound_11 : decode prog_9_method_20_code 11 = .ok (.iload_n 1, 1) := by decide +kernel
theorem dX7_hasFound_12 : decode prog_9_method_20_code 12 = .ok (.iaload, 1) := by decide +kernel
theorem dX7_hasFound_13 : decode prog_9_method_20_code 13 = .ok (.if_icmp .ge 35, 3) := by decide +kernel
theorem dX7_hasFound_16 : decode prog_9_method_20_code 16 = .ok (.iload_n 3, 1) := by decide +kernel
theorem dX7_hasFound_17 : decode prog_9_method_20_code 17 = .ok (.ifCond .ne 19, 3) := by decide +kernel
theorem dX7_hasFound_20 : decode prog_9_method_20_code 20 = .ok (.aload_n 0, 1) := by decide +kernel
theorem dX7_hasFound_21 : decode prog_9_method_20_code 21 = .ok (.getfield 68, 3) := by decide +kernel
theorem dX7_hasFound_24 : decode prog_9_method_20_code 24 = .ok (.bipush 12, 2) := by decide +kernel
theorem dX7_hasFound_26 : decode prog_9_method_20_code 26 = .ok (.iload_n 1, 1) := by decide +kernel
theorem dX7_hasFound_27 : decode prog_9_method_20_code 27 = .ok (.imul, 1) := by decide +kernel
theorem dX7_hasFound_28 : decode prog_9_method_20_code 28 = .ok (.iload 4, 2) := by decide +kernel
theorem dX7_hasFound_30 : decode prog_9_method_20_code 30 = .ok (.iadd, 1) := by decide +kernel
theorem dX7_hasFound_31 : decode prog_9_method_20_code 31 = .ok (.iaload, 1) := by decide +kernel
theorem dX7_hasFound_32 : decode prog_9_method_20_code 32 = .ok (.iload_n 2, 1) := by decide +kernel
theorem dX7_hasFound_33 : decode prog_9_method_20_code 33 = .ok (.if_icmp .ne 7, 3) := by decide +kernel
theorem dX7_hasFound_36 : decode prog_9_method_20_code 36 = .ok (.iconst 1, 1) := by decide +kernel
theorem dX7_hasFound_37 : decode prog_9_method_20_code 37 = .ok (.goto 4, 3) := by decide +kernel
theorem dX7_hasFound_40 : decode prog_9_method_20_code 40 = .ok (.iconst 0, 1) := by decide +kernel
theorem dX7_hasFound_41 : decode prog_9_method_20_code 41 = .ok (.istore_n 3, 1) := by decide +kernel
theorem dX7_hasFound_42 : decode prog_9_method_20_code 42 = .ok (.iinc 4 1, 3) := by decide +kernel
theorem dX7_hasFound_45 : decode prog_9_method_20_code 45 = .ok (.goto (-40), 3) := by decide +kernel
theorem dX7_hasFound_48 : decode prog_9_method_20_code 48 = .ok (.iload_n 3, 1) := by decide +kernel
theorem dX7_hasFound_49 : decode prog_9_method_20_code 49 = .ok (.ireturn, 1) := by decide +kernel
def pX7_hasFound_5_b (N a0 : Nat) (kb : mm_M → Int32 → Int32 → Int32 → Int32 → Option (mm_M × Int32)) (kx : mm_M → Int32 → Option (mm_M × Int32)) (G : mm_M) (x1 : Int32) (x2 : Int32) (x3 : Int32) (x4 : Int32) : Option (mm_M × Int32) :=
  q_gR G a0 8 22 fun r8_1 =>
  q_nn r8_1 fun b12_2 =>
  q_aI G b12_2 101 x1 fun v12_3 =>
  if v12_3 ≤ x4 then
    kx G x3
  else
    if x3 = 0 then
      q_gR G a0 8 23 fun r21_4 =>
      q_nn r21_4 fun b31_5 =>
      q_aI G b31_5 101 (((12 : Int32) * x1) + x4) fun v31_6 =>
      if v31_6 = x2 then
        kb G x1 x2 (1 : Int32) (x4 + (1 : Int32))
      else
        kb G x1 x2 (0 : Int32) (x4 + (1 : Int32))
    else
      kb G x1 x2 (1 : Int32) (x4 + (1 : Int32))
def pX7_hasFound_5 (N a0 : Nat) (kx : mm_M → Int32 → Option (mm_M × Int32)) : Nat → mm_M → Int32 → Int32 → Int32 → Int32 → Option (mm_M × Int32)
  | 0 => fun _ _ _ _ _ => none
  | n + 1 => pX7_hasFound_5_b N a0 (pX7_hasFound_5 N a0 kx n) kx
set_option maxRecDepth 100000 in
set_option maxHeartbeats 4000000 in
theorem bX7_hasFound_5 {p : Program} {l : Launch} {e : Env} {s : State} {m : MethodId} {args : Array Value} {below : List Frame} {meth : Method} {c : Code} {E : mm_E} {N a0 : Nat} {res : mm_M × Int32} (X : mm_X p s m args meth c prog_9_method_20_code 5 "XorOverlayModel" tw_T E) (hr : meth.sig.returnType = (Option.some .boolean)) {kx : mm_M → Int32 → Option (mm_M × Int32)} (hkx : ∀ (G : mm_M) (H : Heap) (locs : List Loc) (ls : Array Slot) (x3 : Int32), mm_V E s G H locs → lx_has ls 5 [(0, .inr (some a0)), (3, .inl x3)] → kx G x3 = some res → W p l e rX7_hasFound s m args below meth c H locs 0 0 (MQ below (mm_Qi E res.1 res.2) args s 0 0 (mm_A E)) (F0 m 48 ls [])) :
    ∀ (n : Nat) (G : mm_M) (H : Heap) (locs : List Loc) (ls : Array Slot) (x1 : Int32) (x2 : Int32) (x3 : Int32) (x4 : Int32), mm_V E s G H locs → lx_has ls 5 [(0, .inr (some a0)), (1, .inl x1), (2, .inl x2), (3, .inl x3), (4, .inl x4)] → pX7_hasFound_5 N a0 kx n G x1 x2 x3 x4 = some res → W p l e rX7_hasFound s m args below meth c H locs 0 0 (MQ below (mm_Qi E res.1 res.2) args s 0 0 (mm_A E)) (F0 m 5 ls []) := by
  have hx := X.1.1
  have hb := X.1.2.1
  intro n
  induction n with
  | zero =>
    intro G H locs ls x1 x2 x3 x4 V hl hp
    cases hp
  | succ n ih =>
    intro G H locs ls x1 x2 x3 x4 V hl hp
    have hp : pX7_hasFound_5_b N a0 (pX7_hasFound_5 N a0 kx n) kx G x1 x2 x3 x4 = some res := hp
    unfold pX7_hasFound_5_b at hp
    refine x_iload X dX7_hasFound_5 hl 4 rfl ?_
    refine x_aload_n X dX7_hasFound_7 hl 0 rfl rfl ?_
    refine q_getR (ci := 7) X V inX7 rfl (by decide) rfl 22 (by decide) rfl (tw_3 51 rfl rfl) rfl dX7_hasFound_8 hp (fun r8_1 hp => ?_)
    refine x_iload_n X dX7_hasFound_11 hl 1 rfl rfl ?_
    obtain ⟨b12_2, e0, hp2⟩ := q_nn_of hp
    clear hp; subst e0; have hp := hp2; clear hp2
    refine q_iald X V dX7_hasFound_12 hp (fun v12_3 hp => ?_)
    refine q_if hp (lv_icmp_ge (tgt := 48) hx hb dX7_hasFound_13 (by decide)) (fun hp => ?_) (fun hp => ?_)
    · exact hkx _ _ _ _ _ V (lx_sub hl [0, 3] rfl) hp
    · refine x_iload_n X dX7_hasFound_16 hl 3 rfl rfl ?_
      refine q_ifn hp (lv_if_ne (tgt := 36) hx hb dX7_hasFound_17 (by decide)) (fun hp => ?_) (fun hp => ?_)
      · refine lv_iconst (v := (1 : Int32)) hx hb dX7_hasFound_36 (by decide) ?_
        refine lv_goto (tgt := 41) hx hb dX7_hasFound_37 (by decide) ?_
        refine x_istore_n (lst' := [(3, .inl (1 : Int32)), (0, .inr (some a0)), (1, .inl x1), (2, .inl x2), (4, .inl x4)]) X dX7_hasFound_41 hl rfl (by decide) rfl (fun ls hl => ?_)
        refine x_iinc (v := (1 : Int32)) (lst' := [(4, .inl (x4 + (1 : Int32))), (3, .inl (1 : Int32)), (0, .inr (some a0)), (1, .inl x1), (2, .inl x2)]) X dX7_hasFound_42 hl 4 rfl (by decide) (by decide) rfl (fun ls hl => ?_)
        refine lv_goto (tgt := 5) hx hb dX7_hasFound_45 (by decide) ?_
        exact ih _ _ _ _ _ _ _ _ V (lx_sub hl [2, 3, 4, 1, 0] rfl) hp
      · refine x_aload_n X dX7_hasFound_20 hl 0 rfl rfl ?_
        refine q_getR (ci := 7) X V inX7 rfl (by decide) rfl 23 (by decide) rfl (tw_3 52 rfl rfl) rfl dX7_hasFound_21 hp (fun r21_4 hp => ?_)
        refine lv_bipush (v := (12 : Int32)) hx hb dX7_hasFound_24 (by decide) ?_
        refine x_iload_n X dX7_hasFound_26 hl 1 rfl rfl ?_
        refine lv_imul hx hb dX7_hasFound_27 ?_
        refine x_iload X dX7_hasFound_28 hl 4 rfl ?_
        refine lv_iadd hx hb dX7_hasFound_30 ?_
        obtain ⟨b31_5, e0, hp2⟩ := q_nn_of hp
        clear hp; subst e0; have hp := hp2; clear hp2
        refine q_iald X V dX7_hasFound_31 hp (fun v31_6 hp => ?_)
        refine x_iload_n X dX7_hasFound_32 hl 2 rfl rfl ?_
        refine q_ifn hp (lv_icmp_ne (tgt := 40) hx hb dX7_hasFound_33 (by decide)) (fun hp => ?_) (fun hp => ?_)
        · refine lv_iconst (v := (0 : Int32)) hx hb dX7_hasFound_40 (by decide) ?_
          refine x_istore_n (lst' := [(3, .inl (0 : Int32)), (0, .inr (some a0)), (1, .inl x1), (2, .inl x2), (4, .inl x4)]) X dX7_hasFound_41 hl rfl (by decide) rfl (fun ls hl => ?_)
          refine x_iinc (v := (1 : Int32)) (lst' := [(4, .inl (x4 + (1 : Int32))), (3, .inl (0 : Int32)), (0, .inr (some a0)), (1, .inl x1), (2, .inl x2)]) X dX7_hasFound_42 hl 4 rfl (by decide) (by decide) rfl (fun ls hl => ?_)
          refine lv_goto (tgt := 5) hx hb dX7_hasFound_45 (by decide) ?_
          exact ih _ _ _ _ _ _ _ _ V (lx_sub hl [2, 3, 4, 1, 0] rfl) hp
        · refine lv_iconst (v := (1 : Int32)) hx hb dX7_hasFound_36 (by decide) ?_
          refine lv_goto (tgt := 41) hx hb dX7_hasFound_37 (by decide) ?_
          refine x_istore_n (lst' := [(3, .inl (1 : Int32)), (0, .inr (some a0)), (1, .inl x1), (2, .inl x2), (4, .inl x4)]) X dX7_hasFound_41 hl rfl (by decide) rfl (fun ls hl => ?_)
          refine x_iinc (v := (1 : Int32)) (lst' := [(4, .inl (x4 + (1 : Int32))), (3, .inl (1 : Int32)), (0, .inr (some a0)), (1, .inl x1), (2, .inl x2)]) X dX7_hasFound_42 hl 4 rfl (by decide) (by decide) rfl (fun ls hl => ?_)
          refine lv_goto (tgt := 5) hx hb dX7_hasFound_45 (by decide) ?_
          exact ih _ _ _ _ _ _ _ _ V (lx_sub hl [2, 3, 4, 1, 0] rfl) hp
def pX7_hasFound_0 (N a0 : Nat) (G : mm_M) (x1 : Int32) (x2 : Int32) : Option (mm_M × Int32) :=
  pX7_hasFound_5 N a0 (fun (G : mm_M) (x3 : Int32) =>
    q_bit x3 <|
    some (G, x3)) N G x1 x2 (0 : Int32) (0 : Int32)
set_option maxRecDepth 100000 in
set_option maxHeartbeats 4000000 in
theorem bX7_hasFound_0 {p : Program} {l : Launch} {e : Env} {s : State} {m : MethodId} {args : Array Value} {below : List Frame} {meth : Method} {c : Code} {E : mm_E} {N a0 : Nat} {res : mm_M × Int32} (X : mm_X p s m args meth c prog_9_method_20_code 5 "XorOverlayModel" tw_T E) (hr : meth.sig.returnType = (Option.some .boolean)) {G : mm_M} {H : Heap} {locs : List Loc} {ls : Array Slot} {x1 : Int32} {x2 : Int32} (V : mm_V E s G H locs) (hl : lx_has ls 5 [(0, .inr (some a0)), (1, .inl x1), (2, .inl x2)]) (hp : pX7_hasFound_0 N a0 G x1 x2 = some res) : W p l e rX7_hasFound s m args below meth c H locs 0 0 (MQ below (mm_Qi E res.1 res.2) args s 0 0 (mm_A E)) (F0 m 0 ls []) := by
  have hx := X.1.1
  have hb := X.1.2.1
  unfold pX7_hasFound_0 at hp
  refine lv_iconst (v := (0 : Int32)) hx hb dX7_hasFound_0 (by decide) ?_
  refine x_istore_n (lst' := [(3, .inl (0 : Int32)), (0, .inr (some a0)), (1, .inl x1), (2, .inl x2)]) X dX7_hasFound_1 hl rfl (by decide) rfl (fun ls hl => ?_)
  refine lv_iconst (v := (0 : Int32)) hx hb dX7_hasFound_2 (by decide) ?_
  refine x_istore (lst' := [(4, .inl (0 : Int32)), (3, .inl (0 : Int32)), (0, .inr (some a0)), (1, .inl x1), (2, .inl x2)]) X dX7_hasFound_3 hl (by decide) rfl (fun ls hl => ?_)
  refine bX7_hasFound_5 X hr (fun G H locs ls x3 V hl hp => ?_) _ _ _ _ _ _ _ _ _ V (lx_sub hl [2, 3, 4, 1, 0] rfl) hp
  refine x_iload_n X dX7_hasFound_48 hl 1 rfl rfl ?_
  obtain ⟨hz, hp⟩ := q_bit_of hp
  exact q_zret X V hr hz ⟨by decide, by decide⟩ dX7_hasFound_49 hp
theorem cX7_hasFound (l : Launch) (E : mm_E) {N a0 : Nat} {G : mm_M} {x1 : Int32} {x2 : Int32} {res : mm_M × Int32} (hp : pX7_hasFound_0 N a0 G x1 x2 = some res) : Met l yX7_hasFound (Cond.code yX7_hasFound prog_9_method_20_code 5 (Option.some .boolean) :: tw_T) rX7_hasFound (mm_Pc E G [.ref a0, .int x1, .int x2]) (mm_Qi E res.1 res.2) 0 0 (mm_A E) :=
  mm_met (own := "XorOverlayModel") E G [.inr (some a0), .inl x1, .inl x2] (by decide) rfl rfl (Nat.le_of_ble_eq_true rfl) (fun p e s m args below meth c ls X hr hi V hl => bX7_hasFound_0 X hr V hl hp)
