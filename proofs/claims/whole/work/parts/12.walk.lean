abbrev yX3_addCandidate : MethodName := ⟨"XorOverlay$Lookup", "addCandidate", "(I)V"⟩
abbrev rX3_addCandidate : Room := { frames := 1, cells := 0, slots := 0, locals := 22 }
theorem kX3_addCandidate : Cond.code yX3_addCandidate prog_5_method_7_code 3 none ∈ tw_T ∧ Cond.instanceMethod yX3_addCandidate ∈ tw_T ∧ Cond.selects "XorOverlay$Lookup" yX3_addCandidate yX3_addCandidate ∈ tw_T ∧ Cond.initialized "XorOverlay$Lookup" ∈ tw_T := ⟨(tw_2 72 rfl rfl), (tw_2 70 rfl rfl), (tw_2 71 rfl rfl), (tw_1 7 rfl rfl)⟩
theorem hX3_addCandidate : yX3_addCandidate.cls = "XorOverlay$Lookup" ∧ yX3_addCandidate.cls ≠ "java/lang/invoke/MethodHandle" ∧ yX3_addCandidate.cls ≠ "java/lang/invoke/VarHandle" ∧ (parseMethodDescriptor yX3_addCandidate.desc).map (fun d => d.parameters.length) = some 1 := by decide +kernel
theorem dX3_addCandidate_0 : decode prog_5_method_7_code 0 = .ok (.iload_n 1, 1) := by decide +kernel
theorem dX3_addCandidate_1 : decode prog_5_method_7_code 1 = .ok (.iconst (-1), 1) := by decide +kernel
theorem dX3_addCandidate_2 : decode prog_5_method_7_code 2 = .ok (.if_icmp .eq 21, 3) := by decide +kernel
theorem dX3_addCandidate_5 : decode prog_5_method_7_code 5 = .ok (.aload_n 0, 1) := by decide +kernel
theorem dX3_addCandidate_6 : decode prog_5_method_7_code 6 = .ok (.getfield 31, 3) := by decide +kernel
theorem dX3_addCandidate_9 : decode prog_5_method_7_code 9 = .ok (.bipush 12, 2) := by decide +kernel
theorem dX3_addCandidate_11 : decode prog_5_method_7_code 11 = .ok (.if_icmp .ge 12, 3) := by decide +kernel
theorem dX3_addCandidate_14 : decode prog_5_method_7_code 14 = .ok (.aload_n 0, 1) := by decide +kernel
theorem dX3_addCandidate_15 : decode prog_5_method_7_code 15 = .ok (.iload_n 1, 1) := by decide +kernel
theorem dX3_addCandidate_16 : decode prog_5_method_7_code 16 = .ok (.invokevirtual 49, 3) := by decide +kernel
theorem dX3_addCandidate_19 : decode prog_5_method_7_code 19 = .ok (.iconst (-1), 1) := by decide +kernel
theorem dX3_addCandidate_20 : decode prog_5_method_7_code 20 = .ok (.if_icmp .eq 4, 3) := by decide +kernel
theorem dX3_addCandidate_23 : decode prog_5_method_7_code 23 = .ok (.return_, 1) := by decide +kernel
theorem dX3_addCandidate_24 : decode prog_5_method_7_code 24 = .ok (.aload_n 0, 1) := by decide +kernel
theorem dX3_addCandidate_25 : decode prog_5_method_7_code 25 = .ok (.getfield 31, 3) := by decide +kernel
theorem dX3_addCandidate_28 : decode prog_5_method_7_code 28 = .ok (.istore_n 2, 1) := by decide +kernel
theorem dX3_addCandidate_29 : decode prog_5_method_7_code 29 = .ok (.iload_n 2, 1) := by decide +kernel
theorem dX3_addCandidate_30 : decode prog_5_method_7_code 30 = .ok (.ifCond .le 87, 3) := by decide +kernel
theorem dX3_addCandidate_33 : decode prog_5_method_7_code 33 = .ok (.aload_n 0, 1) := by decide +kernel
theorem dX3_addCandidate_34 : decode prog_5_method_7_code 34 = .ok (.getfield 9, 3) := by decide +kernel
theorem dX3_addCandidate_37 : decode prog_5_method_7_code 37 = .ok (.iload_n 2, 1) := by decide +kernel
theorem dX3_addCandidate_38 : decode prog_5_method_7_code 38 = .ok (.iconst 1, 1) := by decide +kernel
theorem dX3_addCandidate_39 : decode prog_5_method_7_code 39 = .ok (.isub, 1) := by decide +kernel
theorem dX3_addCandidate_40 : decode prog_5_method_7_code 40 = .ok (.iaload, 1) := by decide +kernel
theorem dX3_addCandidate_41 : decode prog_5_method_7_code 41 = .ok (.aload_n 0, 1) := by decide +kernel
theorem dX3_addCandidate_42 : decode prog_5_method_7_code 42 = .ok (.getfield 43, 3) := by decide +kernel
theorem dX3_addCandidate_45 : decode prog_5_method_7_code 45 = .ok (.ixor, 1) := by decide +kernel
theorem dX3_addCandidate_46 : decode prog_5_method_7_code 46 = .ok (.iload_n 1, 1) := by decide +kernel
theorem dX3_addCandidate_47 : decode prog_5_method_7_code 47 = .ok (.aload_n 0, 1) := by decide +kernel
theorem dX3_addCandidate_48 : decode prog_5_method_7_code 48 = .ok (.getfield 43, 3) := by decide +kernel
theorem dX3_addCandidate_51 : decode prog_5_method_7_code 51 = .ok (.ixor, 1) := by decide +kernel
theorem dX3_addCandidate_52 : decode prog_5_method_7_code 52 = .ok (.if_icmp .le 65, 3) := by decide +kernel
theorem dX3_addCandidate_55 : decode prog_5_method_7_code 55 = .ok (.aload_n 0, 1) := by decide +kernel
theorem dX3_addCandidate_56 : decode prog_5_method_7_code 56 = .ok (.getfield 9, 3) := by decide +kernel
theorem dX3_addCandidate_59 : decode prog_5_method_7_code 59 = .ok (.iload_n 2, 1) := by decide +kernel
theorem dX3_addCandidate_60 : decode prog_5_method_7_code 60 = .ok (.aload_n 0, 1) := by decide +kernel
theorem dX3_addCandidate_61 : decode prog_5_method_7_code 61 = .ok (.getfield 9, 3) := by decide +kernel
theorem dX3_addCandidate_64 : decode prog_5_method_7_code 64 = .ok (.iload_n 2, 1) := by decide +kernel
theorem dX3_addCandidate_65 : decode prog_5_method_7_code 65 = .ok (.iconst 1, 1) := by decide +kernel
theorem dX3_addCandidate_66 : decode prog_5_method_7_code 66 = .ok (.isub, 1) := by decide +kernel
theorem dX3_addCandidate_67 : decode prog_5_method_7_code 67 = .ok (.iaload, 1) := by decide +kernel
theorem dX3_addCandidate_68 : decode prog_5_method_7_code 68 = .ok (.iastore, 1) := by decide +kernel
theorem dX3_addCandidate_69 : decode prog_5_method_7_code 69 = .ok (.aload_n 0, 1) := by decide +kernel
theorem dX3_addCandidate_70 : decode prog_5_method_7_code 70 = .ok (.getfield 15, 3) := by decide +kernel
theorem dX3_addCandidate_73 : decode prog_5_method_7_code 73 = .ok (.iload_n 2, 1) := by decide +kernel
theorem dX3_addCandidate_74 : decode prog_5_method_7_code 74 = .ok (.aload_n 0, 1) := by decide +kernel
theorem dX3_addCandidate_75 : decode prog_5_method_7_code 75 = .ok (.getfield 15, 3) := by decide +kernel
theorem dX3_addCandidate_78 : decode prog_5_method_7_code 78 = .ok (.iload_n 2, 1) := by decide +kernel
theorem dX3_addCandidate_79 : decode prog_5_method_7_code 79 = .ok (.iconst 1, 1) := by decide +kernel
theorem dX3_addCandidate_80 : decode prog_5_method_7_code 80 = .ok (.isub, 1) := by decide +kernel
theorem dX3_addCandidate_81 : decode prog_5_method_7_code 81 = .ok (.iaload, 1) := by decide +kernel
theorem dX3_addCandidate_82 : decode prog_5_method_7_code 82 = .ok (.iastore, 1) := by decide +kernel
theorem dX3_addCandidate_83 : decode prog_5_method_7_code 83 = .ok (.aload_n 0, 1) := by decide +kernel
theorem dX3_addCandidate_84 : decode prog_5_method_7_code 84 = .ok (.getfield 18, 3) := by decide +kernel
theorem dX3_addCandidate_87 : decode prog_5_method_7_code 87 = .ok (.iload_n 2, 1) := by decide +kernel
theorem dX3_addCandidate_88 : decode prog_5_method_7_code 88 = .ok (.aload_n 0, 1) := by decide +kernel
theorem dX3_addCandidate_89 : decode prog_5_method_7_code 89 = .ok (.getfield 18, 3) := by decide +kernel
theorem dX3_addCandidate_92 : decode prog_5_method_7_code 92 = .ok (.iload_n 2, 1) := by decide +kernel
theorem dX3_addCandidate_93 : decode prog_5_method_7_code 93 = .ok (.iconst 1, 1) := by decide +kernel
theorem dX3_addCandidate_94 : decode prog_5_method_7_code 94 = .ok (.isub, 1) := by decide +kernel
theorem dX3_addCandidate_95 : decode prog_5_method_7_code 95 = .ok (.iaload, 1) := by decide +kernel
theorem dX3_addCandidate_96 : decode prog_5_method_7_code 96 = .ok (.iastore, 1) := by decide +kernel
theorem dX3_addCandidate_97 : decode prog_5_method_7_code 97 = .ok (.aload_n 0, 1) := by decide +kernel
theorem dX3_addCandidate_98 : decode prog_5_method_7_code 98 = .ok (.getfield 21, 3) := by decide +kernel
theorem dX3_addCandidate_101 : decode prog_5_method_7_code 101 = .ok (.iload_n 2, 1) := by decide +kernel
theorem dX3_addCandidate_102 : decode prog_5_method_7_code 102 = .ok (.aload_n 0, 1) := by decide +kernel
theorem dX3_addCandidate_103 : decode prog_5_method_7_code 103 = .ok (.getfield 21, 3) := by decide +kernel
theorem dX3_addCandidate_106 : decode prog_5_method_7_code 106 = .ok (.iload_n 2, 1) := by decide +kernel
theorem dX3_addCandidate_107 : decode prog_5_method_7_code 107 = .ok (.iconst 1, 1) := by decide +kernel
theorem dX3_addCandidate_108 : decode prog_5_method_7_code 108 = .ok (.isub, 1) := by decide +kernel
theorem dX3_addCandidate_109 : decode prog_5_method_7_code 109 = .ok (.iaload, 1) := by decide +kernel
theorem dX3_addCandidate_110 : decode prog_5_method_7_code 110 = .ok (.iastore, 1) := by decide +kernel
theorem dX3_addCandidate_111 : decode prog_5_method_7_code 111 = .ok (.iinc 2 (-1), 3) := by decide +kernel
theorem dX3_addCandidate_114 : decode prog_5_method_7_code 114 = .ok (.goto (-85), 3) := by decide +kernel
theorem dX3_addCandidate_117 : decode prog_5_method_7_code 117 = .ok (.aload_n 0, 1) := by decide +kernel
theorem dX3_addCandidate_118 : decode prog_5_method_7_code 118 = .ok (.getfield 9, 3) := by decide +kernel
theorem dX3_addCandidate_121 : decode prog_5_method_7_code 121 = .ok (.iload_n 2, 1) := by decide +kernel
theorem dX3_addCandidate_122 : decode prog_5_method_7_code 122 = .ok (.iload_n 1, 1) := by decide +kernel
theorem dX3_addCandidate_123 : decode prog_5_method_7_code 123 = .ok (.iastore, 1) := by decide +kernel
theorem dX3_addCandidate_124 : decode prog_5_method_7_code 124 = .ok (.aload_n 0, 1) := by decide +kernel
theorem dX3_addCandidate_125 : decode prog_5_method_7_code 125 = .ok (.getfield 15, 3) := by decide +kernel
theorem dX3_addCandidate_128 : decode prog_5_method_7_code 128 = .ok (.iload_n 2, 1) := by decide +kernel
theorem dX3_addCandidate_129 : decode prog_5_method_7_code 129 = .ok (.iconst 0, 1) := by decide +kernel
theorem dX3_addCandidate_130 : decode prog_5_method_7_code 130 = .ok (.iastore, 1) := by decide +kernel
theorem dX3_addCandidate_131 : decode prog_5_method_7_code 131 = .ok (.aload_n 0, 1) := by decide +kernel
theorem dX3_addCandidate_132 : decode prog_5_method_7_code 132 = .ok (.getfield 18, 3) := by decide +kernel
theorem dX3_addCandidate_135 : decode prog_5_method_7_code 135 = .ok (.iload_n 2, 1) := by decide +kernel
theorem dX3_addCandidate_136 : decode prog_5_method_7_code 136 = .ok (.iconst (-1), 1) := by decide +kernel
theorem dX3_addCandidate_137 : decode prog_5_method_7_code 137 = .ok (.iastore, 1) := by decide +kernel
theorem dX3_addCandidate_138 : decode prog_5_method_7_code 138 = .ok (.aload_n 0, 1) := by decide +kernel
theorem dX3_addCandidate_139 : decode prog_5_method_7_code 139 = .ok (.getfield 21, 3) := by decide +kernel
theorem dX3_addCandidate_142 : decode prog_5_method_7_code 142 = .ok (.iload_n 2, 1) := by decide +kernel
theorem dX3_addCandidate_143 : decode prog_5_method_7_code 143 = .ok (.iconst (-1), 1) := by decide +kernel
theorem dX3_addCandidate_144 : decode prog_5_method_7_code 144 = .ok (.iastore, 1) := by decide +kernel
theorem dX3_addCandidate_145 : decode prog_5_method_7_code 145 = .ok (.aload_n 0, 1) := by decide +kernel
theorem dX3_addCandidate_146 : decode prog_5_method_7_code 146 = .ok (.dup, 1) := by decide +kernel
theorem dX3_addCandidate_147 : decode prog_5_method_7_code 147 = .ok (.getfield 31, 3) := by decide +kernel
theorem dX3_addCandidate_150 : decode prog_5_method_7_code 150 = .ok (.iconst 1, 1) := by decide +kernel
theorem dX3_addCandidate_151 : decode prog_5_method_7_code 151 = .ok (.iadd, 1) := by decide +kernel
theorem dX3_addCandidate_152 : decode prog_5_method_7_code 152 = .ok (.putfield 31, 3) := by decide +kernel
theorem dX3_addCandidate_155 : decode prog_5_method_7_code 155 = .ok (.return_, 1) := by decide +kernel
def pX3_addCandidate_29_b (N a0 : Nat) (kb : mm_M → Int32 → Int32 → Option (mm_M × Unit)) (kx : mm_M → Int32 → Int32 → Option (mm_M × Unit)) (G : mm_M) (x1 : Int32) (x2 : Int32) : Option (mm_M × Unit) :=
  if x2 ≤ 0 then
    kx G x1 x2
  else
    q_gR G a0 4 0 fun r34_5 =>
    q_nn r34_5 fun b40_6 =>
    q_aI G b40_6 101 (x2 - (1 : Int32)) fun v40_7 =>
    q_gI G a0 4 7 fun v42_8 =>
    q_gI G a0 4 7 fun v48_9 =>
    if (v40_7 ^^^ v42_8) ≤ (x1 ^^^ v48_9) then
      kx G x1 x2
    else
      q_gR G a0 4 0 fun r56_10 =>
      q_gR G a0 4 0 fun r61_11 =>
      q_nn r61_11 fun b67_12 =>
      q_aI G b67_12 101 (x2 - (1 : Int32)) fun v67_13 =>
      q_nn r56_10 fun b68_14 =>
      q_sI G b68_14 101 x2 v67_13 fun G =>
      q_gR G a0 4 1 fun r70_15 =>
      q_gR G a0 4 1 fun r75_16 =>
      q_nn r75_16 fun b81_17 =>
      q_aI G b81_17 101 (x2 - (1 : Int32)) fun v81_18 =>
      q_nn r70_15 fun b82_19 =>
      q_sI G b82_19 101 x2 v81_18 fun G =>
      q_gR G a0 4 2 fun r84_20 =>
      q_gR G a0 4 2 fun r89_21 =>
      q_nn r89_21 fun b95_22 =>
      q_aI G b95_22 101 (x2 - (1 : Int32)) fun v95_23 =>
      q_nn r84_20 fun b96_24 =>
      q_sI G b96_24 101 x2 v95_23 fun G =>
      q_gR G a0 4 3 fun r98_25 =>
      q_gR G a0 4 3 fun r103_26 =>
      q_nn r103_26 fun b109_27 =>
      q_aI G b109_27 101 (x2 - (1 : Int32)) fun v109_28 =>
      q_nn r98_25 fun b110_29 =>
      q_sI G b110_29 101 x2 v109_28 fun G =>
      kb G x1 (x2 + (-1 : Int32))
def pX3_addCandidate_29 (N a0 : Nat) (kx : mm_M → Int32 → Int32 → Option (mm_M × Unit)) : Nat → mm_M → Int32 → Int32 → Option (mm_M × Unit)
  | 0 => fun _ _ _ => none
  | n + 1 => pX3_addCandidate_29_b N a0 (pX3_addCandidate_29 N a0 kx n) kx
set_option maxRecDepth 100000 in
set_option maxHeartbeats 4000000 in
theorem bX3_addCandidate_29 {p : Program} {l : Launch} {e : Env} {s : State} {m : MethodId} {args : Array Value} {below : List Frame} {meth : Method} {c : Code} {E : mm_E} {N a0 : Nat} {res : mm_M × Unit} (X : mm_X p s m args meth c prog_5_method_7_code 3 "XorOverlay$Lookup" tw_T E) (hr : meth.sig.returnType = none) {kx : mm_M → Int32 → Int32 → Option (mm_M × Unit)} (hkx : ∀ (G : mm_M) (H : Heap) (locs : List Loc) (ls : Array Slot) (x1 : Int32) (x2 : Int32), mm_V E s G H locs → lx_has ls 3 [(0, .inr (some a0)), (1, .inl x1), (2, .inl x2)] → kx G x1 x2 = some res → W p l e rX3_addCandidate s m args below meth c H locs 0 0 (MQ below (mm_Qv E res.1) args s 0 0 (mm_A E)) (F0 m 117 ls [])) :
    ∀ (n : Nat) (G : mm_M) (H : Heap) (locs : List Loc) (ls : Array Slot) (x1 : Int32) (x2 : Int32), mm_V E s G H locs → lx_has ls 3 [(0, .inr (some a0)), (1, .inl x1), (2, .inl x2)] → pX3_addCandidate_29 N a0 kx n G x1 x2 = some res → W p l e rX3_addCandidate s m args below meth c H locs 0 0 (MQ below (mm_Qv E res.1) args s 0 0 (mm_A E)) (F0 m 29 ls []) := by
  have hx := X.1.1
  have hb := X.1.2.1
  intro n
  induction n with
  | zero =>
    intro G H locs ls x1 x2 V hl hp
    cases hp
  | succ n ih =>
    intro G H locs ls x1 x2 V hl hp
    have hp : pX3_addCandidate_29_b N a0 (pX3_addCandidate_29 N a0 kx n) kx G x1 x2 = some res := hp
    unfold pX3_addCandidate_29_b at hp
    refine x_iload_n X dX3_addCandidate_29 hl 2 rfl rfl ?_
    refine q_if hp (lv_if_le (tgt := 117) hx hb dX3_addCandidate_30 (by decide)) (fun hp => ?_) (fun hp => ?_)
    · exact hkx _ _ _ _ _ _ V (lx_sub hl [0, 1, 2] rfl) hp
    · refine x_aload_n X dX3_addCandidate_33 hl 0 rfl rfl ?_
      refine q_getR (ci := 3) X V inX3 rfl (by decide) rfl 0 (by decide) rfl (tw_1 143 rfl rfl) rfl dX3_addCandidate_34 hp (fun r34_5 hp => ?_)
      refine x_iload_n X dX3_addCandidate_37 hl 2 rfl rfl ?_
      refine lv_iconst (v := (1 : Int32)) hx hb dX3_addCandidate_38 (by decide) ?_
      refine lv_isub hx hb dX3_addCandidate_39 ?_
      obtain ⟨b40_6, e0, hp2⟩ := q_nn_of hp
      clear hp; subst e0; have hp := hp2; clear hp2
      refine q_iald X V dX3_addCandidate_40 hp (fun v40_7 hp => ?_)
      refine x_aload_n X dX3_addCandidate_41 hl 0 rfl rfl ?_
      refine q_getI (ci := 3) X V inX3 rfl (by decide) rfl 7 (by decide) rfl (tw_1 157 rfl rfl) rfl dX3_addCandidate_42 hp (fun v42_8 hp => ?_)
      refine lv_ixor hx hb dX3_addCandidate_45 ?_
      refine x_iload_n X dX3_addCandidate_46 hl 1 rfl rfl ?_
      refine x_aload_n X dX3_addCandidate_47 hl 0 rfl rfl ?_
      refine q_getI (ci := 3) X V inX3 rfl (by decide) rfl 7 (by decide) rfl (tw_1 157 rfl rfl) rfl dX3_addCandidate_48 hp (fun v48_9 hp => ?_)
      refine lv_ixor hx hb dX3_addCandidate_51 ?_
      refine q_if hp (lv_icmp_le (tgt := 117) hx hb dX3_addCandidate_52 (by decide)) (fun hp => ?_) (fun hp => ?_)
      · exact hkx _ _ _ _ _ _ V (lx_sub hl [0, 1, 2] rfl) hp
      · refine x_aload_n X dX3_addCandidate_55 hl 0 rfl rfl ?_
        refine q_getR (ci := 3) X V inX3 rfl (by decide) rfl 0 (by decide) rfl (tw_1 143 rfl rfl) rfl dX3_addCandidate_56 hp (fun r56_10 hp => ?_)
        refine x_iload_n X dX3_addCandidate_59 hl 2 rfl rfl ?_
        refine x_aload_n X dX3_addCandidate_60 hl 0 rfl rfl ?_
        refine q_getR (ci := 3) X V inX3 rfl (by decide) rfl 0 (by decide) rfl (tw_1 143 rfl rfl) rfl dX3_addCandidate_61 hp (fun r61_11 hp => ?_)
        refine x_iload_n X dX3_addCandidate_64 hl 2 rfl rfl ?_
        refine lv_iconst (v := (1 : Int32)) hx hb dX3_addCandidate_65 (by decide) ?_
        refine lv_isub hx hb dX3_addCandidate_66 ?_
        obtain ⟨b67_12, e0, hp2⟩ := q_nn_of hp
        clear hp; subst e0; have hp := hp2; clear hp2
        refine q_iald X V dX3_addCandidate_67 hp (fun v67_13 hp => ?_)
        obtain ⟨b68_14, e0, hp2⟩ := q_nn_of hp
        clear hp; subst e0; have hp := hp2; clear hp2
        refine q_iast X V dX3_addCandidate_68 hp (fun G H locs V hp => ?_)
        refine x_aload_n X dX3_addCandidate_69 hl 0 rfl rfl ?_
        refine q_getR (ci := 3) X V inX3 rfl (by decide) rfl 1 (by decide) rfl (tw_1 145 rfl rfl) rfl dX3_addCandidate_70 hp (fun r70_15 hp => ?_)
        refine x_iload_n X dX3_addCandidate_73 hl 2 rfl rfl ?_
        refine x_aload_n X dX3_addCandidate_74 hl 0 rfl rfl ?_
        refine q_getR (ci := 3) X V inX3 rfl (by decide) rfl 1 (by decide) rfl (tw_1 145 rfl rfl) rfl dX3_addCandidate_75 hp (fun r75_16 hp => ?_)
        refine x_iload_n X dX3_addCandidate_78 hl 2 rfl rfl ?_
        refine lv_iconst (v := (1 : Int32)) hx hb dX3_addCandidate_79 (by decide) ?_
        refine lv_isub hx hb dX3_addCandidate_80 ?_
        obtain ⟨b81_17, e0, hp2⟩ := q_nn_of hp
        clear hp; subst e0; have hp := hp2; clear hp2
        refine q_iald X V dX3_addCandidate_81 hp (fun v81_18 hp => ?_)
        obtain ⟨b82_19, e0, hp2⟩ := q_nn_of hp
        clear hp; subst e0; have hp := hp2; clear hp2
        refine q_iast X V dX3_addCandidate_82 hp (fun G H locs V hp => ?_)
        refine x_aload_n X dX3_addCandidate_83 hl 0 rfl rfl ?_
        refine q_getR (ci := 3) X V inX3 rfl (by decide) rfl 2 (by decide) rfl (tw_1 147 rfl rfl) rfl dX3_addCandidate_84 hp (fun r84_20 hp => ?_)
        refine x_iload_n X dX3_addCandidate_87 hl 2 rfl rfl ?_
        refine x_aload_n X dX3_addCandidate_88 hl 0 rfl rfl ?_
        refine q_getR (ci := 3) X V inX3 rfl (by decide) rfl 2 (by decide) rfl (tw_1 147 rfl rfl) rfl dX3_addCandidate_89 hp (fun r89_21 hp => ?_)
        refine x_iload_n X dX3_addCandidate_92 hl 2 rfl rfl ?_
        refine lv_iconst (v := (1 : Int32)) hx hb dX3_addCandidate_93 (by decide) ?_
        refine lv_isub hx hb dX3_addCandidate_94 ?_
        obtain ⟨b95_22, e0, hp2⟩ := q_nn_of hp
        clear hp; subst e0; have hp := hp2; clear hp2
        refine q_iald X V dX3_addCandidate_95 hp (fun v95_23 hp => ?_)
        obtain ⟨b96_24, e0, hp2⟩ := q_nn_of hp
        clear hp; subst e0; have hp := hp2; clear hp2
        refine q_iast X V dX3_addCandidate_96 hp (fun G H locs V hp => ?_)
        refine x_aload_n X dX3_addCandidate_97 hl 0 rfl rfl ?_
        refine q_getR (ci := 3) X V inX3 rfl (by decide) rfl 3 (by decide) rfl (tw_1 149 rfl rfl) rfl dX3_addCandidate_98 hp (fun r98_25 hp => ?_)
        refine x_iload_n X dX3_addCandidate_101 hl 2 rfl rfl ?_
        refine x_aload_n X dX3_addCandidate_102 hl 0 rfl rfl ?_
        refine q_getR (ci := 3) X V inX3 rfl (by decide) rfl 3 (by decide) rfl (tw_1 149 rfl rfl) rfl dX3_addCandidate_103 hp (fun r103_26 hp => ?_)
        refine x_iload_n X dX3_addCandidate_106 hl 2 rfl rfl ?_
        refine lv_iconst (v := (1 : Int32)) hx hb dX3_addCandidate_107 (by decide) ?_
        refine lv_isub hx hb dX3_addCandidate_108 ?_
        obtain ⟨b109_27, e0, hp2⟩ := q_nn_of hp
        clear hp; subst e0; have hp := hp2; clear hp2
        refine q_iald X V dX3_addCandidate_109 hp (fun v109_28 hp => ?_)
        obtain ⟨b110_29, e0, hp2⟩ := q_nn_of hp
        clear hp; subst e0; have hp := hp2; clear hp2
        refine q_iast X V dX3_addCandidate_110 hp (fun G H locs V hp => ?_)
        refine x_iinc (v := (-1 : Int32)) (lst' := [(2, .inl (x2 + (-1 : Int32))), (0, .inr (some a0)), (1, .inl x1)]) X dX3_addCandidate_111 hl 2 rfl (by decide) (by decide) rfl (fun ls hl => ?_)
        refine lv_goto (tgt := 29) hx hb dX3_addCandidate_114 (by decide) ?_
        exact ih _ _ _ _ _ _ V (lx_sub hl [1, 2, 0] rfl) hp
def pX3_addCandidate_117 (N a0 : Nat) (G : mm_M) (x1 : Int32) (x2 : Int32) : Option (mm_M × Unit) :=
  q_gR G a0 4 0 fun r118_30 =>
  q_nn r118_30 fun b123_31 =>
  q_sI G b123_31 101 x2 x1 fun G =>
  q_gR G a0 4 1 fun r125_32 =>
  q_nn r125_32 fun b130_33 =>
  q_sI G b130_33 101 x2 (0 : Int32) fun G =>
  q_gR G a0 4 2 fun r132_34 =>
  q_nn r132_34 fun b137_35 =>
  q_sI G b137_35 101 x2 (-1 : Int32) fun G =>
  q_gR G a0 4 3 fun r139_36 =>
  q_nn r139_36 fun b144_37 =>
  q_sI G b144_37 101 x2 (-1 : Int32) fun G =>
  q_gI G a0 4 9 fun v147_38 =>
  q_pI G a0 4 9 (v147_38 + (1 : Int32)) fun G =>
  some (G, ())
set_option maxRecDepth 100000 in
set_option maxHeartbeats 4000000 in
theorem bX3_addCandidate_117 {p : Program} {l : Launch} {e : Env} {s : State} {m : MethodId} {args : Array Value} {below : List Frame} {meth : Method} {c : Code} {E : mm_E} {N a0 : Nat} {res : mm_M × Unit} (X : mm_X p s m args meth c prog_5_method_7_code 3 "XorOverlay$Lookup" tw_T E) (hr : meth.sig.returnType = none) {G : mm_M} {H : Heap} {locs : List Loc} {ls : Array Slot} {x1 : Int32} {x2 : Int32} (V : mm_V E s G H locs) (hl : lx_has ls 3 [(0, .inr (some a0)), (1, .inl x1), (2, .inl x2)]) (hp : pX3_addCandidate_117 N a0 G x1 x2 = some res) : W p l e rX3_addCandidate s m args below meth c H locs 0 0 (MQ below (mm_Qv E res.1) args s 0 0 (mm_A E)) (F0 m 117 ls []) := by
  have hx := X.1.1
  have hb := X.1.2.1
  unfold pX3_addCandidate_117 at hp
  refine x_aload_n X dX3_addCandidate_117 hl 0 rfl rfl ?_
  refine q_getR (ci := 3) X V inX3 rfl (by decide) rfl 0 (by decide) rfl (tw_1 143 rfl rfl) rfl dX3_addCandidate_118 hp (fun r118_30 hp => ?_)
  refine x_iload_n X dX3_addCandidate_121 hl 2 rfl rfl ?_
  refine x_iload_n X dX3_addCandidate_122 hl 1 rfl rfl ?_
  obtain ⟨b123_31, e0, hp2⟩ := q_nn_of hp
  clear hp; subst e0; have hp := hp2; clear hp2
  refine q_iast X V dX3_addCandidate_123 hp (fun G H locs V hp => ?_)
  refine x_aload_n X dX3_addCandidate_124 hl 0 rfl rfl ?_
  refine q_getR (ci := 3) X V inX3 rfl (by decide) rfl 1 (by decide) rfl (tw_1 145 rfl rfl) rfl dX3_addCandidate_125 hp (fun r125_32 hp => ?_)
  refine x_iload_n X dX3_addCandidate_128 hl 2 rfl rfl ?_
  refine lv_iconst (v := (0 : Int32)) hx hb dX3_addCandidate_129 (by decide) ?_
  obtain ⟨b130_33, e0, hp2⟩ := q_nn_of hp
  clear hp; subst e0; have hp := hp2; clear hp2
  refine q_iast X V dX3_addCandidate_130 hp (fun G H locs V hp => ?_)
  refine x_aload_n X dX3_addCandidate_131 hl 0 rfl rfl ?_
  refine q_getR (ci := 3) X V inX3 rfl (by decide) rfl 2 (by decide) rfl (tw_1 147 rfl rfl) rfl dX3_addCandidate_132 hp (fun r132_34 hp => ?_)
  refine x_iload_n X dX3_addCandidate_135 hl 2 rfl rfl ?_
  refine lv_iconst (v := (-1 : Int32)) hx hb dX3_addCandidate_136 (by decide) ?_
  obtain ⟨b137_35, e0, hp2⟩ := q_nn_of hp
  clear hp; subst e0; have hp := hp2; clear hp2
  refine q_iast X V dX3_addCandidate_137 hp (fun G H locs V hp => ?_)
  refine x_aload_n X dX3_addCandidate_138 hl 0 rfl rfl ?_
  refine q_getR (ci := 3) X V inX3 rfl (by decide) rfl 3 (by decide) rfl (tw_1 149 rfl rfl) rfl dX3_addCandidate_139 hp (fun r139_36 hp => ?_)
  refine x_iload_n X dX3_addCandidate_142 hl 2 rfl rfl ?_
  refine lv_iconst (v := (-1 : Int32)) hx hb dX3_addCandidate_143 (by decide) ?_
  obtain ⟨b144_37, e0, hp2⟩ := q_nn_of hp
  clear hp; subst e0; have hp := hp2; clear hp2
  refine q_iast X V dX3_addCandidate_144 hp (fun G H locs V hp => ?_)
  refine x_aload_n X dX3_addCandidate_145 hl 0 rfl rfl ?_
  refine lv_dup hx hb dX3_addCandidate_146 (va_rf_cat _) ?_
  refine q_getI (ci := 3) X V inX3 rfl (by decide) rfl 9 (by decide) rfl (tw_1 161 rfl rfl) rfl dX3_addCandidate_147 hp (fun v147_38 hp => ?_)
  refine lv_iconst (v := (1 : Int32)) hx hb dX3_addCandidate_150 (by decide) ?_
  refine lv_iadd hx hb dX3_addCandidate_151 ?_
  refine q_putI (ci := 3) X V inX3 rfl tyX3 tyX3_ok nmX3 (by decide) rfl 9 (by decide) rfl (tw_1 161 rfl rfl) rfl (Or.inl rfl) .int rfl rfl rfl dX3_addCandidate_152 hp (fun G H locs V hp => ?_)
  exact q_vret X V hr ⟨by decide, by decide⟩ dX3_addCandidate_155 hp
def pX3_addCandidate_0 (N a0 : Nat) (G : mm_M) (x1 : Int32) : Option (mm_M × Unit) :=
  if x1 = (-1 : Int32) then
    some (G, ())
  else
    q_gI G a0 4 9 fun v6_1 =>
    if (12 : Int32) ≤ v6_1 then
      some (G, ())
    else
      q_is G a0 4 <|
      q_cl (pX3_placeOf_0 N a0 G x1) fun G v16_3 =>
      if v16_3 = (-1 : Int32) then
        q_gI G a0 4 9 fun v25_4 =>
        pX3_addCandidate_29 N a0 (fun (G : mm_M) (x1 : Int32) (x2 : Int32) =>
          pX3_addCandidate_117 N a0 G x1 x2) N G x1 v25_4
      else
        some (G, ())
set_option maxRecDepth 100000 in
set_option maxHeartbeats 4000000 in
theorem bX3_addCandidate_0 {p : Program} {l : Launch} {e : Env} {s : State} {m : MethodId} {args : Array Value} {below : List Frame} {meth : Method} {c : Code} {E : mm_E} {N a0 : Nat} {res : mm_M × Unit} (X : mm_X p s m args meth c prog_5_method_7_code 3 "XorOverlay$Lookup" tw_T E) (hr : meth.sig.returnType = none) {G : mm_M} {H : Heap} {locs : List Loc} {ls : Array Slot} {x1 : Int32} (V : mm_V E s G H locs) (hl : lx_has ls 3 [(0, .inr (some a0)), (1, .inl x1)]) (hp : pX3_addCandidate_0 N a0 G x1 = some res) : W p l e rX3_addCandidate s m args below meth c H locs 0 0 (MQ below (mm_Qv E res.1) args s 0 0 (mm_A E)) (F0 m 0 ls []) := by
  have hx := X.1.1
  have hb := X.1.2.1
  unfold pX3_addCandidate_0 at hp
  refine x_iload_n X dX3_addCandidate_0 hl 1 rfl rfl ?_
  refine lv_iconst (v := (-1 : Int32)) hx hb dX3_addCandidate_1 (by decide) ?_
  refine q_if hp (lv_icmp_eq (tgt := 23) hx hb dX3_addCandidate_2 (by decide)) (fun hp => ?_) (fun hp => ?_)
  · exact q_vret X V hr ⟨by decide, by decide⟩ dX3_addCandidate_23 hp
  · refine x_aload_n X dX3_addCandidate_5 hl 0 rfl rfl ?_
    refine q_getI (ci := 3) X V inX3 rfl (by decide) rfl 9 (by decide) rfl (tw_1 161 rfl rfl) rfl dX3_addCandidate_6 hp (fun v6_1 hp => ?_)
    refine lv_bipush (v := (12 : Int32)) hx hb dX3_addCandidate_9 (by decide) ?_
    refine q_if hp (lv_icmp_ge (tgt := 23) hx hb dX3_addCandidate_11 (by decide)) (fun hp => ?_) (fun hp => ?_)
    · exact q_vret X V hr ⟨by decide, by decide⟩ dX3_addCandidate_23 hp
    · refine x_aload_n X dX3_addCandidate_14 hl 0 rfl rfl ?_
      refine x_iload_n X dX3_addCandidate_15 hl 1 rfl rfl ?_
      obtain ⟨hk, hp⟩ := q_is_of hp
      obtain ⟨⟨G, v16_3⟩, hq, hp⟩ := q_cl_of hp
      dsimp only at hp
      refine q_goi (cells' := 0) (slots' := 0) (va_runV (As := [.int x1]) (rest := []) X.1 (cX3_placeOf l E hq) (tw_cwV 1 X.1.2.2.2.2 (tw_2 73 rfl rfl) kX3_placeOf.2.1 kX3_placeOf.2.2.1 kX3_placeOf.2.2.2 kX3_placeOf.1 rfl rfl hX3_placeOf ⟨Nat.le_of_ble_eq_true rfl, Nat.le_of_ble_eq_true rfl⟩) (mm_preV X V rfl (by decide) rfl hk) rfl rfl hl.1 rfl (lv_room (Nat.le_of_ble_eq_true rfl)) dX3_addCandidate_16 ⟨by decide, by decide⟩) V ⟨rfl, rfl⟩ (fun H locs V => ?_)
      refine lv_iconst (v := (-1 : Int32)) hx hb dX3_addCandidate_19 (by decide) ?_
      refine q_if hp (lv_icmp_eq (tgt := 24) hx hb dX3_addCandidate_20 (by decide)) (fun hp => ?_) (fun hp => ?_)
      · refine x_aload_n X dX3_addCandidate_24 hl 0 rfl rfl ?_
        refine q_getI (ci := 3) X V inX3 rfl (by decide) rfl 9 (by decide) rfl (tw_1 161 rfl rfl) rfl dX3_addCandidate_25 hp (fun v25_4 hp => ?_)
        refine x_istore_n (lst' := [(2, .inl v25_4), (0, .inr (some a0)), (1, .inl x1)]) X dX3_addCandidate_28 hl rfl (by decide) rfl (fun ls hl => ?_)
        refine bX3_addCandidate_29 X hr (fun G H locs ls x1 x2 V hl hp => ?_) _ _ _ _ _ _ _ V (lx_sub hl [1, 2, 0] rfl) hp
        exact bX3_addCandidate_117 X hr V (lx_sub hl [0, 1, 2] rfl) hp
      · exact q_vret X V hr ⟨by decide, by decide⟩ dX3_addCandidate_23 hp
theorem cX3_addCandidate (l : Launch) (E : mm_E) {N a0 : Nat} {G : mm_M} {x1 : Int32} {res : mm_M × Unit} (hp : pX3_addCandidate_0 N a0 G x1 = some res) : Met l yX3_addCandidate (Cond.code yX3_addCandidate prog_5_method_7_code 3 none :: tw_T) rX3_addCandidate (mm_Pc E G [.ref a0, .int x1]) (mm_Qv E res.1) 0 0 (mm_A E) :=
  mm_met (own := "XorOverlay$Lookup") E G [.inr (some a0), .inl x1] (by decide) rfl rfl (Nat.le_of_ble_eq_true rfl) (fun p e s m args below meth c ls X hr hi V hl => bX3_addCandidate_0 X hr V hl hp)
abbrev yX3_askedCount : MethodName := ⟨"XorOverlay$Lookup", "askedCount", "()I"⟩
abbrev rX3_askedCount : Room := { frames := 0, cells := 0, slots := 0, locals := 0 }
theorem kX3_askedCount : Cond.code yX3_askedCount prog_5_method_9_code 3 (Option.some .int) ∈ tw_T ∧ Cond.instanceMethod yX3_askedCount ∈ tw_T ∧ Cond.selects "XorOverlay$Lookup" yX3_askedCount yX3_askedCount ∈ tw_T ∧ Cond.initialized "XorOverlay$Lookup" ∈ tw_T := ⟨(tw_2 88 rfl rfl), (tw_2 86 rfl rfl), (tw_2 87 rfl rfl), (tw_1 7 rfl rfl)⟩
theorem hX3_askedCount : yX3_askedCount.cls = "XorOverlay$Lookup" ∧ yX3_askedCount.cls ≠ "java/lang/invoke/MethodHandle" ∧ yX3_askedCount.cls ≠ "java/lang/invoke/VarHandle" ∧ (parseMethodDescriptor yX3_askedCount.desc).map (fun d => d.parameters.length) = some 0 := by decide +kernel
theorem dX3_askedCount_0 : decode prog_5_method_9_code 0 = .ok (.iconst 0, 1) := by decide +kernel
theorem dX3_askedCount_1 : decode prog_5_method_9_code 1 = .ok (.istore_n 1, 1) := by decide +kernel
theorem dX3_askedCount_2 : decode prog_5_method_9_code 2 = .ok (.iconst 0, 1) := by decide +kernel
theorem dX3_askedCount_3 : decode prog_5_method_9_code 3 = .ok (.istore_n 2, 1) := by decide +kernel
theorem dX3_askedCount_4 : decode prog_5_method_9_code 4 = .ok (.iload_n 2, 1) := by decide +kernel
theorem dX3_askedCount_5 : decode prog_5_method_9_code 5 = .ok (.aload_n 0, 1) := by decide +kernel
theorem dX3_askedCount_6 : decode prog_5_method_9_code 6 = .ok (.getfield 31, 3) := by decide +kernel
theorem dX3_askedCount_9 : decode prog_5_method_9_code 9 = .ok (.if_icmp .ge 22, 3) := by decide +kernel
theorem dX3_askedCount_12 : decode prog_5_method_9_code 12 = .ok (.aload_n 0, 1) := by decide +kernel
theorem dX3_askedCount_13 : decode prog_5_method_9_code 13 = .ok (.getfield 15, 3) := by decide +kernel
theorem dX3_askedCount_16 : decode prog_5_method_9_code 16 = .ok (.iload_n 2, 1) := by decide +kernel
theorem dX3_askedCount_17 : decode prog_5_method_9_code 17 = .ok (.iaload, 1) := by decide +kernel
theorem dX3_askedCount_18 : decode prog_5_method_9_code 18 = .ok (.iconst 1, 1) := by decide +kernel
theorem dX3_askedCount_19 : decode prog_5_method_9_code 19 = .ok (.if_icmp .ne 6, 3) := by decide +kernel
theorem dX3_askedCount_22 : decode prog_5_method_9_code 22 = .ok (.iinc 1 1, 3) := by decide +kernel
theorem dX3_askedCount_25 : decode prog_5_method_9_code 25 = .ok (.iinc 2 1, 3) := by decide +kernel
theorem dX3_askedCount_28 : decode prog_5_method_9_code 28 = .ok (.goto (-24), 3) := by decide +kernel
theorem dX3_askedCount_31 : decode prog_5_method_9_code 31 = .ok (.iload_n 1, 1) := by decide +kernel
theorem dX3_askedCount_32 : decode prog_5_method_9_code 32 = .ok (.ireturn, 1) := by decide +kernel
def pX3_askedCount_4_b (N a0 : Nat) (kb : mm_M → Int32 → Int32 → Option (mm_M × Int32)) (kx : mm_M → Int32 → Option (mm_M × Int32)) (G : mm_M) (x1 : Int32) (x2 : Int32) : Option (mm_M × Int32) :=
  q_gI G a0 4 9 fun v6_1 =>
  if v6_1 ≤ x2 then
    kx G x1
  else
    q_gR G a0 4 1 fun r13_2 =>
    q_nn r13_2 fun b17_3 =>
    q_aI G b17_3 101 x2 fun v17_4 =>
    if v17_4 = (1 : Int32) then
      kb G (x1 + (1 : Int32)) (x2 + (1 : Int32))
    else
      kb G x1 (x2 + (1 : Int32))
def pX3_askedCount_4 (N a0 : Nat) (kx : mm_M → Int32 → Option (mm_M × Int32)) : Nat → mm_M → Int32 → Int32 → Option (mm_M × Int32)
  | 0 => fun _ _ _ => none
  | n + 1 => pX3_askedCount_4_b N a0 (pX3_askedCount_4 N a0 kx n) kx
set_option maxRecDepth 100000 in
set_option maxHeartbeats 4000000 in
theorem bX3_askedCount_4 {p : Program} {l : Launch} {e : Env} {s : State} {m : MethodId} {args : Array Value} {below : List Frame} {meth : Method} {c : Code} {E : mm_E} {N a0 : Nat} {res : mm_M × Int32} (X : mm_X p s m args meth c prog_5_method_9_code 3 "XorOverlay$Lookup" tw_T E) (hr : meth.sig.returnType = (Option.some .int)) {kx : mm_M → Int32 → Option (mm_M × Int32)} (hkx : ∀ (G : mm_M) (H : Heap) (locs : List Loc) (ls : Array Slot) (x1 : Int32), mm_V E s G H locs → lx_has ls 3 [(0, .inr (some a0)), (1, .inl x1)] → kx G x1 = some res → W p l e rX3_askedCount s m args below meth c H locs 0 0 (MQ below (mm_Qi E res.1 res.2) args s 0 0 (mm_A E)) (F0 m 31 ls [])) :
    ∀ (n : Nat) (G : mm_M) (H : Heap) (locs : List Loc) (ls : Array Slot) (x1 : Int32) (x2 : Int32), mm_V E s G H locs → lx_has ls 3 [(0, .inr (some a0)), (1, .inl x1), (2, .inl x2)] → pX3_askedCount_4 N a0 kx n G x1 x2 = some res → W p l e rX3_askedCount s m args below meth c H locs 0 0 (MQ below (mm_Qi E res.1 res.2) args s 0 0 (mm_A E)) (F0 m 4 ls []) := by
  have hx := X.1.1
  have hb := X.1.2.1
  intro n
  induction n with
  | zero =>
    intro G H locs ls x1 x2 V hl hp
    cases hp
  | succ n ih =>
    intro G H locs ls x1 x2 V hl hp
    have hp : pX3_askedCount_4_b N a0 (pX3_askedCount_4 N a0 kx n) kx G x1 x2 = some res := hp
    unfold pX3_askedCount_4_b at hp
    refine x_iload_n X dX3_askedCount_4 hl 2 rfl rfl ?_
    refine x_aload_n X dX3_askedCount_5 hl 0 rfl rfl ?_
    refine q_getI (ci := 3) X V inX3 rfl (by decide) rfl 9 (by decide) rfl (tw_1 161 rfl rfl) rfl dX3_askedCount_6 hp (fun v6_1 hp => ?_)
    refine q_if hp (lv_icmp_ge (tgt := 31) hx hb dX3_askedCount_9 (by decide)) (fun hp => ?_) (fun hp => ?_)
    · exact hkx _ _ _ _ _ V (lx_sub hl [0, 1] rfl) hp
    · refine x_aload_n X dX3_askedCount_12 hl 0 rfl rfl ?_
      refine q_getR (ci := 3) X V inX3 rfl (by decide) rfl 1 (by decide) rfl (tw_1 145 rfl rfl) rfl dX3_askedCount_13 hp (fun r13_2 hp => ?_)
      refine x_iload_n X dX3_askedCount_16 hl 2 rfl rfl ?_
      obtain ⟨b17_3, e0, hp2⟩ := q_nn_of hp
      clear hp; subst e0; have hp := hp2; clear hp2
      refine q_iald X V dX3_askedCount_17 hp (fun v17_4 hp => ?_)
      refine lv_iconst (v := (1 : Int32)) hx hb dX3_askedCount_18 (by decide) ?_
      refine q_ifn hp (lv_icmp_ne (tgt := 25) hx hb dX3_askedCount_19 (by decide)) (fun hp => ?_) (fun hp => ?_)
      · refine x_iinc (v := (1 : Int32)) (lst' := [(2, .inl (x2 + (1 : Int32))), (0, .inr (some a0)), (1, .inl x1)]) X dX3_askedCount_25 hl 2 rfl (by decide) (by decide) rfl (fun ls hl => ?_)
        refine lv_goto (tgt := 4) hx hb dX3_askedCount_28 (by decide) ?_
        exact ih _ _ _ _ _ _ V (lx_sub hl [1, 2, 0] rfl) hp
      · refine x_iinc (v := (1 : Int32)) (lst' := [(1, .inl (x1 + (1 : Int32))), (0, .inr (some a0)), (2, .inl x2)]) X dX3_askedCount_22 hl 1 rfl (by decide) (by decide) rfl (fun ls hl => ?_)
        refine x_iinc (v := (1 : Int32)) (lst' := [(2, .inl (x2 + (1 : Int32))), (1, .inl (x1 + (1 : Int32))), (0, .inr (some a0))]) X dX3_askedCount_25 hl 2 rfl (by decide) (by decide) rfl (fun ls hl => ?_)
        refine lv_goto (tgt := 4) hx hb dX3_askedCount_28 (by decide) ?_
        exact ih _ _ _ _ _ _ V (lx_sub hl [2, 1, 0] rfl) hp
def pX3_askedCount_0 (N a0 : Nat) (G : mm_M) : Option (mm_M × Int32) :=
  pX3_askedCount_4 N a0 (fun (G : mm_M) (x1 : Int32) =>
    some (G, x1)) N G (0 : Int32) (0 : Int32)
set_option maxRecDepth 100000 in
set_option maxHeartbeats 4000000 in
theorem bX3_askedCount_0 {p : Program} {l : Launch} {e : Env} {s : State} {m : MethodId} {args : Array Value} {below : List Frame} {meth : Method} {c : Code} {E : mm_E} {N a0 : Nat} {res : mm_M × Int32} (X : mm_X p s m args meth c prog_5_method_9_code 3 "XorOverlay$Lookup" tw_T E) (hr : meth.sig.returnType = (Option.some .int)) {G : mm_M} {H : Heap} {locs : List Loc} {ls : Array Slot} (V : mm_V E s G H locs) (hl : lx_has ls 3 [(0, .inr (some a0))]) (hp : pX3_askedCount_0 N a0 G = some res) : W p l e rX3_askedCount s m args below meth c H locs 0 0 (MQ below (mm_Qi E res.1 res.2) args s 0 0 (mm_A E)) (F0 m 0 ls []) := by
  have hx := X.1.1
  have hb := X.1.2.1
  unfold pX3_askedCount_0 at hp
  refine lv_iconst (v := (0 : Int32)) hx hb dX3_askedCount_0 (by decide) ?_
  refine x_istore_n (lst' := [(1, .inl (0 : Int32)), (0, .inr (some a0))]) X dX3_askedCount_1 hl rfl (by decide) rfl (fun ls hl => ?_)
  refine lv_iconst (v := (0 : Int32)) hx hb dX3_askedCount_2 (by decide) ?_
  refine x_istore_n (lst' := [(2, .inl (0 : Int32)), (1, .inl (0 : Int32)), (0, .inr (some a0))]) X dX3_askedCount_3 hl rfl (by decide) rfl (fun ls hl => ?_)
  refine bX3_askedCount_4 X hr (fun G H locs ls x1 V hl hp => ?_) _ _ _ _ _ _ _ V (lx_sub hl [2, 1, 0] rfl) hp
  refine x_iload_n X dX3_askedCount_31 hl 1 rfl rfl ?_
  exact q_iret X V hr ⟨by decide, by decide⟩ dX3_askedCount_32 hp
theorem cX3_askedCount (l : Launch) (E : mm_E) {N a0 : Nat} {G : mm_M} {res : mm_M × Int32} (hp : pX3_askedCount_0 N a0 G = some res) : Met l yX3_askedCount (Cond.code yX3_askedCount prog_5_method_9_code 3 (Option.some .int) :: tw_T) rX3_askedCount (mm_Pc E G [.ref a0]) (mm_Qi E res.1 res.2) 0 0 (mm_A E) :=
  mm_met (own := "XorOverlay$Lookup") E G [.inr (some a0)] (by decide) rfl rfl (Nat.le_of_ble_eq_true rfl) (fun p e s m args below meth c ls X hr hi V hl => bX3_askedCount_0 X hr V hl hp)
abbrev yX3_nextToAsk : MethodName := ⟨"XorOverlay$Lookup", "nextToAsk", "()I"⟩
abbrev rX3_nextToAsk : Room := { frames := 1, cells := 0, slots := 0, locals := 22 }
theorem kX3_nextToAsk : Cond.code yX3_nextToAsk prog_5_method_10_code 3 (Option.some .int) ∈ tw_T ∧ Cond.instanceMethod yX3_nextToAsk ∈ tw_T ∧ Cond.selects "XorOverlay$Lookup" yX3_nextToAsk yX3_nextToAsk ∈ tw_T ∧ Cond.initialized "XorOverlay$Lookup" ∈ tw_T := ⟨(tw_2 84 rfl rfl), (tw_2 82 rfl rfl), (tw_2 83 rfl rfl), (tw_1 7 rfl rfl)⟩
theorem hX3_nextToAsk : yX3_nextToAsk.cls = "XorOverlay$Lookup" ∧ yX3_nextToAsk.cls ≠ "java/lang/invoke/MethodHandle" ∧ yX3_nextToAsk.cls ≠ "java/lang/invoke/VarHandle" ∧ (parseMethodDescriptor yX3_nextToAsk.desc).map (fun d => d.parameters.length) = some 0 := by decide +kernel
theorem dX3_nextToAsk_0 : decode prog_5_method_10_code 0 = .ok (.aload_n 0, 1) := by decide +kernel
theorem dX3_nextToAsk_1 : decode prog_5_method_10_code 1 = .ok (.invokevirtual 53, 3) := by decide +kernel
theorem dX3_nextToAsk_4 : decode prog_5_method_10_code 4 = .ok (.iconst 2, 1) := by decide +kernel
theorem dX3_nextToAsk_5 : decode prog_5_method_10_code 5 = .ok (.if_icmp .lt 5, 3) := by decide +kernel
theorem dX3_nextToAsk_8 : decode prog_5_method_10_code 8 = .ok (.iconst (-1), 1) := by decide +kernel
theorem dX3_nextToAsk_9 : decode prog_5_method_10_code 9 = .ok (.ireturn, 1) := by decide +kernel
theorem dX3_nextToAsk_10 : decode prog_5_method_10_code 10 = .ok (.iconst 0, 1) := by decide +kernel
theorem dX3_nextToAsk_11 : decode prog_5_method_10_code 11 = .ok (.istore_n 1, 1) := by decide +kernel
theorem dX3_nextToAsk_12 : decode prog_5_method_10_code 12 = .ok (.iconst 0, 1) := by decide +kernel
theorem dX3_nextToAsk_13 : decode prog_5_method_10_code 13 = .ok (.istore_n 2, 1) := by decide +kernel
theorem dX3_nextToAsk_14 : decode prog_5_method_10_code 14 = .ok (.iload_n 2, 1) := by decide +kernel
theorem dX3_nextToAsk_15 : decode prog_5_method_10_code 15 = .ok (.aload_n 0, 1) := by decide +kernel
theorem dX3_nextToAsk_16 : decode prog_5_method_10_code 16 = .ok (.getfield 31, 3) := by decide +kernel
theorem dX3_nextToAsk_19 : decode prog_5_method_10_code 19 = .ok (.if_icmp .ge 38, 3) := by decide +kernel
theorem dX3_nextToAsk_22 : decode prog_5_method_10_code 22 = .ok (.iload_n 1, 1) := by decide +kernel
theorem dX3_nextToAsk_23 : decode prog_5_method_10_code 23 = .ok (.iconst 3, 1) := by decide +kernel
theorem dX3_nextToAsk_24 : decode prog_5_method_10_code 24 = .ok (.if_icmp .ge 33, 3) := by decide +kernel
theorem dX3_nextToAsk_27 : decode prog_5_method_10_code 27 = .ok (.aload_n 0, 1) := by decide +kernel
theorem dX3_nextToAsk_28 : decode prog_5_method_10_code 28 = .ok (.getfield 15, 3) := by decide +kernel
theorem dX3_nextToAsk_31 : decode prog_5_method_10_code 31 = .ok (.iload_n 2, 1) := by decide +kernel
theorem dX3_nextToAsk_32 : decode prog_5_method_10_code 32 = .ok (.iaload, 1) := by decide +kernel
theorem dX3_nextToAsk_33 : decode prog_5_method_10_code 33 = .ok (.ifCond .ne 5, 3) := by decide +kernel
theorem dX3_nextToAsk_36 : decode prog_5_method_10_code 36 = .ok (.iload_n 2, 1) := by decide +kernel
theorem dX3_nextToAsk_37 : decode prog_5_method_10_code 37 = .ok (.ireturn, 1) := by decide +kernel
theorem dX3_nextToAsk_38 : decode prog_5_method_10_code 38 = .ok (.aload_n 0, 1) := by decide +kernel
theorem dX3_nextToAsk_39 : decode prog_5_method_10_code 39 = .ok (.getfield 15, 3) := by decide +kernel
theorem dX3_nextToAsk_42 : decode prog_5_method_10_code 42 = .ok (.iload_n 2, 1) := by decide +kernel
theorem dX3_nextToAsk_43 : decode prog_5_method_10_code 43 = .ok (.iaload, 1) := by decide +kernel
theorem dX3_nextToAsk_44 : decode prog_5_method_10_code 44 = .ok (.iconst 3, 1) := by decide +kernel
theorem dX3_nextToAsk_45 : decode prog_5_method_10_code 45 = .ok (.if_icmp .eq 6, 3) := by decide +kernel
theorem dX3_nextToAsk_48 : decode prog_5_method_10_code 48 = .ok (.iinc 1 1, 3) := by decide +kernel
theorem dX3_nextToAsk_51 : decode prog_5_method_10_code 51 = .ok (.iinc 2 1, 3) := by decide +kernel
theorem dX3_nextToAsk_54 : decode prog_5_method_10_code 54 = .ok (.goto (-40), 3) := by decide +kernel
theorem dX3_nextToAsk_57 : decode prog_5_method_10_code 57 = .ok (.iconst (-1), 1) := by decide +kernel
theorem dX3_nextToAsk_58 : decode prog_5_method_10_code 58 = .ok (.ireturn, 1) := by decide +kernel
def pX3_nextToAsk_14_b (N a0 : Nat) (kb : mm_M → Int32 → Int32 → Option (mm_M × Int32)) (kx : mm_M → Option (mm_M × Int32)) (G : mm_M) (x1 : Int32) (x2 : Int32) : Option (mm_M × Int32) :=
  q_gI G a0 4 9 fun v16_3 =>
  if v16_3 ≤ x2 then
    kx G
  else
    if (3 : Int32) ≤ x1 then
      kx G
    else
      q_gR G a0 4 1 fun r28_4 =>
      q_nn r28_4 fun b32_5 =>
      q_aI G b32_5 101 x2 fun v32_6 =>
      if v32_6 = 0 then
        some (G, x2)
      else
        q_gR G a0 4 1 fun r39_7 =>
        q_nn r39_7 fun b43_8 =>
        q_aI G b43_8 101 x2 fun v43_9 =>
        if v43_9 = (3 : Int32) then
          kb G x1 (x2 + (1 : Int32))
        else
          kb G (x1 + (1 : Int32)) (x2 + (1 : Int32))
def pX3_nextToAsk_14 (N a0 : Nat) (kx : mm_M → Option (mm_M × Int32)) : Nat → mm_M → Int32 → Int32 → Option (mm_M × Int32)
  | 0 => fun _ _ _ => none
  | n + 1 => pX3_nextToAsk_14_b N a0 (pX3_nextToAsk_14 N a0 kx n) kx
set_option maxRecDepth 100000 in
set_option maxHeartbeats 4000000 in
theorem bX3_nextToAsk_14 {p : Program} {l : Launch} {e : Env} {s : State} {m : MethodId} {args : Array Value} {below : List Frame} {meth : Method} {c : Code} {E : mm_E} {N a0 : Nat} {res : mm_M × Int32} (X : mm_X p s m args meth c prog_5_method_10_code 3 "XorOverlay$Lookup" tw_T E) (hr : meth.sig.returnType = (Option.some .int)) {kx : mm_M → Option (mm_M × Int32)} (hkx : ∀ (G : mm_M) (H : Heap) (locs : List Loc) (ls : Array Slot), mm_V E s G H locs → lx_has ls 3 [(0, .inr (some a0))] → kx G = some res → W p l e rX3_nextToAsk s m args below meth c H locs 0 0 (MQ below (mm_Qi E res.1 res.2) args s 0 0 (mm_A E)) (F0 m 57 ls [])) :
    ∀ (n : Nat) (G : mm_M) (H : Heap) (locs : List Loc) (ls : Array Slot) (x1 : Int32) (x2 : Int32), mm_V E s G H locs → lx_has ls 3 [(0, .inr (some a0)), (1, .inl x1), (2, .inl x2)] → pX3_nextToAsk_14 N a0 kx n G x1 x2 = some res → W p l e rX3_nextToAsk s m args below meth c H locs 0 0 (MQ below (mm_Qi E res.1 res.2) args s 0 0 (mm_A E)) (F0 m 14 ls []) := by
  have hx := X.1.1
  have hb := X.1.2.1
  intro n
  induction n with
  | zero =>
    intro G H locs ls x1 x2 V hl hp
    cases hp
  | succ n ih =>
    intro G H locs ls x1 x2 V hl hp
    have hp : pX3_nextToAsk_14_b N a0 (pX3_nextToAsk_14 N a0 kx n) kx G x1 x2 = some res := hp
    unfold pX3_nextToAsk_14_b at hp
    refine x_iload_n X dX3_nextToAsk_14 hl 2 rfl rfl ?_
    refine x_aload_n X dX3_nextToAsk_15 hl 0 rfl rfl ?_
    refine q_getI (ci := 3) X V inX3 rfl (by decide) rfl 9 (by decide) rfl (tw_1 161 rfl rfl) rfl dX3_nextToAsk_16 hp (fun v16_3 hp => ?_)
    refine q_if hp (lv_icmp_ge (tgt := 57) hx hb dX3_nextToAsk_19 (by decide)) (fun hp => ?_) (fun hp => ?_)
    · exact hkx _ _ _ _ V (lx_sub hl [0] rfl) hp
    · refine x_iload_n X dX3_nextToAsk_22 hl 1 rfl rfl ?_
      refine lv_iconst (v := (3 : Int32)) hx hb dX3_nextToAsk_23 (by decide) ?_
      refine q_if hp (lv_icmp_ge (tgt := 57) hx hb dX3_nextToAsk_24 (by decide)) (fun hp => ?_) (fun hp => ?_)
      · exact hkx _ _ _ _ V (lx_sub hl [0] rfl) hp
      · refine x_aload_n X dX3_nextToAsk_27 hl 0 rfl rfl ?_
        refine q_getR (ci := 3) X V inX3 rfl (by decide) rfl 1 (by decide) rfl (tw_1 145 rfl rfl) rfl dX3_nextToAsk_28 hp (fun r28_4 hp => ?_)
        refine x_iload_n X dX3_nextToAsk_31 hl 2 rfl rfl ?_
        obtain ⟨b32_5, e0, hp2⟩ := q_nn_of hp
        clear hp; subst e0; have hp := hp2; clear hp2
        refine q_iald X V dX3_nextToAsk_32 hp (fun v32_6 hp => ?_)
        refine q_ifn hp (lv_if_ne (tgt := 38) hx hb dX3_nextToAsk_33 (by decide)) (fun hp => ?_) (fun hp => ?_)
        · refine x_aload_n X dX3_nextToAsk_38 hl 0 rfl rfl ?_
          refine q_getR (ci := 3) X V inX3 rfl (by decide) rfl 1 (by decide) rfl (tw_1 145 rfl rfl) rfl dX3_nextToAsk_39 hp (fun r39_7 hp => ?_)
          refine x_iload_n X dX3_nextToAsk_42 hl 2 rfl rfl ?_
          obtain ⟨b43_8, e0, hp2⟩ := q_nn_of hp
          clear hp; subst e0; have hp := hp2; clear hp2
          refine q_iald X V dX3_nextToAsk_43 hp (fun v43_9 hp => ?_)
          refine lv_iconst (v := (3 : Int32)) hx hb dX3_nextToAsk_44 (by decide) ?_
          refine q_if hp (lv_icmp_eq (tgt := 51) hx hb dX3_nextToAsk_45 (by decide)) (fun hp => ?_) (fun hp => ?_)
          · refine x_iinc (v := (1 : Int32)) (lst' := [(2, .inl (x2 + (1 : Int32))), (0, .inr (some a0)), (1, .inl x1)]) X dX3_nextToAsk_51 hl 2 rfl (by decide) (by decide) rfl (fun ls hl => ?_)
            refine lv_goto (tgt := 14) hx hb dX3_nextToAsk_54 (by decide) ?_
            exact ih _ _ _ _ _ _ V (lx_sub hl [1, 2, 0] rfl) hp
          · refine x_iinc (v := (1 : Int32)) (lst' := [(1, .inl (x1 + (1 : Int32))), (0, .inr (some a0)), (2, .inl x2)]) X dX3_nextToAsk_48 hl 1 rfl (by decide) (by decide) rfl (fun ls hl => ?_)
            refine x_iinc (v := (1 : Int32)) (lst' := [(2, .inl (x2 + (1 : Int32))), (1, .inl (x1 + (1 : Int32))), (0, .inr (some a0))]) X dX3_nextToAsk_51 hl 2 rfl (by decide) (by decide) rfl (fun ls hl => ?_)
            refine lv_goto (tgt := 14) hx hb dX3_nextToAsk_54 (by decide) ?_
            exact ih _ _ _ _ _ _ V (lx_sub hl [2, 1, 0] rfl) hp
        · refine x_iload_n X dX3_nextToAsk_36 hl 2 rfl rfl ?_
          exact q_iret X V hr ⟨by decide, by decide⟩ dX3_nextToAsk_37 hp
def pX3_nextToAsk_0 (N a0 : Nat) (G : mm_M) : Option (mm_M × Int32) :=
  q_is G a0 4 <|
  q_cl (pX3_askedCount_0 N a0 G) fun G v1_2 =>
  if v1_2 < (2 : Int32) then
    pX3_nextToAsk_14 N a0 (fun (G : mm_M) =>
      some (G, (-1 : Int32))) N G (0 : Int32) (0 : Int32)
  else
    some (G, (-1 : Int32))
set_option maxRecDepth 100000 in
set_option maxHeartbeats 4000000 in
theorem bX3_nextToAsk_0 {p : Program} {l : Launch} {e : Env} {s : State} {m : MethodId} {args : Array Value} {below : List Frame} {meth : Method} {c : Code} {E : mm_E} {N a0 : Nat} {res : mm_M × Int32} (X : mm_X p s m args meth c prog_5_method_10_code 3 "XorOverlay$Lookup" tw_T E) (hr : meth.sig.returnType = (Option.some .int)) {G : mm_M} {H : Heap} {locs : List Loc} {ls : Array Slot} (V : mm_V E s G H locs) (hl : lx_has ls 3 [(0, .inr (some a0))]) (hp : pX3_nextToAsk_0 N a0 G = some res) : W p l e rX3_nextToAsk s m args below meth c H locs 0 0 (MQ below (mm_Qi E res.1 res.2) args s 0 0 (mm_A E)) (F0 m 0 ls []) := by
  have hx := X.1.1
  have hb := X.1.2.1
  unfold pX3_nextToAsk_0 at hp
  refine x_aload_n X dX3_nextToAsk_0 hl 0 rfl rfl ?_
  obtain ⟨hk, hp⟩ := q_is_of hp
  obtain ⟨⟨G, v1_2⟩, hq, hp⟩ := q_cl_of hp
  dsimp only at hp
  refine q_goi (cells' := 0) (slots' := 0) (va_runV (As := []) (rest := []) X.1 (cX3_askedCount l E hq) (tw_cwV 0 X.1.2.2.2.2 (tw_2 85 rfl rfl) kX3_askedCount.2.1 kX3_askedCount.2.2.1 kX3_askedCount.2.2.2 kX3_askedCount.1 rfl rfl hX3_askedCount ⟨Nat.le_of_ble_eq_true rfl, Nat.le_of_ble_eq_true rfl⟩) (mm_preV X V rfl (by decide) rfl hk) rfl rfl hl.1 rfl (lv_room (Nat.le_of_ble_eq_true rfl)) dX3_nextToAsk_1 ⟨by decide, by decide⟩) V ⟨rfl, rfl⟩ (fun H locs V => ?_)
  refine lv_iconst (v := (2 : Int32)) hx hb dX3_nextToAsk_4 (by decide) ?_
  refine q_if hp (lv_icmp_lt (tgt := 10) hx hb dX3_nextToAsk_5 (by decide)) (fun hp => ?_) (fun hp => ?_)
  · refine lv_iconst (v := (0 : Int32)) hx hb dX3_nextToAsk_10 (by decide) ?_
    refine x_istore_n (lst' := [(1, .inl (0 : Int32)), (0, .inr (some a0))]) X dX3_nextToAsk_11 hl rfl (by decide) rfl (fun ls hl => ?_)
    refine lv_iconst (v := (0 : Int32)) hx hb dX3_nextToAsk_12 (by decide) ?_
    refine x_istore_n (lst' := [(2, .inl (0 : Int32)), (1, .inl (0 : Int32)), (0, .inr (some a0))]) X dX3_nextToAsk_13 hl rfl (by decide) rfl (fun ls hl => ?_)
    refine bX3_nextToAsk_14 X hr (fun G H locs ls V hl hp => ?_) _ _ _ _ _ _ _ V (lx_sub hl [2, 1, 0] rfl) hp
    refine lv_iconst (v := (-1 : Int32)) hx hb dX3_nextToAsk_57 (by decide) ?_
    exact q_iret X V hr ⟨by decide, by decide⟩ dX3_nextToAsk_58 hp
  · refine lv_iconst (v := (-1 : Int32)) hx hb dX3_nextToAsk_8 (by decide) ?_
    exact q_iret X V hr ⟨by decide, by decide⟩ dX3_nextToAsk_9 hp
theorem cX3_nextToAsk (l : Launch) (E : mm_E) {N a0 : Nat} {G : mm_M} {res : mm_M × Int32} (hp : pX3_nextToAsk_0 N a0 G = some res) : Met l yX3_nextToAsk (Cond.code yX3_nextToAsk prog_5_method_10_code 3 (Option.some .int) :: tw_T) rX3_nextToAsk (mm_Pc E G [.ref a0]) (mm_Qi E res.1 res.2) 0 0 (mm_A E) :=
  mm_met (own := "XorOverlay$Lookup") E G [.inr (some a0)] (by decide) rfl rfl (Nat.le_of_ble_eq_true rfl) (fun p e s m args below meth c ls X hr hi V hl => bX3_nextToAsk_0 X hr V hl hp)
abbrev yJ7_fill : MethodName := ⟨"java/util/Arrays", "fill", "([II)V"⟩
abbrev rJ7_fill : Room := { frames := 0, cells := 0, slots := 0, locals := 0 }
theorem kJ7_fill : Cond.code yJ7_fill prog_11_method_103_code 4 none ∈ tw_T ∧ Cond.static yJ7_fill ∈ tw_T ∧ Cond.initialized "java/util/Arrays" ∈ tw_T := ⟨(tw_2 99 rfl rfl), (tw_2 98 rfl rfl), (tw_1 9 rfl rfl)⟩
theorem hJ7_fill : yJ7_fill.cls = "java/util/Arrays" ∧ yJ7_fill.cls ≠ "java/lang/invoke/MethodHandle" ∧ yJ7_fill.cls ≠ "java/lang/invoke/VarHandle" ∧ (parseMethodDescriptor yJ7_fill.desc).map (fun d => d.parameters.length) = some 2 := by decide +kernel
theorem dJ7_fill_0 : decode prog_11_method_103_code 0 = .ok (.iconst 0, 1) := by decide +kernel
theorem dJ7_fill_1 : decode prog_11_method_103_code 1 = .ok (.istore_n 2, 1) := by decide +kernel
theorem dJ7_fill_2 : decode prog_11_method_103_code 2 = .ok (.aload_n 0, 1) := by decide +kernel
theorem dJ7_fill_3 : decode prog_11_method_103_code 3 = .ok (.arraylength, 1) := by decide +kernel
theorem dJ7_fill_4 : decode prog_11_method_103_code 4 = .ok (.istore_n 3, 1) := by decide +kernel
theorem dJ7_fill_5 : decode prog_11_method_103_code 5 = .ok (.iload_n 2, 1) := by decide +kernel
theorem dJ7_fill_6 : decode prog_11_method_103_code 6 = .ok (.iload_n 3, 1) := by decide +kernel
theorem dJ7_fill_7 : decode prog_11_method_103_code 7 = .ok (.if_icmp .ge 13, 3) := by decide +kernel
theorem dJ7_fill_10 : decode prog_11_method_103_code 10 = .ok (.aload_n 0, 1) := by decide +kernel
theorem dJ7_fill_11 : decode prog_11_method_103_code 11 = .ok (.iload_n 2, 1) := by decide +kernel
theorem dJ7_fill_12 : decode prog_11_method_103_code 12 = .ok (.iload_n 1, 1) := by decide +kernel
theorem dJ7_fill_13 : decode prog_11_method_103_code 13 = .ok (.iastore, 1) := by decide +kernel
theorem dJ7_fill_14 : decode prog_11_method_103_code 14 = .ok (.iinc 2 1, 3) := by decide +kernel
theorem dJ7_fill_17 : decode prog_11_method_103_code 17 = .ok (.goto (-12), 3) := by decide +kernel
theorem dJ7_fill_20 : decode prog_11_method_103_code 20 = .ok (.return_, 1) := by decide +kernel
def pJ7_fill_5_b (N : Nat) (kb : mm_M → Option Nat → Int32 → Int32 → Int32 → Option (mm_M × Unit)) (kx : mm_M → Option (mm_M × Unit)) (G : mm_M) (x0 : Option Nat) (x1 : Int32) (x2 : Int32) (x3 : Int32) : Option (mm_M × Unit) :=
  if x3 ≤ x2 then
    kx G
  else
    q_nn x0 fun b13_3 =>
    q_sI G b13_3 101 x2 x1 fun G =>
    kb G (some b13_3) x1 (x2 + (1 : Int32)) x3
def pJ7_fill_5 (N : Nat) (kx : mm_M → Option (mm_M × Unit)) : Nat → mm_M → Option Nat → Int32 → Int32 → Int32 → Option (mm_M × Unit)
  | 0 => fun _ _ _ _ _ => none
  | n + 1 => pJ7_fill_5_b N (pJ7_fill_5 N kx n) kx
set_option maxRecDepth 100000 in
set_option maxHeartbeats 4000000 in
theorem bJ7_fill_5 {p : Program} {l : Launch} {e : Env} {s : State} {m : MethodId} {args : Array Value} {below : List Frame} {meth : Method} {c : Code} {E : mm_E} {N : Nat} {res : mm_M × Unit} (X : mm_X p s m args meth c prog_11_method_103_code 4 "java/util/Arrays" tw_T E) (hr : meth.sig.returnType = none) {kx : mm_M → Option (mm_M × Unit)} (hkx : ∀ (G : mm_M) (H : Heap) (locs : List Loc) (ls : Array Slot), mm_V E s G H locs → lx_has ls 4 [] → kx G = some res → W p l e rJ7_fill s m args below meth c H locs 0 0 (MQ below (mm_Qv E res.1) args s 0 0 (mm_A E)) (F0 m 20 ls [])) :
    ∀ (n : Nat) (G : mm_M) (H : Heap) (locs : List Loc) (ls : Array Slot) (x0 : Option Nat) (x1 : Int32) (x2 : Int32) (x3 : Int32), mm_V E s G H locs → lx_has ls 4 [(0, .inr x0), (1, .inl x1), (2, .inl x2), (3, .inl x3)] → pJ7_fill_5 N kx n G x0 x1 x2 x3 = some res → W p l e rJ7_fill s m args below meth c H locs 0 0 (MQ below (mm_Qv E res.1) args s 0 0 (mm_A E)) (F0 m 5 ls []) := by
  have hx := X.1.1
  have hb := X.1.2.1
  intro n
  induction n with
  | zero =>
    intro G H locs ls x0 x1 x2 x3 V hl hp
    cases hp
  | succ n ih =>
    intro G H locs ls x0 x1 x2 x3 V hl hp
    have hp : pJ7_fill_5_b N (pJ7_fill_5 N kx n) kx G x0 x1 x2 x3 = some res := hp
    unfold pJ7_fill_5_b at hp
    refine x_iload_n X dJ7_fill_5 hl 2 rfl rfl ?_
    refine x_iload_n X dJ7_fill_6 hl 3 rfl rfl ?_
    refine q_if hp (lv_icmp_ge (tgt := 20) hx hb dJ7_fill_7 (by decide)) (fun hp => ?_) (fun hp => ?_)
    · exact hkx _ _ _ _ V (lx_sub hl [] rfl) hp
    · refine x_aload_n X dJ7_fill_10 hl 0 rfl rfl ?_
      refine x_iload_n X dJ7_fill_11 hl 2 rfl rfl ?_
      refine x_iload_n X dJ7_fill_12 hl 1 rfl rfl ?_
      obtain ⟨b13_3, e0, hp2⟩ := q_nn_of hp
      clear hp; subst e0; have hp := hp2; clear hp2
      refine q_iast X V dJ7_fill_13 hp (fun G H locs V hp => ?_)
      refine x_iinc (v := (1 : Int32)) (lst' := [(2, .inl (x2 + (1 : Int32))), (0, .inr (some b13_3)), (1, .inl x1), (3, .inl x3)]) X dJ7_fill_14 hl 2 rfl (by decide) (by decide) rfl (fun ls hl => ?_)
      refine lv_goto (tgt := 5) hx hb dJ7_fill_17 (by decide) ?_
      exact ih _ _ _ _ _ _ _ _ V (lx_sub hl [1, 2, 0, 3] rfl) hp
def pJ7_fill_0 (N : Nat) (G : mm_M) (x0 : Option Nat) (x1 : Int32) : Option (mm_M × Unit) :=
  q_nn x0 fun b3_1 =>
  q_len G b3_1 101 fun v3_2 =>
  pJ7_fill_5 N (fun (G : mm_M) =>
    some (G, ())) N G (some b3_1) x1 (0 : Int32) v3_2
set_option maxRecDepth 100000 in
set_option maxHeartbeats 4000000 in
theorem bJ7_fill_0 {p : Program} {l : Launch} {e : Env} {s : State} {m : MethodId} {args : Array Value} {below : List Frame} {meth : Method} {c : Code} {E : mm_E} {N : Nat} {res : mm_M × Unit} (X : mm_X p s m args meth c prog_11_method_103_code 4 "java/util/Arrays" tw_T E) (hr : meth.sig.returnType = none) {G : mm_M} {H : Heap} {locs : List Loc} {ls : Array Slot} {x0 : Option Nat} {x1 : Int32} (V : mm_V E s G H locs) (hl : lx_has ls 4 [(0, .inr x0), (1, .inl x1)]) (hp : pJ7_fill_0 N G x0 x1 = some res) : W p l e rJ7_fill s m args below meth c H locs 0 0 (MQ below (mm_Qv E res.1) args s 0 0 (mm_A E)) (F0 m 0 ls []) := by
  have hx := X.1.1
  have hb := X.1.2.1
  unfold pJ7_fill_0 at hp
  refine lv_iconst (v := (0 : Int32)) hx hb dJ7_fill_0 (by decide) ?_
  refine x_istore_n (lst' := [(2, .inl (0 : Int32)), (0, .inr x0), (1, .inl x1)]) X dJ7_fill_1 hl rfl (by decide) rfl (fun ls hl => ?_)
  refine x_aload_n X dJ7_fill_2 hl 1 rfl rfl ?_
  obtain ⟨b3_1, e0, hp2⟩ := q_nn_of hp
  clear hp; subst e0; have hp := hp2; clear hp2
  refine q_alen X V dJ7_fill_3 hp (fun v3_2 hp => ?_)
  refine x_istore_n (lst' := [(3, .inl v3_2), (2, .inl (0 : Int32)), (0, .inr (some b3_1)), (1, .inl x1)]) X dJ7_fill_4 hl rfl (by decide) rfl (fun ls hl => ?_)
  refine bJ7_fill_5 X hr (fun G H locs ls V hl hp => ?_) _ _ _ _ _ _ _ _ _ V (lx_sub hl [2, 3, 1, 0] rfl) hp
  exact q_vret X V hr ⟨by decide, by decide⟩ dJ7_fill_20 hp
theorem cJ7_fill (l : Launch) (E : mm_E) {N : Nat} {G : mm_M} {x0 : Option Nat} {x1 : Int32} {res : mm_M × Unit} (hp : pJ7_fill_0 N G x0 x1 = some res) : Met l yJ7_fill (Cond.code yJ7_fill prog_11_method_103_code 4 none :: tw_T) rJ7_fill (mm_Pc E G [va_rf x0, .int x1]) (mm_Qv E res.1) 0 0 (mm_A E) :=
  mm_met (own := "java/util/Arrays") E G [.inr x0, .inl x1] (by decide) rfl rfl (Nat.le_of_ble_eq_true rfl) (fun p e s m args below meth c ls X hr hi V hl => bJ7_fill_0 X hr V hl hp)
abbrev yX6_write : MethodName := ⟨"XorOverlay", "write", "(IIIIII)V"⟩
abbrev rX6_write : Room := { frames := 1, cells := 0, slots := 0, locals := 23 }
theorem kX6_write : Cond.code yX6_write prog_1_method_31_code 7 none ∈ tw_T ∧ Cond.instanceMethod yX6_write ∈ tw_T ∧ Cond.selects "XorOverlay" yX6_write yX6_write ∈ tw_T ∧ Cond.initialized "XorOverlay" ∈ tw_T := ⟨(tw_2 96 rfl rfl), (tw_2 95 rfl rfl), (tw_s 8 rfl rfl), (tw_1 1 rfl rfl)⟩
theorem hX6_write : yX6_write.cls = "XorOverlay" ∧ yX6_write.cls ≠ "java/lang/invoke/MethodHandle" ∧ yX6_write.cls ≠ "java/lang/invoke/VarHandle" ∧ (parseMethodDescriptor yX6_write.desc).map (fun d => d.parameters.length) = some 6 := by decide +kernel
theorem dX6_write_0 : decode prog_1_method_31_code 0 = .ok (.aload_n 0, 1) := by decide +kernel
theorem dX6_write_1 : decode prog_1_method_31_code 1 = .ok (.getfield 22, 3) := by decide +kernel
theorem dX6_write_4 : decode prog_1_method_31_code 4 = .ok (.iconst (-1), 1) := by decide +kernel
theorem dX6_write_5 : decode prog_1_method_31_code 5 = .ok (.invokestatic 240, 3) := by decide +kernel
theorem dX6_write_8 : decode prog_1_method_31_code 8 = .ok (.aload_n 0, 1) := by decide +kernel
theorem dX6_write_9 : decode prog_1_method_31_code 9 = .ok (.getfield 22, 3) := by decide +kernel
theorem dX6_write_12 : decode prog_1_method_31_code 12 = .ok (.iconst 0, 1) := by decide +kernel
theorem dX6_write_13 : decode prog_1_method_31_code 13 = .ok (.iload_n 1, 1) := by decide +kernel
theorem dX6_write_14 : decode prog_1_method_31_code 14 = .ok (.iastore, 1) := by decide +kernel
theorem dX6_write_15 : decode prog_1_method_31_code 15 = .ok (.aload_n 0, 1) := by decide +kernel
theorem dX6_write_16 : decode prog_1_method_31_code 16 = .ok (.getfield 22, 3) := by decide +kernel
theorem dX6_write_19 : decode prog_1_method_31_code 19 = .ok (.iconst 1, 1) := by decide +kernel
theorem dX6_write_20 : decode prog_1_method_31_code 20 = .ok (.iload_n 2, 1) := by decide +kernel
theorem dX6_write_21 : decode prog_1_method_31_code 21 = .ok (.iastore, 1) := by decide +kernel
theorem dX6_write_22 : decode prog_1_method_31_code 22 = .ok (.aload_n 0, 1) := by decide +kernel
theorem dX6_write_23 : decode prog_1_method_31_code 23 = .ok (.getfield 22, 3) := by decide +kernel
theorem dX6_write_26 : decode prog_1_method_31_code 26 = .ok (.iconst 2, 1) := by decide +kernel
theorem dX6_write_27 : decode prog_1_method_31_code 27 = .ok (.iload_n 3, 1) := by decide +kernel
theorem dX6_write_28 : decode prog_1_method_31_code 28 = .ok (.iastore, 1) := by decide +kernel
theorem dX6_write_29 : decode prog_1_method_31_code 29 = .ok (.aload_n 0, 1) := by decide +kernel
theorem dX6_write_30 : decode prog_1_method_31_code 30 = .ok (.getfield 22, 3) := by decide +kernel
theorem dX6_write_33 : decode prog_1_method_31_code 33 = .ok (.iconst 3, 1) := by decide +kernel
theorem dX6_write_34 : decode prog_1_method_31_code 34 = .ok (.iload 4, 2) := by decide +kernel
theorem dX6_write_36 : decode prog_1_method_31_code 36 = .ok (.iastore, 1) := by decide +kernel
theorem dX6_write_37 : decode prog_1_method_31_code 37 = .ok (.aload_n 0, 1) := by decide +kernel
theorem dX6_write_38 : decode prog_1_method_31_code 38 = .ok (.getfield 22, 3) := by decide +kernel
theorem dX6_write_41 : decode prog_1_method_31_code 41 = .ok (.iconst 4, 1) := by decide +kernel
theorem dX6_write_42 : decode prog_1_method_31_code 42 = .ok (.iload 5, 2) := by decide +kernel
theorem dX6_write_44 : decode prog_1_method_31_code 44 = .ok (.iastore, 1) := by decide +kernel
theorem dX6_write_45 : decode prog_1_method_31_code 45 = .ok (.aload_n 0, 1) := by decide +kernel
theorem dX6_write_46 : decode prog_1_method_31_code 46 = .ok (.getfield 22, 3) := by decide +kernel
theorem dX6_write_49 : decode prog_1_method_31_code 49 = .ok (.iconst 5, 1) := by decide +kernel
theorem dX6_write_50 : decode prog_1_method_31_code 50 = .ok (.iload 6, 2) := by decide +kernel
theorem dX6_write_52 : decode prog_1_method_31_code 52 = .ok (.iastore, 1) := by decide +kernel
theorem dX6_write_53 : decode prog_1_method_31_code 53 = .ok (.return_, 1) := by decide +kernel
def pX6_write_0 (N a0 : Nat) (G : mm_M) (x1 : Int32) (x2 : Int32) (x3 : Int32) (x4 : Int32) (x5 : Int32) (x6 : Int32) : Option (mm_M × Unit) :=
  q_gR G a0 7 2 fun r1_1 =>
  q_cl (pJ7_fill_0 N G r1_1 (-1 : Int32)) fun G _ =>
  q_gR G a0 7 2 fun r9_3 =>
  q_nn r9_3 fun b14_4 =>
  q_sI G b14_4 101 (0 : Int32) x1 fun G =>
  q_gR G a0 7 2 fun r16_5 =>
  q_nn r16_5 fun b21_6 =>
  q_sI G b21_6 101 (1 : Int32) x2 fun G =>
  q_gR G a0 7 2 fun r23_7 =>
  q_nn r23_7 fun b28_8 =>
  q_sI G b28_8 101 (2 : Int32) x3 fun G =>
  q_gR G a0 7 2 fun r30_9 =>
  q_nn r30_9 fun b36_10 =>
  q_sI G b36_10 101 (3 : Int32) x4 fun G =>
  q_gR G a0 7 2 fun r38_11 =>
  q_nn r38_11 fun b44_12 =>
  q_sI G b44_12 101 (4 : Int32) x5 fun G =>
  q_gR G a0 7 2 fun r46_13 =>
  q_nn r46_13 fun b52_14 =>
  q_sI G b52_14 101 (5 : Int32) x6 fun G =>
  some (G, ())
set_option maxRecDepth 100000 in
set_option maxHeartbeats 4000000 in
theorem bX6_write_0 {p : Program} {l : Launch} {e : Env} {s : State} {m : MethodId} {args : Array Value} {below : List Frame} {meth : Method} {c : Code} {E : mm_E} {N a0 : Nat} {res : mm_M × Unit} (X : mm_X p s m args meth c prog_1_method_31_code 7 "XorOverlay" tw_T E) (hr : meth.sig.returnType = none) {G : mm_M} {H : Heap} {locs : List Loc} {ls : Array Slot} {x1 : Int32} {x2 : Int32} {x3 : Int32} {x4 : Int32} {x5 : Int32} {x6 : Int32} (V : mm_V E s G H locs) (hl : lx_has ls 7 [(0, .inr (some a0)), (1, .inl x1), (2, .inl x2), (3, .inl x3), (4, .inl x4), (5, .inl x5), (6, .inl x6)]) (hp : pX6_write_0 N a0 G x1 x2 x3 x4 x5 x6 = some res) : W p l e rX6_write s m args below meth c H locs 0 0 (MQ below (mm_Qv E res.1) args s 0 0 (mm_A E)) (F0 m 0 ls []) := by
  have hx := X.1.1
  have hb := X.1.2.1
  unfold pX6_write_0 at hp
  refine x_aload_n X dX6_write_0 hl 0 rfl rfl ?_
  refine q_getR (ci := 6) X V inX6 rfl (by decide) rfl 2 (by decide) rfl (tw_1 38 rfl rfl) rfl dX6_write_1 hp (fun r1_1 hp => ?_)
  refine lv_iconst (v := (-1 : Int32)) hx hb dX6_write_4 (by decide) ?_
  obtain ⟨⟨G, u⟩, hq, hp⟩ := q_cl_of hp
  dsimp only at hp
  refine q_gov (cells' := 0) (slots' := 0) (va_runS (As := [va_rf r1_1, .int (-1 : Int32)]) (rest := []) X.1 (cJ7_fill l E hq) (tw_cwS 2 X.1.2.2.2.2 (tw_2 97 rfl rfl) kJ7_fill.2.1 kJ7_fill.2.2 kJ7_fill.1 rfl rfl hJ7_fill ⟨Nat.le_of_ble_eq_true rfl, Nat.le_of_ble_eq_true rfl⟩) (mm_preS X V) rfl rfl hl.1 rfl (lv_room (Nat.le_of_ble_eq_true rfl)) dX6_write_5 ⟨by decide, by decide⟩) V ⟨rfl, rfl⟩ (fun H locs V => ?_)
  refine x_aload_n X dX6_write_8 hl 0 rfl rfl ?_
  refine q_getR (ci := 6) X V inX6 rfl (by decide) rfl 2 (by decide) rfl (tw_1 38 rfl rfl) rfl dX6_write_9 hp (fun r9_3 hp => ?_)
  refine lv_iconst (v := (0 : Int32)) hx hb dX6_write_12 (by decide) ?_
  refine x_iload_n X dX6_write_13 hl 1 rfl rfl ?_
  obtain ⟨b14_4, e0, hp2⟩ := q_nn_of hp
  clear hp; subst e0; have hp := hp2; clear hp2
  refine q_iast X V dX6_write_14 hp (fun G H locs V hp => ?_)
  refine x_aload_n X dX6_write_15 hl 0 rfl rfl ?_
  refine q_getR (ci := 6) X V inX6 rfl (by decide) rfl 2 (by decide) rfl (tw_1 38 rfl rfl) rfl dX6_write_16 hp (fun r16_5 hp => ?_)
  refine lv_iconst (v := (1 : Int32)) hx hb dX6_write_19 (by decide) ?_
  refine x_iload_n X dX6_write_20 hl 2 rfl rfl ?_
  obtain ⟨b21_6, e0, hp2⟩ := q_nn_of hp
  clear hp; subst e0; have hp := hp2; clear hp2
  refine q_iast X V dX6_write_21 hp (fun G H locs V hp => ?_)
  refine x_aload_n X dX6_write_22 hl 0 rfl rfl ?_
  refine q_getR (ci := 6) X V inX6 rfl (by decide) rfl 2 (by decide) rfl (tw_1 38 rfl rfl) rfl dX6_write_23 hp (fun r23_7 hp => ?_)
  refine lv_iconst (v := (2 : Int32)) hx hb dX6_write_26 (by decide) ?_
  refine x_iload_n X dX6_write_27 hl 3 rfl rfl ?_
  obtain ⟨b28_8, e0, hp2⟩ := q_nn_of hp
  clear hp; subst e0; have hp := hp2; clear hp2
  refine q_iast X V dX6_write_28 hp (fun G H locs V hp => ?_)
  refine x_aload_n X dX6_write_29 hl 0 rfl rfl ?_
  refine q_getR (ci := 6) X V inX6 rfl (by decide) rfl 2 (by decide) rfl (tw_1 38 rfl rfl) rfl dX6_write_30 hp (fun r30_9 hp => ?_)
  refine lv_iconst (v := (3 : Int32)) hx hb dX6_write_33 (by decide) ?_
  refine x_iload X dX6_write_34 hl 4 rfl ?_
  obtain ⟨b36_10, e0, hp2⟩ := q_nn_of hp
  clear hp; subst e0; have hp := hp2; clear hp2
  refine q_iast X V dX6_write_36 hp (fun G H locs V hp => ?_)
  refine x_aload_n X dX6_write_37 hl 0 rfl rfl ?_
  refine q_getR (ci := 6) X V inX6 rfl (by decide) rfl 2 (by decide) rfl (tw_1 38 rfl rfl) rfl dX6_write_38 hp (fun r38_11 hp => ?_)
  refine lv_iconst (v := (4 : Int32)) hx hb dX6_write_41 (by decide) ?_
  refine x_iload X dX6_write_42 hl 5 rfl ?_
  obtain ⟨b44_12, e0, hp2⟩ := q_nn_of hp
  clear hp; subst e0; have hp := hp2; clear hp2
  refine q_iast X V dX6_write_44 hp (fun G H locs V hp => ?_)
  refine x_aload_n X dX6_write_45 hl 0 rfl rfl ?_
  refine q_getR (ci := 6) X V inX6 rfl (by decide) rfl 2 (by decide) rfl (tw_1 38 rfl rfl) rfl dX6_write_46 hp (fun r46_13 hp => ?_)
  refine lv_iconst (v := (5 : Int32)) hx hb dX6_write_49 (by decide) ?_
  refine x_iload X dX6_write_50 hl 6 rfl ?_
  obtain ⟨b52_14, e0, hp2⟩ := q_nn_of hp
  clear hp; subst e0; have hp := hp2; clear hp2
  refine q_iast X V dX6_write_52 hp (fun G H locs V hp => ?_)
  exact q_vret X V hr ⟨by decide, by decide⟩ dX6_write_53 hp
theorem cX6_write (l : Launch) (E : mm_E) {N a0 : Nat} {G : mm_M} {x1 : Int32} {x2 : Int32} {x3 : Int32} {x4 : Int32} {x5 : Int32} {x6 : Int32} {res : mm_M × Unit} (hp : pX6_write_0 N a0 G x1 x2 x3 x4 x5 x6 = some res) : Met l yX6_write (Cond.code yX6_write prog_1_method_31_code 7 none :: tw_T) rX6_write (mm_Pc E G [.ref a0, .int x1, .int x2, .int x3, .int x4, .int x5, .int x6]) (mm_Qv E res.1) 0 0 (mm_A E) :=
  mm_met (own := "XorOverlay") E G [.inr (some a0), .inl x1, .inl x2, .inl x3, .inl x4, .inl x5, .inl x6] (by decide) rfl rfl (Nat.le_of_ble_eq_true rfl) (fun p e s m args below meth c ls X hr hi V hl => bX6_write_0 X hr V hl hp)
abbrev yX2_addOrLose : MethodName := ⟨"XorOverlay$Line", "addOrLose", "([I)V"⟩
abbrev rX2_addOrLose : Room := { frames := 1, cells := 0, slots := 0, locals := 30 }
theorem kX2_addOrLose : Cond.code yX2_addOrLose prog_4_method_4_code 2 none ∈ tw_T ∧ Cond.instanceMethod yX2_addOrLose ∈ tw_T ∧ Cond.selects "XorOverlay$Line" yX2_addOrLose yX2_addOrLose ∈ tw_T ∧ Cond.initialized "XorOverlay$Line" ∈ tw_T := ⟨(tw_2 103 rfl rfl), (tw_2 101 rfl rfl), (tw_2 102 rfl rfl), (tw_1 2 rfl rfl)⟩
theorem hX2_addOrLose : yX2_addOrLose.cls = "XorOverlay$Line" ∧ yX2_addOrLose.cls ≠ "java/lang/invoke/MethodHandle" ∧ yX2_addOrLose.cls ≠ "java/lang/invoke/VarHandle" ∧ (parseMethodDescriptor yX2_addOrLose.desc).map (fun d => d.parameters.length) = some 1 := by decide +kernel
theorem dX2_addOrLose_0 : decode prog_4_method_4_code 0 = .ok (.aload_n 0, 1) := by decide +kernel
theorem dX2_addOrLose_1 : decode prog_4_method_4_code 1 = .ok (.getfield 15, 3) := by decide +kernel
theorem dX2_addOrLose_4 : decode prog_4_method_4_code 4 = .ok (.bipush 24, 2) := by decide +kernel
theorem dX2_addOrLose_6 : decode prog_4_method_4_code 6 = .ok (.if_icmp .ge 31, 3) := by decide +kernel
theorem dX2_addOrLose_9 : decode prog_4_method_4_code 9 = .ok (.aload_n 1, 1) := by decide +kernel
theorem dX2_addOrLose_10 : decode prog_4_method_4_code 10 = .ok (.iconst 0, 1) := by decide +kernel
theorem dX2_addOrLose_11 : decode prog_4_method_4_code 11 = .ok (.aload_n 0, 1) := by decide +kernel
theorem dX2_addOrLose_12 : decode prog_4_method_4_code 12 = .ok (.getfield 11, 3) := by decide +kernel
theorem dX2_addOrLose_15 : decode prog_4_method_4_code 15 = .ok (.aload_n 0, 1) := by decide +kernel
theorem dX2_addOrLose_16 : decode prog_4_method_4_code 16 = .ok (.getfield 15, 3) := by decide +kernel
theorem dX2_addOrLose_19 : decode prog_4_method_4_code 19 = .ok (.bipush 12, 2) := by decide +kernel
theorem dX2_addOrLose_21 : decode prog_4_method_4_code 21 = .ok (.imul, 1) := by decide +kernel
theorem dX2_addOrLose_22 : decode prog_4_method_4_code 22 = .ok (.bipush 12, 2) := by decide +kernel
theorem dX2_addOrLose_24 : decode prog_4_method_4_code 24 = .ok (.invokestatic 19, 3) := by decide +kernel
theorem dX2_addOrLose_27 : decode prog_4_method_4_code 27 = .ok (.aload_n 0, 1) := by decide +kernel
theorem dX2_addOrLose_28 : decode prog_4_method_4_code 28 = .ok (.dup, 1) := by decide +kernel
theorem dX2_addOrLose_29 : decode prog_4_method_4_code 29 = .ok (.getfield 15, 3) := by decide +kernel
theorem dX2_addOrLose_32 : decode prog_4_method_4_code 32 = .ok (.iconst 1, 1) := by decide +kernel
theorem dX2_addOrLose_33 : decode prog_4_method_4_code 33 = .ok (.iadd, 1) := by decide +kernel
theorem dX2_addOrLose_34 : decode prog_4_method_4_code 34 = .ok (.putfield 15, 3) := by decide +kernel
theorem dX2_addOrLose_37 : decode prog_4_method_4_code 37 = .ok (.return_, 1) := by decide +kernel
def pX2_addOrLose_0 (N a0 : Nat) (G : mm_M) (x1 : Option Nat) : Option (mm_M × Unit) :=
  q_gI G a0 3 1 fun v1_1 =>
  if (24 : Int32) ≤ v1_1 then
    some (G, ())
  else
    q_gR G a0 3 0 fun r12_2 =>
    q_gI G a0 3 1 fun v16_3 =>
    q_nn r12_2 fun b24_4 =>
    q_nn x1 fun b24_5 =>
    q_cpy G b24_5 (0 : Int32) b24_4 (v16_3 * (12 : Int32)) (12 : Int32) fun G =>
    q_gI G a0 3 1 fun v29_6 =>
    q_pI G a0 3 1 (v29_6 + (1 : Int32)) fun G =>
    some (G, ())
set_option maxRecDepth 100000 in
set_option maxHeartbeats 4000000 in
theorem bX2_addOrLose_0 {p : Program} {l : Launch} {e : Env} {s : State} {m : MethodId} {args : Array Value} {below : List Frame} {meth : Method} {c : Code} {E : mm_E} {N a0 : Nat} {res : mm_M × Unit} (X : mm_X p s m args meth c prog_4_method_4_code 2 "XorOverlay$Line" tw_T E) (hr : meth.sig.returnType = none) {G : mm_M} {H : Heap} {locs : List Loc} {ls : Array Slot} {x1 : Option Nat} (V : mm_V E s G H locs) (hl : lx_has ls 2 [(0, .inr (some a0)), (1, .inr x1)]) (hp : pX2_addOrLose_0 N a0 G x1 = some res) : W p l e rX2_addOrLose s m args below meth c H locs 0 0 (MQ below (mm_Qv E res.1) args s 0 0 (mm_A E)) (F0 m 0 ls []) := by
  have hx := X.1.1
  have hb := X.1.2.1
  unfold pX2_addOrLose_0 at hp
  refine x_aload_n X dX2_addOrLose_0 hl 0 rfl rfl ?_
  refine q_getI (ci := 2) X V inX2 rfl (by decide) rfl 1 (by decide) rfl (tw_1 28 rfl rfl) rfl dX2_addOrLose_1 hp (fun v1_1 hp => ?_)
  refine lv_bipush (v := (24 : Int32)) hx hb dX2_addOrLose_4 (by decide) ?_
  refine q_if hp (lv_icmp_ge (tgt := 37) hx hb dX2_addOrLose_6 (by decide)) (fun hp => ?_) (fun hp => ?_)
  · exact q_vret X V hr ⟨by decide, by decide⟩ dX2_addOrLose_37 hp
  · refine x_aload_n X dX2_addOrLose_9 hl 1 rfl rfl ?_
    refine lv_iconst (v := (0 : Int32)) hx hb dX2_addOrLose_10 (by decide) ?_
    refine x_aload_n X dX2_addOrLose_11 hl 0 rfl rfl ?_
    refine q_getR (ci := 2) X V inX2 rfl (by decide) rfl 0 (by decide) rfl (tw_1 27 rfl rfl) rfl dX2_addOrLose_12 hp (fun r12_2 hp => ?_)
    refine x_aload_n X dX2_addOrLose_15 hl 0 rfl rfl ?_
    refine q_getI (ci := 2) X V inX2 rfl (by decide) rfl 1 (by decide) rfl (tw_1 28 rfl rfl) rfl dX2_addOrLose_16 hp (fun v16_3 hp => ?_)
    refine lv_bipush (v := (12 : Int32)) hx hb dX2_addOrLose_19 (by decide) ?_
    refine lv_imul hx hb dX2_addOrLose_21 ?_
    refine lv_bipush (v := (12 : Int32)) hx hb dX2_addOrLose_22 (by decide) ?_
    obtain ⟨b24_4, e0, hp2⟩ := q_nn_of hp
    clear hp; subst e0; have hp := hp2; clear hp2
    obtain ⟨b24_5, e0, hp2⟩ := q_nn_of hp
    clear hp; subst e0; have hp := hp2; clear hp2
    refine q_copy X V hl.1 (tw_2 104 rfl rfl) (tw_2 106 rfl rfl) (tw_2 105 rfl rfl) (tw_1 10 rfl rfl) (by decide) (by decide) dX2_addOrLose_24 hp (fun G H locs V hp => ?_)
    refine x_aload_n X dX2_addOrLose_27 hl 0 rfl rfl ?_
    refine lv_dup hx hb dX2_addOrLose_28 (va_rf_cat _) ?_
    refine q_getI (ci := 2) X V inX2 rfl (by decide) rfl 1 (by decide) rfl (tw_1 28 rfl rfl) rfl dX2_addOrLose_29 hp (fun v29_6 hp => ?_)
    refine lv_iconst (v := (1 : Int32)) hx hb dX2_addOrLose_32 (by decide) ?_
    refine lv_iadd hx hb dX2_addOrLose_33 ?_
    refine q_putI (ci := 2) X V inX2 rfl tyX2 tyX2_ok nmX2 (by decide) rfl 1 (by decide) rfl (tw_1 28 rfl rfl) rfl (Or.inl rfl) .int rfl rfl rfl dX2_addOrLose_34 hp (fun G H locs V hp => ?_)
    exact q_vret X V hr ⟨by decide, by decide⟩ dX2_addOrLose_37 hp
theorem cX2_addOrLose (l : Launch) (E : mm_E) {N a0 : Nat} {G : mm_M} {x1 : Option Nat} {res : mm_M × Unit} (hp : pX2_addOrLose_0 N a0 G x1 = some res) : Met l yX2_addOrLose (Cond.code yX2_addOrLose prog_4_method_4_code 2 none :: tw_T) rX2_addOrLose (mm_Pc E G [.ref a0, va_rf x1]) (mm_Qv E res.1) 0 0 (mm_A E) :=
  mm_met (own := "XorOverlay$Line") E G [.inr (some a0), .inr x1] (by decide) rfl rfl (Nat.le_of_ble_eq_true rfl) (fun p e s m args below meth c ls X hr hi V hl => bX2_addOrLose_0 X hr V hl hp)
abbrev yX6_ask : MethodName := ⟨"XorOverlay", "ask", "(LXorOverlay$Peer;I)V"⟩
abbrev rX6_ask : Room := { frames := 2, cells := 0, slots := 0, locals := 51 }
theorem kX6_ask : Cond.code yX6_ask prog_1_method_29_code 5 none ∈ tw_T ∧ Cond.instanceMethod yX6_ask ∈ tw_T ∧ Cond.selects "XorOverlay" yX6_ask yX6_ask ∈ tw_T ∧ Cond.initialized "XorOverlay" ∈ tw_T := ⟨(tw_2 92 rfl rfl), (tw_2 91 rfl rfl), (tw_s 7 rfl rfl), (tw_1 1 rfl rfl)⟩
theorem hX6_ask : yX6_ask.cls = "XorOverlay" ∧ yX6_ask.cls ≠ "java/lang/invoke/MethodHandle" ∧ yX6_ask.cls ≠ "java/lang/invoke/VarHandle" ∧ (parseMethodDescriptor yX6_ask.desc).map (fun d => d.parameters.length) = some 2 := by decide +kernel
theorem dX6_ask_0 : decode prog_1_method_29_code 0 = .ok (.aload_n 1, 1) := by decide +kernel
theorem dX6_ask_1 : decode prog_1_method_29_code 1 = .ok (.getfield 72, 3) := by decide +kernel
theorem dX6_ask_4 : decode prog_1_method_29_code 4 = .ok (.astore_n 3, 1) := by decide +kernel
theorem dX6_ask_5 : decode prog_1_method_29_code 5 = .ok (.aload_n 3, 1) := by decide +kernel
theorem dX6_ask_6 : decode prog_1_method_29_code 6 = .ok (.getfield 135, 3) := by decide +kernel
theorem dX6_ask_9 : decode prog_1_method_29_code 9 = .ok (.iload_n 2, 1) := by decide +kernel
theorem dX6_ask_10 : decode prog_1_method_29_code 10 = .ok (.iconst 1, 1) := by decide +kernel
theorem dX6_ask_11 : decode prog_1_method_29_code 11 = .ok (.iastore, 1) := by decide +kernel
theorem dX6_ask_12 : decode prog_1_method_29_code 12 = .ok (.aload_n 3, 1) := by decide +kernel
theorem dX6_ask_13 : decode prog_1_method_29_code 13 = .ok (.getfield 219, 3) := by decide +kernel
theorem dX6_ask_16 : decode prog_1_method_29_code 16 = .ok (.iload_n 2, 1) := by decide +kernel
theorem dX6_ask_17 : decode prog_1_method_29_code 17 = .ok (.aload_n 0, 1) := by decide +kernel
theorem dX6_ask_18 : decode prog_1_method_29_code 18 = .ok (.getfield 33, 3) := by decide +kernel
theorem dX6_ask_21 : decode prog_1_method_29_code 21 = .ok (.iastore, 1) := by decide +kernel
theorem dX6_ask_22 : decode prog_1_method_29_code 22 = .ok (.aload_n 3, 1) := by decide +kernel
theorem dX6_ask_23 : decode prog_1_method_29_code 23 = .ok (.getfield 213, 3) := by decide +kernel
theorem dX6_ask_26 : decode prog_1_method_29_code 26 = .ok (.iconst 1, 1) := by decide +kernel
theorem dX6_ask_27 : decode prog_1_method_29_code 27 = .ok (.if_icmp .ne 7, 3) := by decide +kernel
theorem dX6_ask_30 : decode prog_1_method_29_code 30 = .ok (.iconst 1, 1) := by decide +kernel
theorem dX6_ask_31 : decode prog_1_method_29_code 31 = .ok (.goto 4, 3) := by decide +kernel
theorem dX6_ask_34 : decode prog_1_method_29_code 34 = .ok (.iconst 0, 1) := by decide +kernel
theorem dX6_ask_35 : decode prog_1_method_29_code 35 = .ok (.istore 4, 2) := by decide +kernel
theorem dX6_ask_37 : decode prog_1_method_29_code 37 = .ok (.aload_n 0, 1) := by decide +kernel
theorem dX6_ask_38 : decode prog_1_method_29_code 38 = .ok (.iload 4, 2) := by decide +kernel
theorem dX6_ask_40 : decode prog_1_method_29_code 40 = .ok (.aload_n 1, 1) := by decide +kernel
theorem dX6_ask_41 : decode prog_1_method_29_code 41 = .ok (.getfield 180, 3) := by decide +kernel
theorem dX6_ask_44 : decode prog_1_method_29_code 44 = .ok (.aload_n 3, 1) := by decide +kernel
theorem dX6_ask_45 : decode prog_1_method_29_code 45 = .ok (.getfield 132, 3) := by decide +kernel
theorem dX6_ask_48 : decode prog_1_method_29_code 48 = .ok (.iload_n 2, 1) := by decide +kernel
theorem dX6_ask_49 : decode prog_1_method_29_code 49 = .ok (.iaload, 1) := by decide +kernel
theorem dX6_ask_50 : decode prog_1_method_29_code 50 = .ok (.aload_n 3, 1) := by decide +kernel
theorem dX6_ask_51 : decode prog_1_method_29_code 51 = .ok (.getfield 222, 3) := by decide +kernel
theorem dX6_ask_54 : decode prog_1_method_29_code 54 = .ok (.aload_n 3, 1) := by decide +kernel
theorem dX6_ask_55 : decode prog_1_method_29_code 55 = .ok (.getfield 225, 3) := by decide +kernel
theorem dX6_ask_58 : decode prog_1_method_29_code 58 = .ok (.iconst (-1), 1) := by decide +kernel
theorem dX6_ask_59 : decode prog_1_method_29_code 59 = .ok (.invokevirtual 228, 3) := by decide +kernel
theorem dX6_ask_62 : decode prog_1_method_29_code 62 = .ok (.aload_n 0, 1) := by decide +kernel
theorem dX6_ask_63 : decode prog_1_method_29_code 63 = .ok (.getfield 18, 3) := by decide +kernel
theorem dX6_ask_66 : decode prog_1_method_29_code 66 = .ok (.aload_n 0, 1) := by decide +kernel
theorem dX6_ask_67 : decode prog_1_method_29_code 67 = .ok (.getfield 22, 3) := by decide +kernel
theorem dX6_ask_70 : decode prog_1_method_29_code 70 = .ok (.invokevirtual 232, 3) := by decide +kernel
theorem dX6_ask_73 : decode prog_1_method_29_code 73 = .ok (.return_, 1) := by decide +kernel
def pX6_ask_35 (N a0 : Nat) (G : mm_M) (x1 : Option Nat) (x2 : Int32) (x3 : Option Nat) (s0 : Int32) : Option (mm_M × Unit) :=
  q_nn x1 fun b41_10 =>
  q_gI G b41_10 5 0 fun v41_11 =>
  q_nn x3 fun b45_12 =>
  q_gR G b45_12 4 0 fun r45_13 =>
  q_nn r45_13 fun b49_14 =>
  q_aI G b49_14 101 x2 fun v49_15 =>
  q_gI G b45_12 4 8 fun v51_16 =>
  q_gI G b45_12 4 7 fun v55_17 =>
  q_is G a0 7 <|
  q_cl (pX6_write_0 N a0 G s0 v41_11 v49_15 v51_16 v55_17 (-1 : Int32)) fun G _ =>
  q_gR G a0 7 1 fun r63_19 =>
  q_gR G a0 7 2 fun r67_20 =>
  q_nn r63_19 fun b70_21 =>
  q_is G b70_21 3 <|
  q_cl (pX2_addOrLose_0 N b70_21 G r67_20) fun G _ =>
  some (G, ())
set_option maxRecDepth 100000 in
set_option maxHeartbeats 4000000 in
theorem bX6_ask_35 {p : Program} {l : Launch} {e : Env} {s : State} {m : MethodId} {args : Array Value} {below : List Frame} {meth : Method} {c : Code} {E : mm_E} {N a0 : Nat} {res : mm_M × Unit} (X : mm_X p s m args meth c prog_1_method_29_code 5 "XorOverlay" tw_T E) (hr : meth.sig.returnType = none) {G : mm_M} {H : Heap} {locs : List Loc} {ls : Array Slot} {x1 : Option Nat} {x2 : Int32} {x3 : Option Nat} {s0 : Int32} (V : mm_V E s G H locs) (hl : lx_has ls 5 [(0, .inr (some a0)), (1, .inr x1), (2, .inl x2), (3, .inr x3)]) (hp : pX6_ask_35 N a0 G x1 x2 x3 s0 = some res) : W p l e rX6_ask s m args below meth c H locs 0 0 (MQ below (mm_Qv E res.1) args s 0 0 (mm_A E)) (F0 m 35 ls [.int s0]) := by
  have hx := X.1.1
  have hb := X.1.2.1
  unfold pX6_ask_35 at hp
  refine x_istore (lst' := [(4, .inl s0), (0, .inr (some a0)), (1, .inr x1), (2, .inl x2), (3, .inr x3)]) X dX6_ask_35 hl (by decide) rfl (fun ls hl => ?_)
  refine x_aload_n X dX6_ask_37 hl 1 rfl rfl ?_
  refine x_iload X dX6_ask_38 hl 0 rfl ?_
  refine x_aload_n X dX6_ask_40 hl 2 rfl rfl ?_
  obtain ⟨b41_10, e0, hp2⟩ := q_nn_of hp
  clear hp; subst e0; have hp := hp2; clear hp2
  refine q_getI (ci := 4) X V inX4 rfl (by decide) rfl 0 (by decide) rfl (tw_1 213 rfl rfl) rfl dX6_ask_41 hp (fun v41_11 hp => ?_)
  refine x_aload_n X dX6_ask_44 hl 4 rfl rfl ?_
  obtain ⟨b45_12, e0, hp2⟩ := q_nn_of hp
  clear hp; subst e0; have hp := hp2; clear hp2
  refine q_getR (ci := 3) X V inX3 rfl (by decide) rfl 0 (by decide) rfl (tw_1 144 rfl rfl) rfl dX6_ask_45 hp (fun r45_13 hp => ?_)
  refine x_iload_n X dX6_ask_48 hl 3 rfl rfl ?_
  obtain ⟨b49_14, e0, hp2⟩ := q_nn_of hp
  clear hp; subst e0; have hp := hp2; clear hp2
  refine q_iald X V dX6_ask_49 hp (fun v49_15 hp => ?_)
  refine x_aload_n X dX6_ask_50 hl 4 rfl rfl ?_
  refine q_getI (ci := 3) X V inX3 rfl (by decide) rfl 8 (by decide) rfl (tw_1 160 rfl rfl) rfl dX6_ask_51 hp (fun v51_16 hp => ?_)
  refine x_aload_n X dX6_ask_54 hl 4 rfl rfl ?_
  refine q_getI (ci := 3) X V inX3 rfl (by decide) rfl 7 (by decide) rfl (tw_1 158 rfl rfl) rfl dX6_ask_55 hp (fun v55_17 hp => ?_)
  refine lv_iconst (v := (-1 : Int32)) hx hb dX6_ask_58 (by decide) ?_
  obtain ⟨hk, hp⟩ := q_is_of hp
  obtain ⟨⟨G, u⟩, hq, hp⟩ := q_cl_of hp
  dsimp only at hp
  refine q_gov (cells' := 0) (slots' := 0) (va_runV (As := [.int s0, .int v41_11, .int v49_15, .int v51_16, .int v55_17, .int (-1 : Int32)]) (rest := []) X.1 (cX6_write l E hq) (tw_cwV 6 X.1.2.2.2.2 (tw_2 93 rfl rfl) kX6_write.2.1 kX6_write.2.2.1 kX6_write.2.2.2 kX6_write.1 rfl rfl hX6_write ⟨Nat.le_of_ble_eq_true rfl, Nat.le_of_ble_eq_true rfl⟩) (mm_preV X V rfl (by decide) rfl hk) rfl rfl hl.1 rfl (lv_room (Nat.le_of_ble_eq_true rfl)) dX6_ask_59 ⟨by decide, by decide⟩) V ⟨rfl, rfl⟩ (fun H locs V => ?_)
  refine x_aload_n X dX6_ask_62 hl 1 rfl rfl ?_
  refine q_getR (ci := 6) X V inX6 rfl (by decide) rfl 1 (by decide) rfl (tw_1 37 rfl rfl) rfl dX6_ask_63 hp (fun r63_19 hp => ?_)
  refine x_aload_n X dX6_ask_66 hl 1 rfl rfl ?_
  refine q_getR (ci := 6) X V inX6 rfl (by decide) rfl 2 (by decide) rfl (tw_1 38 rfl rfl) rfl dX6_ask_67 hp (fun r67_20 hp => ?_)
  obtain ⟨b70_21, e0, hp2⟩ := q_nn_of hp
  clear hp; subst e0; have hp := hp2; clear hp2
  obtain ⟨hk, hp⟩ := q_is_of hp
  obtain ⟨⟨G, u⟩, hq, hp⟩ := q_cl_of hp
  dsimp only at hp
  refine q_gov (cells' := 0) (slots' := 0) (va_runV (As := [va_rf r67_20]) (rest := []) X.1 (cX2_addOrLose l E hq) (tw_cwV 1 X.1.2.2.2.2 (tw_2 100 rfl rfl) kX2_addOrLose.2.1 kX2_addOrLose.2.2.1 kX2_addOrLose.2.2.2 kX2_addOrLose.1 rfl rfl hX2_addOrLose ⟨Nat.le_of_ble_eq_true rfl, Nat.le_of_ble_eq_true rfl⟩) (mm_preV X V rfl (by decide) rfl hk) rfl rfl hl.1 rfl (lv_room (Nat.le_of_ble_eq_true rfl)) dX6_ask_70 ⟨by decide, by decide⟩) V ⟨rfl, rfl⟩ (fun H locs V => ?_)
  exact q_vret X V hr ⟨by decide, by decide⟩ dX6_ask_73 hp
def pX6_ask_0 (N a0 : Nat) (G : mm_M) (x1 : Option Nat) (x2 : Int32) : Option (mm_M × Unit) :=
  q_nn x1 fun b1_1 =>
  q_gR G b1_1 5 2 fun r1_2 =>
  q_nn r1_2 fun b6_3 =>
  q_gR G b6_3 4 1 fun r6_4 =>
  q_nn r6_4 fun b11_5 =>
  q_sI G b11_5 101 x2 (1 : Int32) fun G =>
  q_gR G b6_3 4 2 fun r13_6 =>
  q_gI G a0 7 5 fun v18_7 =>
  q_nn r13_6 fun b21_8 =>
  q_sI G b21_8 101 x2 v18_7 fun G =>
  q_gI G b6_3 4 6 fun v23_9 =>
  if v23_9 = (1 : Int32) then
    pX6_ask_35 N a0 G (some b1_1) x2 (some b6_3) (1 : Int32)
  else
    pX6_ask_35 N a0 G (some b1_1) x2 (some b6_3) (0 : Int32)
set_option maxRecDepth 100000 in
set_option maxHeartbeats 4000000 in
theorem bX6_ask_0 {p : Program} {l : Launch} {e : Env} {s : State} {m : MethodId} {args : Array Value} {below : List Frame} {meth : Method} {c : Code} {E : mm_E} {N a0 : Nat} {res : mm_M × Unit} (X : mm_X p s m args meth c prog_1_method_29_code 5 "XorOverlay" tw_T E) (hr : meth.sig.returnType = none) {G : mm_M} {H : Heap} {locs : List Loc} {ls : Array Slot} {x1 : Option Nat} {x2 : Int32} (V : mm_V E s G H locs) (hl : lx_has ls 5 [(0, .inr (some a0)), (1, .inr x1), (2, .inl x2)]) (hp : pX6_ask_0 N a0 G x1 x2 = some res) : W p l e rX6_ask s m args below meth c H locs 0 0 (MQ below (mm_Qv E res.1) args s 0 0 (mm_A E)) (F0 m 0 ls []) := by
  have hx := X.1.1
  have hb := X.1.2.1
  unfold pX6_ask_0 at hp
  refine x_aload_n X dX6_ask_0 hl 1 rfl rfl ?_
  obtain ⟨b1_1, e0, hp2⟩ := q_nn_of hp
  clear hp; subst e0; have hp := hp2; clear hp2
  refine q_getR (ci := 4) X V inX4 rfl (by decide) rfl 2 (by decide) rfl (tw_1 217 rfl rfl) rfl dX6_ask_1 hp (fun r1_2 hp => ?_)
  refine x_astore_n (lst' := [(3, .inr r1_2), (0, .inr (some a0)), (1, .inr (some b1_1)), (2, .inl x2)]) X dX6_ask_4 hl rfl (by decide) rfl (fun ls hl => ?_)
  refine x_aload_n X dX6_ask_5 hl 0 rfl rfl ?_
  obtain ⟨b6_3, e0, hp2⟩ := q_nn_of hp
  clear hp; subst e0; have hp := hp2; clear hp2
  refine q_getR (ci := 3) X V inX3 rfl (by decide) rfl 1 (by decide) rfl (tw_1 146 rfl rfl) rfl dX6_ask_6 hp (fun r6_4 hp => ?_)
  refine x_iload_n X dX6_ask_9 hl 3 rfl rfl ?_
  refine lv_iconst (v := (1 : Int32)) hx hb dX6_ask_10 (by decide) ?_
  obtain ⟨b11_5, e0, hp2⟩ := q_nn_of hp
  clear hp; subst e0; have hp := hp2; clear hp2
  refine q_iast X V dX6_ask_11 hp (fun G H locs V hp => ?_)
  refine x_aload_n X dX6_ask_12 hl 0 rfl rfl ?_
  refine q_getR (ci := 3) X V inX3 rfl (by decide) rfl 2 (by decide) rfl (tw_1 148 rfl rfl) rfl dX6_ask_13 hp (fun r13_6 hp => ?_)
  refine x_iload_n X dX6_ask_16 hl 3 rfl rfl ?_
  refine x_aload_n X dX6_ask_17 hl 1 rfl rfl ?_
  refine q_getI (ci := 6) X V inX6 rfl (by decide) rfl 5 (by decide) rfl (tw_1 41 rfl rfl) rfl dX6_ask_18 hp (fun v18_7 hp => ?_)
  obtain ⟨b21_8, e0, hp2⟩ := q_nn_of hp
  clear hp; subst e0; have hp := hp2; clear hp2
  refine q_iast X V dX6_ask_21 hp (fun G H locs V hp => ?_)
  refine x_aload_n X dX6_ask_22 hl 0 rfl rfl ?_
  refine q_getI (ci := 3) X V inX3 rfl (by decide) rfl 6 (by decide) rfl (tw_1 156 rfl rfl) rfl dX6_ask_23 hp (fun v23_9 hp => ?_)
  refine lv_iconst (v := (1 : Int32)) hx hb dX6_ask_26 (by decide) ?_
  refine q_ifn hp (lv_icmp_ne (tgt := 34) hx hb dX6_ask_27 (by decide)) (fun hp => ?_) (fun hp => ?_)
  · refine lv_iconst (v := (0 : Int32)) hx hb dX6_ask_34 (by decide) ?_
    exact bX6_ask_35 X hr V (lx_sub hl [1, 2, 3, 0] rfl) hp
  · refine lv_iconst (v := (1 : Int32)) hx hb dX6_ask_30 (by decide) ?_
    refine lv_goto (tgt := 35) hx hb dX6_ask_31 (by decide) ?_
    exact bX6_ask_35 X hr V (lx_sub hl [1, 2, 3, 0] rfl) hp
theorem cX6_ask (l : Launch) (E : mm_E) {N a0 : Nat} {G : mm_M} {x1 : Option Nat} {x2 : Int32} {res : mm_M × Unit} (hp : pX6_ask_0 N a0 G x1 x2 = some res) : Met l yX6_ask (Cond.code yX6_ask prog_1_method_29_code 5 none :: tw_T) rX6_ask (mm_Pc E G [.ref a0, va_rf x1, .int x2]) (mm_Qv E res.1) 0 0 (mm_A E) :=
  mm_met (own := "XorOverlay") E G [.inr (some a0), .inr x1, .inl x2] (by decide) rfl rfl (Nat.le_of_ble_eq_true rfl) (fun p e s m args below meth c ls X hr hi V hl => bX6_ask_0 X hr V hl hp)
abbrev yX6_sendStores : MethodName := ⟨"XorOverlay", "sendStores", "(LXorOverlay$Peer;)V"⟩
abbrev rX6_sendStores : Room := { frames := 2, cells := 0, slots := 0, locals := 51 }
theorem kX6_sendStores : Cond.code yX6_sendStores prog_1_method_30_code 5 none ∈ tw_T ∧ Cond.instanceMethod yX6_sendStores ∈ tw_T ∧ Cond.selects "XorOverlay" yX6_sendStores yX6_sendStores ∈ tw_T ∧ Cond.initialized "XorOverlay" ∈ tw_T := ⟨(tw_2 111 rfl rfl), (tw_2 110 rfl rfl), (tw_s 9 rfl rfl), (tw_1 1 rfl rfl)⟩
theorem hX6_sendStores : yX6_sendStores.cls = "XorOverlay" ∧ yX6_sendStores.cls ≠ "java/lang/invoke/MethodHandle" ∧ yX6_sendStores.cls ≠ "java/lang/invoke/VarHandle" ∧ (parseMethodDescriptor yX6_sendStores.desc).map (fun d => d.parameters.length) = some 1 := by decide +kernel
theorem dX6_sendStores_0 : decode prog_1_method_30_code 0 = .ok (.aload_n 1, 1) := by decide +kernel
theorem dX6_sendStores_1 : decode prog_1_method_30_code 1 = .ok (.getfield 72, 3) := by decide +kernel
theorem dX6_sendStores_4 : decode prog_1_method_30_code 4 = .ok (.astore_n 2, 1) := by decide +kernel
theorem dX6_sendStores_5 : decode prog_1_method_30_code 5 = .ok (.iconst 0, 1) := by decide +kernel
theorem dX6_sendStores_6 : decode prog_1_method_30_code 6 = .ok (.istore_n 3, 1) := by decide +kernel
theorem dX6_sendStores_7 : decode prog_1_method_30_code 7 = .ok (.iconst 0, 1) := by decide +kernel
theorem dX6_sendStores_8 : decode prog_1_method_30_code 8 = .ok (.istore 4, 2) := by decide +kernel
theorem dX6_sendStores_10 : decode prog_1_method_30_code 10 = .ok (.iload 4, 2) := by decide +kernel
theorem dX6_sendStores_12 : decode prog_1_method_30_code 12 = .ok (.aload_n 2, 1) := by decide +kernel
theorem dX6_sendStores_13 : decode prog_1_method_30_code 13 = .ok (.getfield 236, 3) := by decide +kernel
theorem dX6_sendStores_16 : decode prog_1_method_30_code 16 = .ok (.if_icmp .ge 70, 3) := by decide +kernel
theorem dX6_sendStores_19 : decode prog_1_method_30_code 19 = .ok (.iload_n 3, 1) := by decide +kernel
theorem dX6_sendStores_20 : decode prog_1_method_30_code 20 = .ok (.iconst 3, 1) := by decide +kernel
theorem dX6_sendStores_21 : decode prog_1_method_30_code 21 = .ok (.if_icmp .ge 65, 3) := by decide +kernel
theorem dX6_sendStores_24 : decode prog_1_method_30_code 24 = .ok (.aload_n 2, 1) := by decide +kernel
theorem dX6_sendStores_25 : decode prog_1_method_30_code 25 = .ok (.getfield 135, 3) := by decide +kernel
theorem dX6_sendStores_28 : decode prog_1_method_30_code 28 = .ok (.iload 4, 2) := by decide +kernel
theorem dX6_sendStores_30 : decode prog_1_method_30_code 30 = .ok (.iaload, 1) := by decide +kernel
theorem dX6_sendStores_31 : decode prog_1_method_30_code 31 = .ok (.iconst 3, 1) := by decide +kernel
theorem dX6_sendStores_32 : decode prog_1_method_30_code 32 = .ok (.if_icmp .eq 48, 3) := by decide +kernel
theorem dX6_sendStores_35 : decode prog_1_method_30_code 35 = .ok (.aload_n 0, 1) := by decide +kernel
theorem dX6_sendStores_36 : decode prog_1_method_30_code 36 = .ok (.iconst 3, 1) := by decide +kernel
theorem dX6_sendStores_37 : decode prog_1_method_30_code 37 = .ok (.aload_n 1, 1) := by decide +kernel
theorem dX6_sendStores_38 : decode prog_1_method_30_code 38 = .ok (.getfield 180, 3) := by decide +kernel
theorem dX6_sendStores_41 : decode prog_1_method_30_code 41 = .ok (.aload_n 2, 1) := by decide +kernel
theorem dX6_sendStores_42 : decode prog_1_method_30_code 42 = .ok (.getfield 132, 3) := by decide +kernel
theorem dX6_sendStores_45 : decode prog_1_method_30_code 45 = .ok (.iload 4, 2) := by decide +kernel
theorem dX6_sendStores_47 : decode prog_1_method_30_code 47 = .ok (.iaload, 1) := by decide +kernel
theorem dX6_sendStores_48 : decode prog_1_method_30_code 48 = .ok (.aload_n 2, 1) := by decide +kernel
theorem dX6_sendStores_49 : decode prog_1_method_30_code 49 = .ok (.getfield 222, 3) := by decide +kernel
theorem dX6_sendStores_52 : decode prog_1_method_30_code 52 = .ok (.aload_n 2, 1) := by decide +kernel
theorem dX6_sendStores_53 : decode prog_1_method_30_code 53 = .ok (.getfield 225, 3) := by decide +kernel
theorem dX6_sendStores_56 : decode prog_1_method_30_code 56 = .ok (.aload_n 2, 1) := by decide +kernel
theorem dX6_sendStores_57 : decode prog_1_method_30_code 57 = .ok (.getfield 237, 3) := by decide +kernel
theorem dX6_sendStores_60 : decode prog_1_method_30_code 60 = .ok (.iload 4, 2) := by decide +kernel
theorem dX6_sendStores_62 : decode prog_1_method_30_code 62 = .ok (.iaload, 1) := by decide +kernel
theorem dX6_sendStores_63 : decode prog_1_method_30_code 63 = .ok (.invokevirtual 228, 3) := by decide +kernel
theorem dX6_sendStores_66 : decode prog_1_method_30_code 66 = .ok (.aload_n 0, 1) := by decide +kernel
theorem dX6_sendStores_67 : decode prog_1_method_30_code 67 = .ok (.getfield 18, 3) := by decide +kernel
theorem dX6_sendStores_70 : decode prog_1_method_30_code 70 = .ok (.aload_n 0, 1) := by decide +kernel
theorem dX6_sendStores_71 : decode prog_1_method_30_code 71 = .ok (.getfield 22, 3) := by decide +kernel
theorem dX6_sendStores_74 : decode prog_1_method_30_code 74 = .ok (.invokevirtual 232, 3) := by decide +kernel
theorem dX6_sendStores_77 : decode prog_1_method_30_code 77 = .ok (.iinc 3 1, 3) := by decide +kernel
theorem dX6_sendStores_80 : decode prog_1_method_30_code 80 = .ok (.iinc 4 1, 3) := by decide +kernel
theorem dX6_sendStores_83 : decode prog_1_method_30_code 83 = .ok (.goto (-73), 3) := by decide +kernel
theorem dX6_sendStores_86 : decode prog_1_method_30_code 86 = .ok (.return_, 1) := by decide +kernel
def pX6_sendStores_10_b (N a0 : Nat) (kb : mm_M → Option Nat → Option Nat → Int32 → Int32 → Option (mm_M × Unit)) (kx : mm_M → Option (mm_M × Unit)) (G : mm_M) (x1 : Option Nat) (x2 : Option Nat) (x3 : Int32) (x4 : Int32) : Option (mm_M × Unit) :=
  q_nn x2 fun b13_3 =>
  q_gI G b13_3 4 9 fun v13_4 =>
  if v13_4 ≤ x4 then
    kx G
  else
    if (3 : Int32) ≤ x3 then
      kx G
    else
      q_gR G b13_3 4 1 fun r25_5 =>
      q_nn r25_5 fun b30_6 =>
      q_aI G b30_6 101 x4 fun v30_7 =>
      if v30_7 = (3 : Int32) then
        kb G x1 (some b13_3) x3 (x4 + (1 : Int32))
      else
        q_nn x1 fun b38_8 =>
        q_gI G b38_8 5 0 fun v38_9 =>
        q_gR G b13_3 4 0 fun r42_10 =>
        q_nn r42_10 fun b47_11 =>
        q_aI G b47_11 101 x4 fun v47_12 =>
        q_gI G b13_3 4 8 fun v49_13 =>
        q_gI G b13_3 4 7 fun v53_14 =>
        q_gR G b13_3 4 3 fun r57_15 =>
        q_nn r57_15 fun b62_16 =>
        q_aI G b62_16 101 x4 fun v62_17 =>
        q_is G a0 7 <|
        q_cl (pX6_write_0 N a0 G (3 : Int32) v38_9 v47_12 v49_13 v53_14 v62_17) fun G _ =>
        q_gR G a0 7 1 fun r67_19 =>
        q_gR G a0 7 2 fun r71_20 =>
        q_nn r67_19 fun b74_21 =>
        q_is G b74_21 3 <|
        q_cl (pX2_addOrLose_0 N b74_21 G r71_20) fun G _ =>
        kb G (some b38_8) (some b13_3) (x3 + (1 : Int32)) (x4 + (1 : Int32))
def pX6_sendStores_10 (N a0 : Nat) (kx : mm_M → Option (mm_M × Unit)) : Nat → mm_M → Option Nat → Option Nat → Int32 → Int32 → Option (mm_M × Unit)
  | 0 => fun _ _ _ _ _ => none
  | n + 1 => pX6_sendStores_10_b N a0 (pX6_sendStores_10 N a0 kx n) kx
set_option maxRecDepth 100000 in
set_option maxHeartbeats 4000000 in
theorem bX6_sendStores_10 {p : Program} {l : Launch} {e : Env} {s : State} {m : MethodId} {args : Array Value} {below : List Frame} {meth : Method} {c : Code} {E : mm_E} {N a0 : Nat} {res : mm_M × Unit} (X : mm_X p s m args meth c prog_1_method_30_code 5 "XorOverlay" tw_T E) (hr : meth.sig.returnType = none) {kx : mm_M → Option (mm_M × Unit)} (hkx : ∀ (G : mm_M) (H : Heap) (locs : List Loc) (ls : Array Slot), mm_V E s G H locs → lx_has ls 5 [(0, .inr (some a0))] → kx G = some res → W p l e rX6_sendStores s m args below meth c H locs 0 0 (MQ below (mm_Qv E res.1) args s 0 0 (mm_A E)) (F0 m 86 ls [])) :
    ∀ (n : Nat) (G : mm_M) (H : Heap) (locs : List Loc) (ls : Array Slot) (x1 : Option Nat) (x2 : Option Nat) (x3 : Int32) (x4 : Int32), mm_V E s G H locs → lx_has ls 5 [(0, .inr (some a0)), (1, .inr x1), (2, .inr x2), (3, .inl x3), (4, .inl x4)] → pX6_sendStores_10 N a0 kx n G x1 x2 x3 x4 = some res → W p l e rX6_sendStores s m args below meth c H locs 0 0 (MQ below (mm_Qv E res.1) args s 0 0 (mm_A E)) (F0 m 10 ls []) := by
  have hx := X.1.1
  have hb := X.1.2.1
  intro n
  induction n with
  | zero =>
    intro G H locs ls x1 x2 x3 x4 V hl hp
    cases hp
  | succ n ih =>
    intro G H locs ls x1 x2 x3 x4 V hl hp
    have hp : pX6_sendStores_10_b N a0 (pX6_sendStores_10 N a0 kx n) kx G x1 x2 x3 x4 = some res := hp
    unfold pX6_sendStores_10_b at hp
    refine x_iload X dX6_sendStores_10 hl 4 rfl ?_
    refine x_aload_n X dX6_sendStores_12 hl 2 rfl rfl ?_
    obtain ⟨b13_3, e0, hp2⟩ := q_nn_of hp
    clear hp; subst e0; have hp := hp2; clear hp2
    refine q_getI (ci := 3) X V inX3 rfl (by decide) rfl 9 (by decide) rfl (tw_1 162 rfl rfl) rfl dX6_sendStores_13 hp (fun v13_4 hp => ?_)
    refine q_if hp (lv_icmp_ge (tgt := 86) hx hb dX6_sendStores_16 (by decide)) (fun hp => ?_) (fun hp => ?_)
    · exact hkx _ _ _ _ V (lx_sub hl [0] rfl) hp
    · refine x_iload_n X dX6_sendStores_19 hl 3 rfl rfl ?_
      refine lv_iconst (v := (3 : Int32)) hx hb dX6_sendStores_20 (by decide) ?_
      refine q_if hp (lv_icmp_ge (tgt := 86) hx hb dX6_sendStores_21 (by decide)) (fun hp => ?_) (fun hp => ?_)
      · exact hkx _ _ _ _ V (lx_sub hl [0] rfl) hp
      · refine x_aload_n X dX6_sendStores_24 hl 2 rfl rfl ?_
        refine q_getR (ci := 3) X V inX3 rfl (by decide) rfl 1 (by decide) rfl (tw_1 146 rfl rfl) rfl dX6_sendStores_25 hp (fun r25_5 hp => ?_)
        refine x_iload X dX6_sendStores_28 hl 4 rfl ?_
        obtain ⟨b30_6, e0, hp2⟩ := q_nn_of hp
        clear hp; subst e0; have hp := hp2; clear hp2
        refine q_iald X V dX6_sendStores_30 hp (fun v30_7 hp => ?_)
        refine lv_iconst (v := (3 : Int32)) hx hb dX6_sendStores_31 (by decide) ?_
        refine q_if hp (lv_icmp_eq (tgt := 80) hx hb dX6_sendStores_32 (by decide)) (fun hp => ?_) (fun hp => ?_)
        · refine x_iinc (v := (1 : Int32)) (lst' := [(4, .inl (x4 + (1 : Int32))), (0, .inr (some a0)), (1, .inr x1), (2, .inr (some b13_3)), (3, .inl x3)]) X dX6_sendStores_80 hl 4 rfl (by decide) (by decide) rfl (fun ls hl => ?_)
          refine lv_goto (tgt := 10) hx hb dX6_sendStores_83 (by decide) ?_
          exact ih _ _ _ _ _ _ _ _ V (lx_sub hl [1, 2, 3, 4, 0] rfl) hp
        · refine x_aload_n X dX6_sendStores_35 hl 0 rfl rfl ?_
          refine lv_iconst (v := (3 : Int32)) hx hb dX6_sendStores_36 (by decide) ?_
          refine x_aload_n X dX6_sendStores_37 hl 1 rfl rfl ?_
          obtain ⟨b38_8, e0, hp2⟩ := q_nn_of hp
          clear hp; subst e0; have hp := hp2; clear hp2
          refine q_getI (ci := 4) X V inX4 rfl (by decide) rfl 0 (by decide) rfl (tw_1 213 rfl rfl) rfl dX6_sendStores_38 hp (fun v38_9 hp => ?_)
          refine x_aload_n X dX6_sendStores_41 hl 2 rfl rfl ?_
          refine q_getR (ci := 3) X V inX3 rfl (by decide) rfl 0 (by decide) rfl (tw_1 144 rfl rfl) rfl dX6_sendStores_42 hp (fun r42_10 hp => ?_)
          refine x_iload X dX6_sendStores_45 hl 4 rfl ?_
          obtain ⟨b47_11, e0, hp2⟩ := q_nn_of hp
          clear hp; subst e0; have hp := hp2; clear hp2
          refine q_iald X V dX6_sendStores_47 hp (fun v47_12 hp => ?_)
          refine x_aload_n X dX6_sendStores_48 hl 2 rfl rfl ?_
          refine q_getI (ci := 3) X V inX3 rfl (by decide) rfl 8 (by decide) rfl (tw_1 160 rfl rfl) rfl dX6_sendStores_49 hp (fun v49_13 hp => ?_)
          refine x_aload_n X dX6_sendStores_52 hl 2 rfl rfl ?_
          refine q_getI (ci := 3) X V inX3 rfl (by decide) rfl 7 (by decide) rfl (tw_1 158 rfl rfl) rfl dX6_sendStores_53 hp (fun v53_14 hp => ?_)
          refine x_aload_n X dX6_sendStores_56 hl 2 rfl rfl ?_
          refine q_getR (ci := 3) X V inX3 rfl (by decide) rfl 3 (by decide) rfl (tw_1 150 rfl rfl) rfl dX6_sendStores_57 hp (fun r57_15 hp => ?_)
          refine x_iload X dX6_sendStores_60 hl 4 rfl ?_
          obtain ⟨b62_16, e0, hp2⟩ := q_nn_of hp
          clear hp; subst e0; have hp := hp2; clear hp2
          refine q_iald X V dX6_sendStores_62 hp (fun v62_17 hp => ?_)
          obtain ⟨hk, hp⟩ := q_is_of hp
          obtain ⟨⟨G, u⟩, hq, hp⟩ := q_cl_of hp
          dsimp only at hp
          refine q_gov (cells' := 0) (slots' := 0) (va_runV (As := [.int (3 : Int32), .int v38_9, .int v47_12, .int v49_13, .int v53_14, .int v62_17]) (rest := []) X.1 (cX6_write l E hq) (tw_cwV 6 X.1.2.2.2.2 (tw_2 93 rfl rfl) kX6_write.2.1 kX6_write.2.2.1 kX6_write.2.2.2 kX6_write.1 rfl rfl hX6_write ⟨Nat.le_of_ble_eq_true rfl, Nat.le_of_ble_eq_true rfl⟩) (mm_preV X V rfl (by decide) rfl hk) rfl rfl hl.1 rfl (lv_room (Nat.le_of_ble_eq_true rfl)) dX6_sendStores_63 ⟨by decide, by decide⟩) V ⟨rfl, rfl⟩ (fun H locs V => ?_)
          refine x_aload_n X dX6_sendStores_66 hl 0 rfl rfl ?_
          refine q_getR (ci := 6) X V inX6 rfl (by decide) rfl 1 (by decide) rfl (tw_1 37 rfl rfl) rfl dX6_sendStores_67 hp (fun r67_19 hp => ?_)
          refine x_aload_n X dX6_sendStores_70 hl 0 rfl rfl ?_
          refine q_getR (ci := 6) X V inX6 rfl (by decide) rfl 2 (by decide) rfl (tw_1 38 rfl rfl) rfl dX6_sendStores_71 hp (fun r71_20 hp => ?_)
          obtain ⟨b74_21, e0, hp2⟩ := q_nn_of hp
          clear hp; subst e0; have hp := hp2; clear hp2
          obtain ⟨hk, hp⟩ := q_is_of hp
          obtain ⟨⟨G, u⟩, hq, hp⟩ := q_cl_of hp
          dsimp only at hp
          refine q_gov (cells' := 0) (slots' := 0) (va_runV (As := [va_rf r71_20]) (rest := []) X.1 (cX2_addOrLose l E hq) (tw_cwV 1 X.1.2.2.2.2 (tw_2 100 rfl rfl) kX2_addOrLose.2.1 kX2_addOrLose.2.2.1 kX2_addOrLose.2.2.2 kX2_addOrLose.1 rfl rfl hX2_addOrLose ⟨Nat.le_of_ble_eq_true rfl, Nat.le_of_ble_eq_true rfl⟩) (mm_preV X V rfl (by decide) rfl hk) rfl rfl hl.1 rfl (lv_room (Nat.le_of_ble_eq_true rfl)) dX6_sendStores_74 ⟨by decide, by decide⟩) V ⟨rfl, rfl⟩ (fun H locs V => ?_)
          refine x_iinc (v := (1 : Int32)) (lst' := [(3, .inl (x3 + (1 : Int32))), (0, .inr (some a0)), (1, .inr (some b38_8)), (2, .inr (some b13_3)), (4, .inl x4)]) X dX6_sendStores_77 hl 3 rfl (by decide) (by decide) rfl (fun ls hl => ?_)
          refine x_iinc (v := (1 : Int32)) (lst' := [(4, .inl (x4 + (1 : Int32))), (3, .inl (x3 + (1 : Int32))), (0, .inr (some a0)), (1, .inr (some b38_8)), (2, .inr (some b13_3))]) X dX6_sendStores_80 hl 4 rfl (by decide) (by decide) rfl (fun ls hl => ?_)
          refine lv_goto (tgt := 10) hx hb dX6_sendStores_83 (by decide) ?_
          exact ih _ _ _ _ _ _ _ _ V (lx_sub hl [2, 3, 4, 1, 0] rfl) hp
def pX6_sendStores_0 (N a0 : Nat) (G : mm_M) (x1 : Option Nat) : Option (mm_M × Unit) :=
  q_nn x1 fun b1_1 =>
  q_gR G b1_1 5 2 fun r1_2 =>
  pX6_sendStores_10 N a0 (fun (G : mm_M) =>
    some (G, ())) N G (some b1_1) r1_2 (0 : Int32) (0 : Int32)
set_option maxRecDepth 100000 in
set_option maxHeartbeats 4000000 in
theorem bX6_sendStores_0 {p : Program} {l : Launch} {e : Env} {s : State} {m : MethodId} {args : Array Value} {below : List Frame} {meth : Method} {c : Code} {E : mm_E} {N a0 : Nat} {res : mm_M × Unit} (X : mm_X p s m args meth c prog_1_method_30_code 5 "XorOverlay" tw_T E) (hr : meth.sig.returnType = none) {G : mm_M} {H : Heap} {locs : List Loc} {ls : Array Slot} {x1 : Option Nat} (V : mm_V E s G H locs) (hl : lx_has ls 5 [(0, .inr (some a0)), (1, .inr x1)]) (hp : pX6_sendStores_0 N a0 G x1 = some res) : W p l e rX6_sendStores s m args below meth c H locs 0 0 (MQ below (mm_Qv E res.1) args s 0 0 (mm_A E)) (F0 m 0 ls []) := by
  have hx := X.1.1
  have hb := X.1.2.1
  unfold pX6_sendStores_0 at hp
  refine x_aload_n X dX6_sendStores_0 hl 1 rfl rfl ?_
  obtain ⟨b1_1, e0, hp2⟩ := q_nn_of hp
  clear hp; subst e0; have hp := hp2; clear hp2
  refine q_getR (ci := 4) X V inX4 rfl (by decide) rfl 2 (by decide) rfl (tw_1 217 rfl rfl) rfl dX6_sendStores_1 hp (fun r1_2 hp => ?_)
  refine x_astore_n (lst' := [(2, .inr r1_2), (0, .inr (some a0)), (1, .inr (some b1_1))]) X dX6_sendStores_4 hl rfl (by decide) rfl (fun ls hl => ?_)
  refine lv_iconst (v := (0 : Int32)) hx hb dX6_sendStores_5 (by decide) ?_
  refine x_istore_n (lst' := [(3, .inl (0 : Int32)), (2, .inr r1_2), (0, .inr (some a0)), (1, .inr (some b1_1))]) X dX6_sendStores_6 hl rfl (by decide) rfl (fun ls hl => ?_)
  refine lv_iconst (v := (0 : Int32)) hx hb dX6_sendStores_7 (by decide) ?_
  refine x_istore (lst' := [(4, .inl (0 : Int32)), (3, .inl (0 : Int32)), (2, .inr r1_2), (0, .inr (some a0)), (1, .inr (some b1_1))]) X dX6_sendStores_8 hl (by decide) rfl (fun ls hl => ?_)
  refine bX6_sendStores_10 X hr (fun G H locs ls V hl hp => ?_) _ _ _ _ _ _ _ _ _ V (lx_sub hl [3, 4, 2, 1, 0] rfl) hp
  exact q_vret X V hr ⟨by decide, by decide⟩ dX6_sendStores_86 hp
theorem cX6_sendStores (l : Launch) (E : mm_E) {N a0 : Nat} {G : mm_M} {x1 : Option Nat} {res : mm_M × Unit} (hp : pX6_sendStores_0 N a0 G x1 = some res) : Met l yX6_sendStores (Cond.code yX6_sendStores prog_1_method_30_code 5 none :: tw_T) rX6_sendStores (mm_Pc E G [.ref a0, va_rf x1]) (mm_Qv E res.1) 0 0 (mm_A E) :=
  mm_met (own := "XorOverlay") E G [.inr (some a0), .inr x1] (by decide) rfl rfl (Nat.le_of_ble_eq_true rfl) (fun p e s m args below meth c ls X hr hi V hl => bX6_sendStores_0 X hr V hl hp)
abbrev yX6_goOn : MethodName := ⟨"XorOverlay", "goOn", "(LXorOverlay$Peer;)V"⟩
abbrev rX6_goOn : Room := { frames := 3, cells := 0, slots := 0, locals := 75 }
theorem kX6_goOn : Cond.code yX6_goOn prog_1_method_28_code 5 none ∈ tw_T ∧ Cond.instanceMethod yX6_goOn ∈ tw_T ∧ Cond.selects "XorOverlay" yX6_goOn yX6_goOn ∈ tw_T ∧ Cond.initialized "XorOverlay" ∈ tw_T := ⟨(tw_2 80 rfl rfl), (tw_2 79 rfl rfl), (tw_s 6 rfl rfl), (tw_1 1 rfl rfl)⟩
theorem hX6_goOn : yX6_goOn.cls = "XorOverlay" ∧ yX6_goOn.cls ≠ "java/lang/invoke/MethodHandle" ∧ yX6_goOn.cls ≠ "java/lang/invoke/VarHandle" ∧ (parseMethodDescriptor yX6_goOn.desc).map (fun d => d.parameters.length) = some 1 := by decide +kernel
theorem dX6_goOn_0 : decode prog_1_method_28_code 0 = .ok (.aload_n 1, 1) := by decide +kernel
theorem dX6_goOn_1 : decode prog_1_method_28_code 1 = .ok (.getfield 72, 3) := by decide +kernel
theorem dX6_goOn_4 : decode prog_1_method_28_code 4 = .ok (.astore_n 2, 1) := by decide +kernel
theorem dX6_goOn_5 : decode prog_1_method_28_code 5 = .ok (.aload_n 2, 1) := by decide +kernel
theorem dX6_goOn_6 : decode prog_1_method_28_code 6 = .ok (.invokevirtual 202, 3) := by decide +kernel
theorem dX6_goOn_9 : decode prog_1_method_28_code 9 = .ok (.istore_n 3, 1) := by decide +kernel
theorem dX6_goOn_10 : decode prog_1_method_28_code 10 = .ok (.iconst 0, 1) := by decide +kernel
theorem dX6_goOn_11 : decode prog_1_method_28_code 11 = .ok (.istore 4, 2) := by decide +kernel
theorem dX6_goOn_13 : decode prog_1_method_28_code 13 = .ok (.iload 4, 2) := by decide +kernel
theorem dX6_goOn_15 : decode prog_1_method_28_code 15 = .ok (.iconst 2, 1) := by decide +kernel
theorem dX6_goOn_16 : decode prog_1_method_28_code 16 = .ok (.if_icmp .ge 25, 3) := by decide +kernel
theorem dX6_goOn_19 : decode prog_1_method_28_code 19 = .ok (.iload_n 3, 1) := by decide +kernel
theorem dX6_goOn_20 : decode prog_1_method_28_code 20 = .ok (.iconst (-1), 1) := by decide +kernel
theorem dX6_goOn_21 : decode prog_1_method_28_code 21 = .ok (.if_icmp .eq 20, 3) := by decide +kernel
theorem dX6_goOn_24 : decode prog_1_method_28_code 24 = .ok (.aload_n 0, 1) := by decide +kernel
theorem dX6_goOn_25 : decode prog_1_method_28_code 25 = .ok (.aload_n 1, 1) := by decide +kernel
theorem dX6_goOn_26 : decode prog_1_method_28_code 26 = .ok (.iload_n 3, 1) := by decide +kernel
theorem dX6_goOn_27 : decode prog_1_method_28_code 27 = .ok (.invokevirtual 206, 3) := by decide +kernel
theorem dX6_goOn_30 : decode prog_1_method_28_code 30 = .ok (.aload_n 2, 1) := by decide +kernel
theorem dX6_goOn_31 : decode prog_1_method_28_code 31 = .ok (.invokevirtual 202, 3) := by decide +kernel
theorem dX6_goOn_34 : decode prog_1_method_28_code 34 = .ok (.istore_n 3, 1) := by decide +kernel
theorem dX6_goOn_35 : decode prog_1_method_28_code 35 = .ok (.iinc 4 1, 3) := by decide +kernel
theorem dX6_goOn_38 : decode prog_1_method_28_code 38 = .ok (.goto (-25), 3) := by decide +kernel
theorem dX6_goOn_41 : decode prog_1_method_28_code 41 = .ok (.aload_n 2, 1) := by decide +kernel
theorem dX6_goOn_42 : decode prog_1_method_28_code 42 = .ok (.invokevirtual 210, 3) := by decide +kernel
theorem dX6_goOn_45 : decode prog_1_method_28_code 45 = .ok (.ifCond .ne 21, 3) := by decide +kernel
theorem dX6_goOn_48 : decode prog_1_method_28_code 48 = .ok (.aload_n 2, 1) := by decide +kernel
theorem dX6_goOn_49 : decode prog_1_method_28_code 49 = .ok (.iconst 2, 1) := by decide +kernel
theorem dX6_goOn_50 : decode prog_1_method_28_code 50 = .ok (.putfield 126, 3) := by decide +kernel
theorem dX6_goOn_53 : decode prog_1_method_28_code 53 = .ok (.aload_n 2, 1) := by decide +kernel
theorem dX6_goOn_54 : decode prog_1_method_28_code 54 = .ok (.getfield 213, 3) := by decide +kernel
theorem dX6_goOn_57 : decode prog_1_method_28_code 57 = .ok (.iconst 2, 1) := by decide +kernel
theorem dX6_goOn_58 : decode prog_1_method_28_code 58 = .ok (.if_icmp .ne 8, 3) := by decide +kernel
theorem dX6_goOn_61 : decode prog_1_method_28_code 61 = .ok (.aload_n 0, 1) := by decide +kernel
theorem dX6_goOn_62 : decode prog_1_method_28_code 62 = .ok (.aload_n 1, 1) := by decide +kernel
theorem dX6_goOn_63 : decode prog_1_method_28_code 63 = .ok (.invokevirtual 216, 3) := by decide +kernel
theorem dX6_goOn_66 : decode prog_1_method_28_code 66 = .ok (.return_, 1) := by decide +kernel
def pX6_goOn_13_b (N a0 : Nat) (kb : mm_M → Option Nat → Option Nat → Int32 → Int32 → Option (mm_M × Unit)) (kx : mm_M → Option Nat → Option Nat → Option (mm_M × Unit)) (G : mm_M) (x1 : Option Nat) (x2 : Option Nat) (x3 : Int32) (x4 : Int32) : Option (mm_M × Unit) :=
  if (2 : Int32) ≤ x4 then
    kx G x1 x2
  else
    if x3 = (-1 : Int32) then
      kx G x1 x2
    else
      q_is G a0 7 <|
      q_cl (pX6_ask_0 N a0 G x1 x3) fun G _ =>
      q_nn x2 fun b31_7 =>
      q_is G b31_7 4 <|
      q_cl (pX3_nextToAsk_0 N b31_7 G) fun G v31_9 =>
      kb G x1 (some b31_7) v31_9 (x4 + (1 : Int32))
def pX6_goOn_13 (N a0 : Nat) (kx : mm_M → Option Nat → Option Nat → Option (mm_M × Unit)) : Nat → mm_M → Option Nat → Option Nat → Int32 → Int32 → Option (mm_M × Unit)
  | 0 => fun _ _ _ _ _ => none
  | n + 1 => pX6_goOn_13_b N a0 (pX6_goOn_13 N a0 kx n) kx
set_option maxRecDepth 100000 in
set_option maxHeartbeats 4000000 in
theorem bX6_goOn_13 {p : Program} {l : Launch} {e : Env} {s : State} {m : MethodId} {args : Array Value} {below : List Frame} {meth : Method} {c : Code} {E : mm_E} {N a0 : Nat} {res : mm_M × Unit} (X : mm_X p s m args meth c prog_1_method_28_code 5 "XorOverlay" tw_T E) (hr : meth.sig.returnType = none) {kx : mm_M → Option Nat → Option Nat → Option (mm_M × Unit)} (hkx : ∀ (G : mm_M) (H : Heap) (locs : List Loc) (ls : Array Slot) (x1 : Option Nat) (x2 : Option Nat), mm_V E s G H locs → lx_has ls 5 [(0, .inr (some a0)), (1, .inr x1), (2, .inr x2)] → kx G x1 x2 = some res → W p l e rX6_goOn s m args below meth c H locs 0 0 (MQ below (mm_Qv E res.1) args s 0 0 (mm_A E)) (F0 m 41 ls [])) :
    ∀ (n : Nat) (G : mm_M) (H : Heap) (locs : List Loc) (ls : Array Slot) (x1 : Option Nat) (x2 : Option Nat) (x3 : Int32) (x4 : Int32), mm_V E s G H locs → lx_has ls 5 [(0, .inr (some a0)), (1, .inr x1), (2, .inr x2), (3, .inl x3), (4, .inl x4)] → pX6_goOn_13 N a0 kx n G x1 x2 x3 x4 = some res → W p l e rX6_goOn s m args below meth c H locs 0 0 (MQ below (mm_Qv E res.1) args s 0 0 (mm_A E)) (F0 m 13 ls []) := by
  have hx := X.1.1
  have hb := X.1.2.1
  intro n
  induction n with
  | zero =>
    intro G H locs ls x1 x2 x3 x4 V hl hp
    cases hp
  | succ n ih =>
    intro G H locs ls x1 x2 x3 x4 V hl hp
    have hp : pX6_goOn_13_b N a0 (pX6_goOn_13 N a0 kx n) kx G x1 x2 x3 x4 = some res := hp
    unfold pX6_goOn_13_b at hp
    refine x_iload X dX6_goOn_13 hl 4 rfl ?_
    refine lv_iconst (v := (2 : Int32)) hx hb dX6_goOn_15 (by decide) ?_
    refine q_if hp (lv_icmp_ge (tgt := 41) hx hb dX6_goOn_16 (by decide)) (fun hp => ?_) (fun hp => ?_)
    · exact hkx _ _ _ _ _ _ V (lx_sub hl [0, 1, 2] rfl) hp
    · refine x_iload_n X dX6_goOn_19 hl 3 rfl rfl ?_
      refine lv_iconst (v := (-1 : Int32)) hx hb dX6_goOn_20 (by decide) ?_
      refine q_if hp (lv_icmp_eq (tgt := 41) hx hb dX6_goOn_21 (by decide)) (fun hp => ?_) (fun hp => ?_)
      · exact hkx _ _ _ _ _ _ V (lx_sub hl [0, 1, 2] rfl) hp
      · refine x_aload_n X dX6_goOn_24 hl 0 rfl rfl ?_
        refine x_aload_n X dX6_goOn_25 hl 1 rfl rfl ?_
        refine x_iload_n X dX6_goOn_26 hl 3 rfl rfl ?_
        obtain ⟨hk, hp⟩ := q_is_of hp
        obtain ⟨⟨G, u⟩, hq, hp⟩ := q_cl_of hp
        dsimp only at hp
        refine q_gov (cells' := 0) (slots' := 0) (va_runV (As := [va_rf x1, .int x3]) (rest := []) X.1 (cX6_ask l E hq) (tw_cwV 2 X.1.2.2.2.2 (tw_2 89 rfl rfl) kX6_ask.2.1 kX6_ask.2.2.1 kX6_ask.2.2.2 kX6_ask.1 rfl rfl hX6_ask ⟨Nat.le_of_ble_eq_true rfl, Nat.le_of_ble_eq_true rfl⟩) (mm_preV X V rfl (by decide) rfl hk) rfl rfl hl.1 rfl (lv_room (Nat.le_of_ble_eq_true rfl)) dX6_goOn_27 ⟨by decide, by decide⟩) V ⟨rfl, rfl⟩ (fun H locs V => ?_)
        refine x_aload_n X dX6_goOn_30 hl 2 rfl rfl ?_
        obtain ⟨b31_7, e0, hp2⟩ := q_nn_of hp
        clear hp; subst e0; have hp := hp2; clear hp2
        obtain ⟨hk, hp⟩ := q_is_of hp
        obtain ⟨⟨G, v31_9⟩, hq, hp⟩ := q_cl_of hp
        dsimp only at hp
        refine q_goi (cells' := 0) (slots' := 0) (va_runV (As := []) (rest := []) X.1 (cX3_nextToAsk l E hq) (tw_cwV 0 X.1.2.2.2.2 (tw_2 81 rfl rfl) kX3_nextToAsk.2.1 kX3_nextToAsk.2.2.1 kX3_nextToAsk.2.2.2 kX3_nextToAsk.1 rfl rfl hX3_nextToAsk ⟨Nat.le_of_ble_eq_true rfl, Nat.le_of_ble_eq_true rfl⟩) (mm_preV X V rfl (by decide) rfl hk) rfl rfl hl.1 rfl (lv_room (Nat.le_of_ble_eq_true rfl)) dX6_goOn_31 ⟨by decide, by decide⟩) V ⟨rfl, rfl⟩ (fun H locs V => ?_)
        refine x_istore_n (lst' := [(3, .inl v31_9), (0, .inr (some a0)), (1, .inr x1), (2, .inr (some b31_7)), (4, .inl x4)]) X dX6_goOn_34 hl rfl (by decide) rfl (fun ls hl => ?_)
        refine x_iinc (v := (1 : Int32)) (lst' := [(4, .inl (x4 + (1 : Int32))), (3, .inl v31_9), (0, .inr (some a0)), (1, .inr x1), (2, .inr (some b31_7))]) X dX6_goOn_35 hl 4 rfl (by decide) (by decide) rfl (fun ls hl => ?_)
        refine lv_goto (tgt := 13) hx hb dX6_goOn_38 (by decide) ?_
        exact ih _ _ _ _ _ _ _ _ V (lx_sub hl [2, 3, 4, 1, 0] rfl) hp
def pX6_goOn_41 (N a0 : Nat) (G : mm_M) (x1 : Option Nat) (x2 : Option Nat) : Option (mm_M × Unit) :=
  q_nn x2 fun b42_10 =>
  q_is G b42_10 4 <|
  q_cl (pX3_askedCount_0 N b42_10 G) fun G v42_12 =>
  if v42_12 = 0 then
    q_pI G b42_10 4 5 (2 : Int32) fun G =>
    q_gI G b42_10 4 6 fun v54_13 =>
    if v54_13 = (2 : Int32) then
      q_is G a0 7 <|
      q_cl (pX6_sendStores_0 N a0 G x1) fun G _ =>
      some (G, ())
    else
      some (G, ())
  else
    some (G, ())
set_option maxRecDepth 100000 in
set_option maxHeartbeats 4000000 in
theorem bX6_goOn_41 {p : Program} {l : Launch} {e : Env} {s : State} {m : MethodId} {args : Array Value} {below : List Frame} {meth : Method} {c : Code} {E : mm_E} {N a0 : Nat} {res : mm_M × Unit} (X : mm_X p s m args meth c prog_1_method_28_code 5 "XorOverlay" tw_T E) (hr : meth.sig.returnType = none) {G : mm_M} {H : Heap} {locs : List Loc} {ls : Array Slot} {x1 : Option Nat} {x2 : Option Nat} (V : mm_V E s G H locs) (hl : lx_has ls 5 [(0, .inr (some a0)), (1, .inr x1), (2, .inr x2)]) (hp : pX6_goOn_41 N a0 G x1 x2 = some res) : W p l e rX6_goOn s m args below meth c H locs 0 0 (MQ below (mm_Qv E res.1) args s 0 0 (mm_A E)) (F0 m 41 ls []) := by
  have hx := X.1.1
  have hb := X.1.2.1
  unfold pX6_goOn_41 at hp
  refine x_aload_n X dX6_goOn_41 hl 2 rfl rfl ?_
  obtain ⟨b42_10, e0, hp2⟩ := q_nn_of hp
  clear hp; subst e0; have hp := hp2; clear hp2
  obtain ⟨hk, hp⟩ := q_is_of hp
  obtain ⟨⟨G, v42_12⟩, hq, hp⟩ := q_cl_of hp
  dsimp only at hp
  refine q_goi (cells' := 0) (slots' := 0) (va_runV (As := []) (rest := []) X.1 (cX3_askedCount l E hq) (tw_cwV 0 X.1.2.2.2.2 (tw_2 107 rfl rfl) kX3_askedCount.2.1 kX3_askedCount.2.2.1 kX3_askedCount.2.2.2 kX3_askedCount.1 rfl rfl hX3_askedCount ⟨Nat.le_of_ble_eq_true rfl, Nat.le_of_ble_eq_true rfl⟩) (mm_preV X V rfl (by decide) rfl hk) rfl rfl hl.1 rfl (lv_room (Nat.le_of_ble_eq_true rfl)) dX6_goOn_42 ⟨by decide, by decide⟩) V ⟨rfl, rfl⟩ (fun H locs V => ?_)
  refine q_ifn hp (lv_if_ne (tgt := 66) hx hb dX6_goOn_45 (by decide)) (fun hp => ?_) (fun hp => ?_)
  · exact q_vret X V hr ⟨by decide, by decide⟩ dX6_goOn_66 hp
  · refine x_aload_n X dX6_goOn_48 hl 2 rfl rfl ?_
    refine lv_iconst (v := (2 : Int32)) hx hb dX6_goOn_49 (by decide) ?_
    refine q_putI (ci := 3) X V inX3 rfl tyX3 tyX3_ok nmX3 (by decide) rfl 5 (by decide) rfl (tw_1 154 rfl rfl) rfl (Or.inl rfl) .int rfl rfl rfl dX6_goOn_50 hp (fun G H locs V hp => ?_)
    refine x_aload_n X dX6_goOn_53 hl 2 rfl rfl ?_
    refine q_getI (ci := 3) X V inX3 rfl (by decide) rfl 6 (by decide) rfl (tw_1 156 rfl rfl) rfl dX6_goOn_54 hp (fun v54_13 hp => ?_)
    refine lv_iconst (v := (2 : Int32)) hx hb dX6_goOn_57 (by decide) ?_
    refine q_ifn hp (lv_icmp_ne (tgt := 66) hx hb dX6_goOn_58 (by decide)) (fun hp => ?_) (fun hp => ?_)
    · exact q_vret X V hr ⟨by decide, by decide⟩ dX6_goOn_66 hp
    · refine x_aload_n X dX6_goOn_61 hl 0 rfl rfl ?_
      refine x_aload_n X dX6_goOn_62 hl 1 rfl rfl ?_
      obtain ⟨hk, hp⟩ := q_is_of hp
      obtain ⟨⟨G, u⟩, hq, hp⟩ := q_cl_of hp
      dsimp only at hp
      refine q_gov (cells' := 0) (slots' := 0) (va_runV (As := [va_rf x1]) (rest := []) X.1 (cX6_sendStores l E hq) (tw_cwV 1 X.1.2.2.2.2 (tw_2 108 rfl rfl) kX6_sendStores.2.1 kX6_sendStores.2.2.1 kX6_sendStores.2.2.2 kX6_sendStores.1 rfl rfl hX6_sendStores ⟨Nat.le_of_ble_eq_true rfl, Nat.le_of_ble_eq_true rfl⟩) (mm_preV X V rfl (by decide) rfl hk) rfl rfl hl.1 rfl (lv_room (Nat.le_of_ble_eq_true rfl)) dX6_goOn_63 ⟨by decide, by decide⟩) V ⟨rfl, rfl⟩ (fun H locs V => ?_)
      exact q_vret X V hr ⟨by decide, by decide⟩ dX6_goOn_66 hp
def pX6_goOn_0 (N a0 : Nat) (G : mm_M) (x1 : Option Nat) : Option (mm_M × Unit) :=
  q_nn x1 fun b1_1 =>
  q_gR G b1_1 5 2 fun r1_2 =>
  q_nn r1_2 fun b6_3 =>
  q_is G b6_3 4 <|
  q_cl (pX3_nextToAsk_0 N b6_3 G) fun G v6_5 =>
  pX6_goOn_13 N a0 (fun (G : mm_M) (x1 : Option Nat) (x2 : Option Nat) =>
    pX6_goOn_41 N a0 G x1 x2) N G (some b1_1) (some b6_3) v6_5 (0 : Int32)
set_option maxRecDepth 100000 in
set_option maxHeartbeats 4000000 in
theorem bX6_goOn_0 {p : Program} {l : Launch} {e : Env} {s : State} {m : MethodId} {args : Array Value} {below : List Frame} {meth : Method} {c : Code} {E : mm_E} {N a0 : Nat} {res : mm_M × Unit} (X : mm_X p s m args meth c prog_1_method_28_code 5 "XorOverlay" tw_T E) (hr : meth.sig.returnType = none) {G : mm_M} {H : Heap} {locs : List Loc} {ls : Array Slot} {x1 : Option Nat} (V : mm_V E s G H locs) (hl : lx_has ls 5 [(0, .inr (some a0)), (1, .inr x1)]) (hp : pX6_goOn_0 N a0 G x1 = some res) : W p l e rX6_goOn s m args below meth c H locs 0 0 (MQ below (mm_Qv E res.1) args s 0 0 (mm_A E)) (F0 m 0 ls []) := by
  have hx := X.1.1
  have hb := X.1.2.1
  unfold pX6_goOn_0 at hp
  refine x_aload_n X dX6_goOn_0 hl 1 rfl rfl ?_
  obtain ⟨b1_1, e0, hp2⟩ := q_nn_of hp
  clear hp; subst e0; have hp := hp2; clear hp2
  refine q_getR (ci := 4) X V inX4 rfl (by decide) rfl 2 (by decide) rfl (tw_1 217 rfl rfl) rfl dX6_goOn_1 hp (fun r1_2 hp => ?_)
  refine x_astore_n (lst' := [(2, .inr r1_2), (0, .inr (some a0)), (1, .inr (some b1_1))]) X dX6_goOn_4 hl rfl (by decide) rfl (fun ls hl => ?_)
  refine x_aload_n X dX6_goOn_5 hl 0 rfl rfl ?_
  obtain ⟨b6_3, e0, hp2⟩ := q_nn_of hp
  clear hp; subst e0; have hp := hp2; clear hp2
  obtain ⟨hk, hp⟩ := q_is_of hp
  obtain ⟨⟨G, v6_5⟩, hq, hp⟩ := q_cl_of hp
  dsimp only at hp
  refine q_goi (cells' := 0) (slots' := 0) (va_runV (As := []) (rest := []) X.1 (cX3_nextToAsk l E hq) (tw_cwV 0 X.1.2.2.2.2 (tw_2 81 rfl rfl) kX3_nextToAsk.2.1 kX3_nextToAsk.2.2.1 kX3_nextToAsk.2.2.2 kX3_nextToAsk.1 rfl rfl hX3_nextToAsk ⟨Nat.le_of_ble_eq_true rfl, Nat.le_of_ble_eq_true rfl⟩) (mm_preV X V rfl (by decide) rfl hk) rfl rfl hl.1 rfl (lv_room (Nat.le_of_ble_eq_true rfl)) dX6_goOn_6 ⟨by decide, by decide⟩) V ⟨rfl, rfl⟩ (fun H locs V => ?_)
  refine x_istore_n (lst' := [(3, .inl v6_5), (2, .inr (some b6_3)), (0, .inr (some a0)), (1, .inr (some b1_1))]) X dX6_goOn_9 hl rfl (by decide) rfl (fun ls hl => ?_)
  refine lv_iconst (v := (0 : Int32)) hx hb dX6_goOn_10 (by decide) ?_
  refine x_istore (lst' := [(4, .inl (0 : Int32)), (3, .inl v6_5), (2, .inr (some b6_3)), (0, .inr (some a0)), (1, .inr (some b1_1))]) X dX6_goOn_11 hl (by decide) rfl (fun ls hl => ?_)
  refine bX6_goOn_13 X hr (fun G H locs ls x1 x2 V hl hp => ?_) _ _ _ _ _ _ _ _ _ V (lx_sub hl [3, 4, 2, 1, 0] rfl) hp
  exact bX6_goOn_41 X hr V (lx_sub hl [0, 1, 2] rfl) hp
theorem cX6_goOn (l : Launch) (E : mm_E) {N a0 : Nat} {G : mm_M} {x1 : Option Nat} {res : mm_M × Unit} (hp : pX6_goOn_0 N a0 G x1 = some res) : Met l yX6_goOn (Cond.code yX6_goOn prog_1_method_28_code 5 none :: tw_T) rX6_goOn (mm_Pc E G [.ref a0, va_rf x1]) (mm_Qv E res.1) 0 0 (mm_A E) :=
  mm_met (own := "XorOverlay") E G [.inr (some a0), .inr x1] (by decide) rfl rfl (Nat.le_of_ble_eq_true rfl) (fun p e s m args below meth c ls X hr hi V hl => bX6_goOn_0 X hr V hl hp)
abbrev yX6_startLookup : MethodName := ⟨"XorOverlay", "startLookup", "(LXorOverlay$Peer;II)V"⟩
abbrev rX6_startLookup : Room := { frames := 4, cells := 0, slots := 0, locals := 99 }
theorem kX6_startLookup : Cond.code yX6_startLookup prog_1_method_27_code 6 none ∈ tw_T ∧ Cond.instanceMethod yX6_startLookup ∈ tw_T ∧ Cond.selects "XorOverlay" yX6_startLookup yX6_startLookup ∈ tw_T ∧ Cond.initialized "XorOverlay" ∈ tw_T := ⟨(tw_2 55 rfl rfl), (tw_2 54 rfl rfl), (tw_s 5 rfl rfl), (tw_1 1 rfl rfl)⟩
theorem hX6_startLookup : yX6_startLookup.cls = "XorOverlay" ∧ yX6_startLookup.cls ≠ "java/lang/invoke/MethodHandle" ∧ yX6_startLookup.cls ≠ "java/lang/invoke/VarHandle" ∧ (parseMethodDescriptor yX6_startLookup.desc).map (fun d => d.parameters.length) = some 3 := by decide +kernel
theorem dX6_startLookup_0 : decode prog_1_method_27_code 0 = .ok (.aload_n 0, 1) := by decide +kernel
theorem dX6_startLookup_1 : decode prog_1_method_27_code 1 = .ok (.dup, 1) := by decide +kernel
theorem dX6_startLookup_2 : decode prog_1_method_27_code 2 = .ok (.getfield 36, 3) := by decide +kernel
theorem dX6_startLookup_5 : decode prog_1_method_27_code 5 = .ok (.iconst 1, 1) := by decide +kernel
theorem dX6_startLookup_6 : decode prog_1_method_27_code 6 = .ok (.iadd, 1) := by decide +kernel
theorem dX6_startLookup_7 : decode prog_1_method_27_code 7 = .ok (.putfield 36, 3) := by decide +kernel
theorem dX6_startLookup_10 : decode prog_1_method_27_code 10 = .ok (.aload_n 1, 1) := by decide +kernel
theorem dX6_startLookup_11 : decode prog_1_method_27_code 11 = .ok (.getfield 54, 3) := by decide +kernel
theorem dX6_startLookup_14 : decode prog_1_method_27_code 14 = .ok (.iload_n 3, 1) := by decide +kernel
theorem dX6_startLookup_15 : decode prog_1_method_27_code 15 = .ok (.aload_n 0, 1) := by decide +kernel
theorem dX6_startLookup_16 : decode prog_1_method_27_code 16 = .ok (.getfield 33, 3) := by decide +kernel
theorem dX6_startLookup_19 : decode prog_1_method_27_code 19 = .ok (.invokevirtual 189, 3) := by decide +kernel
theorem dX6_startLookup_22 : decode prog_1_method_27_code 22 = .ok (.aload_n 1, 1) := by decide +kernel
theorem dX6_startLookup_23 : decode prog_1_method_27_code 23 = .ok (.getfield 72, 3) := by decide +kernel
theorem dX6_startLookup_26 : decode prog_1_method_27_code 26 = .ok (.iload_n 2, 1) := by decide +kernel
theorem dX6_startLookup_27 : decode prog_1_method_27_code 27 = .ok (.iload_n 3, 1) := by decide +kernel
theorem dX6_startLookup_28 : decode prog_1_method_27_code 28 = .ok (.aload_n 0, 1) := by decide +kernel
theorem dX6_startLookup_29 : decode prog_1_method_27_code 29 = .ok (.getfield 36, 3) := by decide +kernel
theorem dX6_startLookup_32 : decode prog_1_method_27_code 32 = .ok (.invokevirtual 192, 3) := by decide +kernel
theorem dX6_startLookup_35 : decode prog_1_method_27_code 35 = .ok (.aload_n 1, 1) := by decide +kernel
theorem dX6_startLookup_36 : decode prog_1_method_27_code 36 = .ok (.getfield 54, 3) := by decide +kernel
theorem dX6_startLookup_39 : decode prog_1_method_27_code 39 = .ok (.iload_n 3, 1) := by decide +kernel
theorem dX6_startLookup_40 : decode prog_1_method_27_code 40 = .ok (.iconst (-1), 1) := by decide +kernel
theorem dX6_startLookup_41 : decode prog_1_method_27_code 41 = .ok (.iconst (-1), 1) := by decide +kernel
theorem dX6_startLookup_42 : decode prog_1_method_27_code 42 = .ok (.invokevirtual 162, 3) := by decide +kernel
theorem dX6_startLookup_45 : decode prog_1_method_27_code 45 = .ok (.istore 4, 2) := by decide +kernel
theorem dX6_startLookup_47 : decode prog_1_method_27_code 47 = .ok (.iconst 0, 1) := by decide +kernel
theorem dX6_startLookup_48 : decode prog_1_method_27_code 48 = .ok (.istore 5, 2) := by decide +kernel
theorem dX6_startLookup_50 : decode prog_1_method_27_code 50 = .ok (.iload 5, 2) := by decide +kernel
theorem dX6_startLookup_52 : decode prog_1_method_27_code 52 = .ok (.iconst 3, 1) := by decide +kernel
theorem dX6_startLookup_53 : decode prog_1_method_27_code 53 = .ok (.if_icmp .ge 39, 3) := by decide +kernel
theorem dX6_startLookup_56 : decode prog_1_method_27_code 56 = .ok (.iload 4, 2) := by decide +kernel
theorem dX6_startLookup_58 : decode prog_1_method_27_code 58 = .ok (.iconst (-1), 1) := by decide +kernel
theorem dX6_startLookup_59 : decode prog_1_method_27_code 59 = .ok (.if_icmp .eq 33, 3) := by decide +kernel
theorem dX6_startLookup_62 : decode prog_1_method_27_code 62 = .ok (.aload_n 1, 1) := by decide +kernel
theorem dX6_startLookup_63 : decode prog_1_method_27_code 63 = .ok (.getfield 72, 3) := by decide +kernel
theorem dX6_startLookup_66 : decode prog_1_method_27_code 66 = .ok (.iload 4, 2) := by decide +kernel
theorem dX6_startLookup_68 : decode prog_1_method_27_code 68 = .ok (.invokevirtual 196, 3) := by decide +kernel
theorem dX6_startLookup_71 : decode prog_1_method_27_code 71 = .ok (.aload_n 1, 1) := by decide +kernel
theorem dX6_startLookup_72 : decode prog_1_method_27_code 72 = .ok (.getfield 54, 3) := by decide +kernel
theorem dX6_startLookup_75 : decode prog_1_method_27_code 75 = .ok (.iload_n 3, 1) := by decide +kernel
theorem dX6_startLookup_76 : decode prog_1_method_27_code 76 = .ok (.iload 4, 2) := by decide +kernel
theorem dX6_startLookup_78 : decode prog_1_method_27_code 78 = .ok (.iload_n 3, 1) := by decide +kernel
theorem dX6_startLookup_79 : decode prog_1_method_27_code 79 = .ok (.ixor, 1) := by decide +kernel
theorem dX6_startLookup_80 : decode prog_1_method_27_code 80 = .ok (.iconst (-1), 1) := by decide +kernel
theorem dX6_startLookup_81 : decode prog_1_method_27_code 81 = .ok (.invokevirtual 162, 3) := by decide +kernel
theorem dX6_startLookup_84 : decode prog_1_method_27_code 84 = .ok (.istore 4, 2) := by decide +kernel
theorem dX6_startLookup_86 : decode prog_1_method_27_code 86 = .ok (.iinc 5 1, 3) := by decide +kernel
theorem dX6_startLookup_89 : decode prog_1_method_27_code 89 = .ok (.goto (-39), 3) := by decide +kernel
theorem dX6_startLookup_92 : decode prog_1_method_27_code 92 = .ok (.aload_n 0, 1) := by decide +kernel
theorem dX6_startLookup_93 : decode prog_1_method_27_code 93 = .ok (.aload_n 1, 1) := by decide +kernel
theorem dX6_startLookup_94 : decode prog_1_method_27_code 94 = .ok (.invokevirtual 199, 3) := by decide +kernel
theorem dX6_startLookup_97 : decode prog_1_method_27_code 97 = .ok (.return_, 1) := by decide +kernel
def pX6_startLookup_50_b (N a0 : Nat) (kb : mm_M → Option Nat → Int32 → Int32 → Int32 → Option (mm_M × Unit)) (kx : mm_M → Option Nat → Option (mm_M × Unit)) (G : mm_M) (x1 : Option Nat) (x3 : Int32) (x4 : Int32) (x5 : Int32) : Option (mm_M × Unit) :=
  if (3 : Int32) ≤ x5 then
    kx G x1
  else
    if x4 = (-1 : Int32) then
      kx G x1
    else
      q_nn x1 fun b63_15 =>
      q_gR G b63_15 5 2 fun r63_16 =>
      q_nn r63_16 fun b68_17 =>
      q_is G b68_17 4 <|
      q_cl (pX3_addCandidate_0 N b68_17 G x4) fun G _ =>
      q_gR G b63_15 5 1 fun r72_19 =>
      q_nn r72_19 fun b81_20 =>
      q_is G b81_20 6 <|
      q_cl (pX5_closestBeyond_0 N b81_20 G x3 (x4 ^^^ x3) (-1 : Int32)) fun G v81_22 =>
      kb G (some b63_15) x3 v81_22 (x5 + (1 : Int32))
def pX6_startLookup_50 (N a0 : Nat) (kx : mm_M → Option Nat → Option (mm_M × Unit)) : Nat → mm_M → Option Nat → Int32 → Int32 → Int32 → Option (mm_M × Unit)
  | 0 => fun _ _ _ _ _ => none
  | n + 1 => pX6_startLookup_50_b N a0 (pX6_startLookup_50 N a0 kx n) kx
set_option maxRecDepth 100000 in
set_option maxHeartbeats 4000000 in
theorem bX6_startLookup_50 {p : Program} {l : Launch} {e : Env} {s : State} {m : MethodId} {args : Array Value} {below : List Frame} {meth : Method} {c : Code} {E : mm_E} {N a0 : Nat} {res : mm_M × Unit} (X : mm_X p s m args meth c prog_1_method_27_code 6 "XorOverlay" tw_T E) (hr : meth.sig.returnType = none) {kx : mm_M → Option Nat → Option (mm_M × Unit)} (hkx : ∀ (G : mm_M) (H : Heap) (locs : List Loc) (ls : Array Slot) (x1 : Option Nat), mm_V E s G H locs → lx_has ls 6 [(0, .inr (some a0)), (1, .inr x1)] → kx G x1 = some res → W p l e rX6_startLookup s m args below meth c H locs 0 0 (MQ below (mm_Qv E res.1) args s 0 0 (mm_A E)) (F0 m 92 ls [])) :
    ∀ (n : Nat) (G : mm_M) (H : Heap) (locs : List Loc) (ls : Array Slot) (x1 : Option Nat) (x3 : Int32) (x4 : Int32) (x5 : Int32), mm_V E s G H locs → lx_has ls 6 [(0, .inr (some a0)), (1, .inr x1), (3, .inl x3), (4, .inl x4), (5, .inl x5)] → pX6_startLookup_50 N a0 kx n G x1 x3 x4 x5 = some res → W p l e rX6_startLookup s m args below meth c H locs 0 0 (MQ below (mm_Qv E res.1) args s 0 0 (mm_A E)) (F0 m 50 ls []) := by
  have hx := X.1.1
  have hb := X.1.2.1
  intro n
  induction n with
  | zero =>
    intro G H locs ls x1 x3 x4 x5 V hl hp
    cases hp
  | succ n ih =>
    intro G H locs ls x1 x3 x4 x5 V hl hp
    have hp : pX6_startLookup_50_b N a0 (pX6_startLookup_50 N a0 kx n) kx G x1 x3 x4 x5 = some res := hp
    unfold pX6_startLookup_50_b at hp
    refine x_iload X dX6_startLookup_50 hl 4 rfl ?_
    refine lv_iconst (v := (3 : Int32)) hx hb dX6_startLookup_52 (by decide) ?_
    refine q_if hp (lv_icmp_ge (tgt := 92) hx hb dX6_startLookup_53 (by decide)) (fun hp => ?_) (fun hp => ?_)
    · exact hkx _ _ _ _ _ V (lx_sub hl [0, 1] rfl) hp
    · refine x_iload X dX6_startLookup_56 hl 3 rfl ?_
      refine lv_iconst (v := (-1 : Int32)) hx hb dX6_startLookup_58 (by decide) ?_
      refine q_if hp (lv_icmp_eq (tgt := 92) hx hb dX6_startLookup_59 (by decide)) (fun hp => ?_) (fun hp => ?_)
      · exact hkx _ _ _ _ _ V (lx_sub hl [0, 1] rfl) hp
      · refine x_aload_n X dX6_startLookup_62 hl 1 rfl rfl ?_
        obtain ⟨b63_15, e0, hp2⟩ := q_nn_of hp
        clear hp; subst e0; have hp := hp2; clear hp2
        refine q_getR (ci := 4) X V inX4 rfl (by decide) rfl 2 (by decide) rfl (tw_1 217 rfl rfl) rfl dX6_startLookup_63 hp (fun r63_16 hp => ?_)
        refine x_iload X dX6_startLookup_66 hl 3 rfl ?_
        obtain ⟨b68_17, e0, hp2⟩ := q_nn_of hp
        clear hp; subst e0; have hp := hp2; clear hp2
        obtain ⟨hk, hp⟩ := q_is_of hp
        obtain ⟨⟨G, u⟩, hq, hp⟩ := q_cl_of hp
        dsimp only at hp
        refine q_gov (cells' := 0) (slots' := 0) (va_runV (As := [.int x4]) (rest := []) X.1 (cX3_addCandidate l E hq) (tw_cwV 1 X.1.2.2.2.2 (tw_2 69 rfl rfl) kX3_addCandidate.2.1 kX3_addCandidate.2.2.1 kX3_addCandidate.2.2.2 kX3_addCandidate.1 rfl rfl hX3_addCandidate ⟨Nat.le_of_ble_eq_true rfl, Nat.le_of_ble_eq_true rfl⟩) (mm_preV X V rfl (by decide) rfl hk) rfl rfl hl.1 rfl (lv_room (Nat.le_of_ble_eq_true rfl)) dX6_startLookup_68 ⟨by decide, by decide⟩) V ⟨rfl, rfl⟩ (fun H locs V => ?_)
        refine x_aload_n X dX6_startLookup_71 hl 1 rfl rfl ?_
        refine q_getR (ci := 4) X V inX4 rfl (by decide) rfl 1 (by decide) rfl (tw_1 215 rfl rfl) rfl dX6_startLookup_72 hp (fun r72_19 hp => ?_)
        refine x_iload_n X dX6_startLookup_75 hl 2 rfl rfl ?_
        refine x_iload X dX6_startLookup_76 hl 3 rfl ?_
        refine x_iload_n X dX6_startLookup_78 hl 2 rfl rfl ?_
        refine lv_ixor hx hb dX6_startLookup_79 ?_
        refine lv_iconst (v := (-1 : Int32)) hx hb dX6_startLookup_80 (by decide) ?_
        obtain ⟨b81_20, e0, hp2⟩ := q_nn_of hp
        clear hp; subst e0; have hp := hp2; clear hp2
        obtain ⟨hk, hp⟩ := q_is_of hp
        obtain ⟨⟨G, v81_22⟩, hq, hp⟩ := q_cl_of hp
        dsimp only at hp
        refine q_goi (cells' := 0) (slots' := 0) (va_runV (As := [.int x3, .int (x4 ^^^ x3), .int (-1 : Int32)]) (rest := []) X.1 (cX5_closestBeyond l E hq) (tw_cwV 3 X.1.2.2.2.2 (tw_2 65 rfl rfl) kX5_closestBeyond.2.1 kX5_closestBeyond.2.2.1 kX5_closestBeyond.2.2.2 kX5_closestBeyond.1 rfl rfl hX5_closestBeyond ⟨Nat.le_of_ble_eq_true rfl, Nat.le_of_ble_eq_true rfl⟩) (mm_preV X V rfl (by decide) rfl hk) rfl rfl hl.1 rfl (lv_room (Nat.le_of_ble_eq_true rfl)) dX6_startLookup_81 ⟨by decide, by decide⟩) V ⟨rfl, rfl⟩ (fun H locs V => ?_)
        refine x_istore (lst' := [(4, .inl v81_22), (0, .inr (some a0)), (1, .inr (some b63_15)), (3, .inl x3), (5, .inl x5)]) X dX6_startLookup_84 hl (by decide) rfl (fun ls hl => ?_)
        refine x_iinc (v := (1 : Int32)) (lst' := [(5, .inl (x5 + (1 : Int32))), (4, .inl v81_22), (0, .inr (some a0)), (1, .inr (some b63_15)), (3, .inl x3)]) X dX6_startLookup_86 hl 4 rfl (by decide) (by decide) rfl (fun ls hl => ?_)
        refine lv_goto (tgt := 50) hx hb dX6_startLookup_89 (by decide) ?_
        exact ih _ _ _ _ _ _ _ _ V (lx_sub hl [2, 3, 4, 1, 0] rfl) hp
def pX6_startLookup_0 (N a0 : Nat) (G : mm_M) (x1 : Option Nat) (x2 : Int32) (x3 : Int32) : Option (mm_M × Unit) :=
  q_gI G a0 7 6 fun v2_1 =>
  q_pI G a0 7 6 (v2_1 + (1 : Int32)) fun G =>
  q_nn x1 fun b11_2 =>
  q_gR G b11_2 5 1 fun r11_3 =>
  q_gI G a0 7 5 fun v16_4 =>
  q_nn r11_3 fun b19_5 =>
  q_is G b19_5 6 <|
  q_cl (pX5_touch_0 N b19_5 G x3 v16_4) fun G _ =>
  q_gR G b11_2 5 2 fun r23_7 =>
  q_gI G a0 7 6 fun v29_8 =>
  q_nn r23_7 fun b32_9 =>
  q_is G b32_9 4 <|
  q_cl (pX3_start_0 N b32_9 G x2 x3 v29_8) fun G _ =>
  q_gR G b11_2 5 1 fun r36_11 =>
  q_nn r36_11 fun b42_12 =>
  q_is G b42_12 6 <|
  q_cl (pX5_closestBeyond_0 N b42_12 G x3 (-1 : Int32) (-1 : Int32)) fun G v42_14 =>
  pX6_startLookup_50 N a0 (fun (G : mm_M) (x1 : Option Nat) =>
    q_is G a0 7 <|
    q_cl (pX6_goOn_0 N a0 G x1) fun G _ =>
    some (G, ())) N G (some b11_2) x3 v42_14 (0 : Int32)
set_option maxRecDepth 100000 in
set_option maxHeartbeats 4000000 in
theorem bX6_startLookup_0 {p : Program} {l : Launch} {e : Env} {s : State} {m : MethodId} {args : Array Value} {below : List Frame} {meth : Method} {c : Code} {E : mm_E} {N a0 : Nat} {res : mm_M × Unit} (X : mm_X p s m args meth c prog_1_method_27_code 6 "XorOverlay" tw_T E) (hr : meth.sig.returnType = none) {G : mm_M} {H : Heap} {locs : List Loc} {ls : Array Slot} {x1 : Option Nat} {x2 : Int32} {x3 : Int32} (V : mm_V E s G H locs) (hl : lx_has ls 6 [(0, .inr (some a0)), (1, .inr x1), (2, .inl x2), (3, .inl x3)]) (hp : pX6_startLookup_0 N a0 G x1 x2 x3 = some res) : W p l e rX6_startLookup s m args below meth c H locs 0 0 (MQ below (mm_Qv E res.1) args s 0 0 (mm_A E)) (F0 m 0 ls []) := by
  have hx := X.1.1
  have hb := X.1.2.1
  unfold pX6_startLookup_0 at hp
  refine x_aload_n X dX6_startLookup_0 hl 0 rfl rfl ?_
  refine lv_dup hx hb dX6_startLookup_1 (va_rf_cat _) ?_
  refine q_getI (ci := 6) X V inX6 rfl (by decide) rfl 6 (by decide) rfl (tw_1 42 rfl rfl) rfl dX6_startLookup_2 hp (fun v2_1 hp => ?_)
  refine lv_iconst (v := (1 : Int32)) hx hb dX6_startLookup_5 (by decide) ?_
  refine lv_iadd hx hb dX6_startLookup_6 ?_
  refine q_putI (ci := 6) X V inX6 rfl tyX6 tyX6_ok nmX6 (by decide) rfl 6 (by decide) rfl (tw_1 42 rfl rfl) rfl (Or.inl rfl) .int rfl rfl rfl dX6_startLookup_7 hp (fun G H locs V hp => ?_)
  refine x_aload_n X dX6_startLookup_10 hl 1 rfl rfl ?_
  obtain ⟨b11_2, e0, hp2⟩ := q_nn_of hp
  clear hp; subst e0; have hp := hp2; clear hp2
  refine q_getR (ci := 4) X V inX4 rfl (by decide) rfl 1 (by decide) rfl (tw_1 215 rfl rfl) rfl dX6_startLookup_11 hp (fun r11_3 hp => ?_)
  refine x_iload_n X dX6_startLookup_14 hl 3 rfl rfl ?_
  refine x_aload_n X dX6_startLookup_15 hl 0 rfl rfl ?_
  refine q_getI (ci := 6) X V inX6 rfl (by decide) rfl 5 (by decide) rfl (tw_1 41 rfl rfl) rfl dX6_startLookup_16 hp (fun v16_4 hp => ?_)
  obtain ⟨b19_5, e0, hp2⟩ := q_nn_of hp
  clear hp; subst e0; have hp := hp2; clear hp2
  obtain ⟨hk, hp⟩ := q_is_of hp
  obtain ⟨⟨G, u⟩, hq, hp⟩ := q_cl_of hp
  dsimp only at hp
  refine q_gov (cells' := 0) (slots' := 0) (va_runV (As := [.int x3, .int v16_4]) (rest := []) X.1 (cX5_touch l E hq) (tw_cwV 2 X.1.2.2.2.2 (tw_2 56 rfl rfl) kX5_touch.2.1 kX5_touch.2.2.1 kX5_touch.2.2.2 kX5_touch.1 rfl rfl hX5_touch ⟨Nat.le_of_ble_eq_true rfl, Nat.le_of_ble_eq_true rfl⟩) (mm_preV X V rfl (by decide) rfl hk) rfl rfl hl.1 rfl (lv_room (Nat.le_of_ble_eq_true rfl)) dX6_startLookup_19 ⟨by decide, by decide⟩) V ⟨rfl, rfl⟩ (fun H locs V => ?_)
  refine x_aload_n X dX6_startLookup_22 hl 1 rfl rfl ?_
  refine q_getR (ci := 4) X V inX4 rfl (by decide) rfl 2 (by decide) rfl (tw_1 217 rfl rfl) rfl dX6_startLookup_23 hp (fun r23_7 hp => ?_)
  refine x_iload_n X dX6_startLookup_26 hl 2 rfl rfl ?_
  refine x_iload_n X dX6_startLookup_27 hl 3 rfl rfl ?_
  refine x_aload_n X dX6_startLookup_28 hl 0 rfl rfl ?_
  refine q_getI (ci := 6) X V inX6 rfl (by decide) rfl 6 (by decide) rfl (tw_1 42 rfl rfl) rfl dX6_startLookup_29 hp (fun v29_8 hp => ?_)
  obtain ⟨b32_9, e0, hp2⟩ := q_nn_of hp
  clear hp; subst e0; have hp := hp2; clear hp2
  obtain ⟨hk, hp⟩ := q_is_of hp
  obtain ⟨⟨G, u⟩, hq, hp⟩ := q_cl_of hp
  dsimp only at hp
  refine q_gov (cells' := 0) (slots' := 0) (va_runV (As := [.int x2, .int x3, .int v29_8]) (rest := []) X.1 (cX3_start l E hq) (tw_cwV 3 X.1.2.2.2.2 (tw_2 60 rfl rfl) kX3_start.2.1 kX3_start.2.2.1 kX3_start.2.2.2 kX3_start.1 rfl rfl hX3_start ⟨Nat.le_of_ble_eq_true rfl, Nat.le_of_ble_eq_true rfl⟩) (mm_preV X V rfl (by decide) rfl hk) rfl rfl hl.1 rfl (lv_room (Nat.le_of_ble_eq_true rfl)) dX6_startLookup_32 ⟨by decide, by decide⟩) V ⟨rfl, rfl⟩ (fun H locs V => ?_)
  refine x_aload_n X dX6_startLookup_35 hl 1 rfl rfl ?_
  refine q_getR (ci := 4) X V inX4 rfl (by decide) rfl 1 (by decide) rfl (tw_1 215 rfl rfl) rfl dX6_startLookup_36 hp (fun r36_11 hp => ?_)
  refine x_iload_n X dX6_startLookup_39 hl 3 rfl rfl ?_
  refine lv_iconst (v := (-1 : Int32)) hx hb dX6_startLookup_40 (by decide) ?_
  refine lv_iconst (v := (-1 : Int32)) hx hb dX6_startLookup_41 (by decide) ?_
  obtain ⟨b42_12, e0, hp2⟩ := q_nn_of hp
  clear hp; subst e0; have hp := hp2; clear hp2
  obtain ⟨hk, hp⟩ := q_is_of hp
  obtain ⟨⟨G, v42_14⟩, hq, hp⟩ := q_cl_of hp
  dsimp only at hp
  refine q_goi (cells' := 0) (slots' := 0) (va_runV (As := [.int x3, .int (-1 : Int32), .int (-1 : Int32)]) (rest := []) X.1 (cX5_closestBeyond l E hq) (tw_cwV 3 X.1.2.2.2.2 (tw_2 65 rfl rfl) kX5_closestBeyond.2.1 kX5_closestBeyond.2.2.1 kX5_closestBeyond.2.2.2 kX5_closestBeyond.1 rfl rfl hX5_closestBeyond ⟨Nat.le_of_ble_eq_true rfl, Nat.le_of_ble_eq_true rfl⟩) (mm_preV X V rfl (by decide) rfl hk) rfl rfl hl.1 rfl (lv_room (Nat.le_of_ble_eq_true rfl)) dX6_startLookup_42 ⟨by decide, by decide⟩) V ⟨rfl, rfl⟩ (fun H locs V => ?_)
  refine x_istore (lst' := [(4, .inl v42_14), (0, .inr (some a0)), (1, .inr (some b11_2)), (2, .inl x2), (3, .inl x3)]) X dX6_startLookup_45 hl (by decide) rfl (fun ls hl => ?_)
  refine lv_iconst (v := (0 : Int32)) hx hb dX6_startLookup_47 (by decide) ?_
  refine x_istore (lst' := [(5, .inl (0 : Int32)), (4, .inl v42_14), (0, .inr (some a0)), (1, .inr (some b11_2)), (2, .inl x2), (3, .inl x3)]) X dX6_startLookup_48 hl (by decide) rfl (fun ls hl => ?_)
  refine bX6_startLookup_50 X hr (fun G H locs ls x1 V hl hp => ?_) _ _ _ _ _ _ _ _ _ V (lx_sub hl [2, 3, 5, 1, 0] rfl) hp
  refine x_aload_n X dX6_startLookup_92 hl 0 rfl rfl ?_
  refine x_aload_n X dX6_startLookup_93 hl 1 rfl rfl ?_
  obtain ⟨hk, hp⟩ := q_is_of hp
  obtain ⟨⟨G, u⟩, hq, hp⟩ := q_cl_of hp
  dsimp only at hp
  refine q_gov (cells' := 0) (slots' := 0) (va_runV (As := [va_rf x1]) (rest := []) X.1 (cX6_goOn l E hq) (tw_cwV 1 X.1.2.2.2.2 (tw_2 77 rfl rfl) kX6_goOn.2.1 kX6_goOn.2.2.1 kX6_goOn.2.2.2 kX6_goOn.1 rfl rfl hX6_goOn ⟨Nat.le_of_ble_eq_true rfl, Nat.le_of_ble_eq_true rfl⟩) (mm_preV X V rfl (by decide) rfl hk) rfl rfl hl.1 rfl (lv_room (Nat.le_of_ble_eq_true rfl)) dX6_startLookup_94 ⟨by decide, by decide⟩) V ⟨rfl, rfl⟩ (fun H locs V => ?_)
  exact q_vret X V hr ⟨by decide, by decide⟩ dX6_startLookup_97 hp
theorem cX6_startLookup (l : Launch) (E : mm_E) {N a0 : Nat} {G : mm_M} {x1 : Option Nat} {x2 : Int32} {x3 : Int32} {res : mm_M × Unit} (hp : pX6_startLookup_0 N a0 G x1 x2 x3 = some res) : Met l yX6_startLookup (Cond.code yX6_startLookup prog_1_method_27_code 6 none :: tw_T) rX6_startLookup (mm_Pc E G [.ref a0, va_rf x1, .int x2, .int x3]) (mm_Qv E res.1) 0 0 (mm_A E) :=
  mm_met (own := "XorOverlay") E G [.inr (some a0), .inr x1, .inl x2, .inl x3] (by decide) rfl rfl (Nat.le_of_ble_eq_true rfl) (fun p e s m args below meth c ls X hr hi V hl => bX6_startLookup_0 X hr V hl hp)
