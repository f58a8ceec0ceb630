abbrev yX7_store : MethodName := ⟨"XorOverlayModel", "store", "(II)V"⟩
abbrev rX7_store : Room := { frames := 1, cells := 0, slots := 0, locals := 24 }
theorem kX7_store : Cond.code yX7_store prog_9_method_22_code 5 none ∈ tw_T ∧ Cond.instanceMethod yX7_store ∈ tw_T ∧ Cond.selects "XorOverlayModel" yX7_store yX7_store ∈ tw_T ∧ Cond.initialized "XorOverlayModel" ∈ tw_T := ⟨(tw_4 13 rfl rfl), (tw_4 12 rfl rfl), (tw_s 46 rfl rfl), (tw_1 3 rfl rfl)⟩
theorem hX7_store : yX7_store.cls = "XorOverlayModel" ∧ yX7_store.cls ≠ "java/lang/invoke/MethodHandle" ∧ yX7_store.cls ≠ "java/lang/invoke/VarHandle" ∧ (parseMethodDescriptor yX7_store.desc).map (fun d => d.parameters.length) = some 2 := by decide +kernel
theorem dX7_store_0 : decode prog_9_method_22_code 0 = .ok (.iconst 1, 1) := by decide +kernel
theorem dX7_store_1 : decode prog_9_method_22_code 1 = .ok (.aload_n 0, 1) := by decide +kernel
theorem dX7_store_2 : decode prog_9_method_22_code 2 = .ok (.getfield 99, 3) := by decide +kernel
theorem dX7_store_5 : decode prog_9_method_22_code 5 = .ok (.bipush 8, 2) := by decide +kernel
theorem dX7_store_7 : decode prog_9_method_22_code 7 = .ok (.idiv, 1) := by decide +kernel
theorem dX7_store_8 : decode prog_9_method_22_code 8 = .ok (.iadd, 1) := by decide +kernel
theorem dX7_store_9 : decode prog_9_method_22_code 9 = .ok (.istore_n 3, 1) := by decide +kernel
theorem dX7_store_10 : decode prog_9_method_22_code 10 = .ok (.aload_n 0, 1) := by decide +kernel
theorem dX7_store_11 : decode prog_9_method_22_code 11 = .ok (.getfield 74, 3) := by decide +kernel
theorem dX7_store_14 : decode prog_9_method_22_code 14 = .ok (.iconst 5, 1) := by decide +kernel
theorem dX7_store_15 : decode prog_9_method_22_code 15 = .ok (.iaload, 1) := by decide +kernel
theorem dX7_store_16 : decode prog_9_method_22_code 16 = .ok (.aload_n 0, 1) := by decide +kernel
theorem dX7_store_17 : decode prog_9_method_22_code 17 = .ok (.iload_n 1, 1) := by decide +kernel
theorem dX7_store_18 : decode prog_9_method_22_code 18 = .ok (.iload_n 2, 1) := by decide +kernel
theorem dX7_store_19 : decode prog_9_method_22_code 19 = .ok (.iload_n 3, 1) := by decide +kernel
theorem dX7_store_20 : decode prog_9_method_22_code 20 = .ok (.invokevirtual 118, 3) := by decide +kernel
theorem dX7_store_23 : decode prog_9_method_22_code 23 = .ok (.if_icmp .eq 22, 3) := by decide +kernel
theorem dX7_store_26 : decode prog_9_method_22_code 26 = .ok (.aload_n 0, 1) := by decide +kernel
theorem dX7_store_27 : decode prog_9_method_22_code 27 = .ok (.getfield 74, 3) := by decide +kernel
theorem dX7_store_30 : decode prog_9_method_22_code 30 = .ok (.iconst 5, 1) := by decide +kernel
theorem dX7_store_31 : decode prog_9_method_22_code 31 = .ok (.iaload, 1) := by decide +kernel
theorem dX7_store_32 : decode prog_9_method_22_code 32 = .ok (.aload_n 0, 1) := by decide +kernel
theorem dX7_store_33 : decode prog_9_method_22_code 33 = .ok (.iload_n 1, 1) := by decide +kernel
theorem dX7_store_34 : decode prog_9_method_22_code 34 = .ok (.iload_n 2, 1) := by decide +kernel
theorem dX7_store_35 : decode prog_9_method_22_code 35 = .ok (.iload_n 3, 1) := by decide +kernel
theorem dX7_store_36 : decode prog_9_method_22_code 36 = .ok (.iconst 1, 1) := by decide +kernel
theorem dX7_store_37 : decode prog_9_method_22_code 37 = .ok (.isub, 1) := by decide +kernel
theorem dX7_store_38 : decode prog_9_method_22_code 38 = .ok (.invokevirtual 118, 3) := by decide +kernel
theorem dX7_store_41 : decode prog_9_method_22_code 41 = .ok (.if_icmp .eq 4, 3) := by decide +kernel
theorem dX7_store_44 : decode prog_9_method_22_code 44 = .ok (.return_, 1) := by decide +kernel
theorem dX7_store_45 : decode prog_9_method_22_code 45 = .ok (.iconst 0, 1) := by decide +kernel
theorem dX7_store_46 : decode prog_9_method_22_code 46 = .ok (.istore 4, 2) := by decide +kernel
theorem dX7_store_48 : decode prog_9_method_22_code 48 = .ok (.iload 4, 2) := by decide +kernel
theorem dX7_store_50 : decode prog_9_method_22_code 50 = .ok (.aload_n 0, 1) := by decide +kernel
theorem dX7_store_51 : decode prog_9_method_22_code 51 = .ok (.getfield 32, 3) := by decide +kernel
theorem dX7_store_54 : decode prog_9_method_22_code 54 = .ok (.iload_n 1, 1) := by decide +kernel
theorem dX7_store_55 : decode prog_9_method_22_code 55 = .ok (.iaload, 1) := by decide +kernel
theorem dX7_store_56 : decode prog_9_method_22_code 56 = .ok (.if_icmp .ge 51, 3) := by decide +kernel
theorem dX7_store_59 : decode prog_9_method_22_code 59 = .ok (.aload_n 0, 1) := by decide +kernel
theorem dX7_store_60 : decode prog_9_method_22_code 60 = .ok (.getfield 35, 3) := by decide +kernel
theorem dX7_store_63 : decode prog_9_method_22_code 63 = .ok (.bipush 6, 2) := by decide +kernel
theorem dX7_store_65 : decode prog_9_method_22_code 65 = .ok (.iload_n 1, 1) := by decide +kernel
theorem dX7_store_66 : decode prog_9_method_22_code 66 = .ok (.imul, 1) := by decide +kernel
theorem dX7_store_67 : decode prog_9_method_22_code 67 = .ok (.iload 4, 2) := by decide +kernel
theorem dX7_store_69 : decode prog_9_method_22_code 69 = .ok (.iadd, 1) := by decide +kernel
theorem dX7_store_70 : decode prog_9_method_22_code 70 = .ok (.iaload, 1) := by decide +kernel
theorem dX7_store_71 : decode prog_9_method_22_code 71 = .ok (.aload_n 0, 1) := by decide +kernel
theorem dX7_store_72 : decode prog_9_method_22_code 72 = .ok (.getfield 74, 3) := by decide +kernel
theorem dX7_store_75 : decode prog_9_method_22_code 75 = .ok (.iconst 4, 1) := by decide +kernel
theorem dX7_store_76 : decode prog_9_method_22_code 76 = .ok (.iaload, 1) := by decide +kernel
theorem dX7_store_77 : decode prog_9_method_22_code 77 = .ok (.if_icmp .ne 24, 3) := by decide +kernel
theorem dX7_store_80 : decode prog_9_method_22_code 80 = .ok (.aload_n 0, 1) := by decide +kernel
theorem dX7_store_81 : decode prog_9_method_22_code 81 = .ok (.getfield 38, 3) := by decide +kernel
theorem dX7_store_84 : decode prog_9_method_22_code 84 = .ok (.bipush 6, 2) := by decide +kernel
theorem dX7_store_86 : decode prog_9_method_22_code 86 = .ok (.iload_n 1, 1) := by decide +kernel
theorem dX7_store_87 : decode prog_9_method_22_code 87 = .ok (.imul, 1) := by decide +kernel
theorem dX7_store_88 : decode prog_9_method_22_code 88 = .ok (.iload 4, 2) := by decide +kernel
theorem dX7_store_90 : decode prog_9_method_22_code 90 = .ok (.iadd, 1) := by decide +kernel
theorem dX7_store_91 : decode prog_9_method_22_code 91 = .ok (.iaload, 1) := by decide +kernel
theorem dX7_store_92 : decode prog_9_method_22_code 92 = .ok (.aload_n 0, 1) := by decide +kernel
theorem dX7_store_93 : decode prog_9_method_22_code 93 = .ok (.getfield 74, 3) := by decide +kernel
theorem dX7_store_96 : decode prog_9_method_22_code 96 = .ok (.iconst 1, 1) := by decide +kernel
theorem dX7_store_97 : decode prog_9_method_22_code 97 = .ok (.iaload, 1) := by decide +kernel
theorem dX7_store_98 : decode prog_9_method_22_code 98 = .ok (.if_icmp .eq 9, 3) := by decide +kernel
theorem dX7_store_101 : decode prog_9_method_22_code 101 = .ok (.iinc 4 1, 3) := by decide +kernel
theorem dX7_store_104 : decode prog_9_method_22_code 104 = .ok (.goto (-56), 3) := by decide +kernel
theorem dX7_store_107 : decode prog_9_method_22_code 107 = .ok (.iload 4, 2) := by decide +kernel
theorem dX7_store_109 : decode prog_9_method_22_code 109 = .ok (.bipush 6, 2) := by decide +kernel
theorem dX7_store_111 : decode prog_9_method_22_code 111 = .ok (.if_icmp .lt 4, 3) := by decide +kernel
theorem dX7_store_114 : decode prog_9_method_22_code 114 = .ok (.return_, 1) := by decide +kernel
theorem dX7_store_115 : decode prog_9_method_22_code 115 = .ok (.aload_n 0, 1) := by decide +kernel
theorem dX7_store_116 : decode prog_9_method_22_code 116 = .ok (.getfield 35, 3) := by decide +kernel
theorem dX7_store_119 : decode prog_9_method_22_code 119 = .ok (.bipush 6, 2) := by decide +kernel
theorem dX7_store_121 : decode prog_9_method_22_code 121 = .ok (.iload_n 1, 1) := by decide +kernel
theorem dX7_store_122 : decode prog_9_method_22_code 122 = .ok (.imul, 1) := by decide +kernel
theorem dX7_store_123 : decode prog_9_method_22_code 123 = .ok (.iload 4, 2) := by decide +kernel
theorem dX7_store_125 : decode prog_9_method_22_code 125 = .ok (.iadd, 1) := by decide +kernel
theorem dX7_store_126 : decode prog_9_method_22_code 126 = .ok (.aload_n 0, 1) := by decide +kernel
theorem dX7_store_127 : decode prog_9_method_22_code 127 = .ok (.getfield 74, 3) := by decide +kernel
theorem dX7_store_130 : decode prog_9_method_22_code 130 = .ok (.iconst 4, 1) := by decide +kernel
theorem dX7_store_131 : decode prog_9_method_22_code 131 = .ok (.iaload, 1) := by decide +kernel
theorem dX7_store_132 : decode prog_9_method_22_code 132 = .ok (.iastore, 1) := by decide +kernel
theorem dX7_store_133 : decode prog_9_method_22_code 133 = .ok (.aload_n 0, 1) := by decide +kernel
theorem dX7_store_134 : decode prog_9_method_22_code 134 = .ok (.getfield 38, 3) := by decide +kernel
theorem dX7_store_137 : decode prog_9_method_22_code 137 = .ok (.bipush 6, 2) := by decide +kernel
theorem dX7_store_139 : decode prog_9_method_22_code 139 = .ok (.iload_n 1, 1) := by decide +kernel
theorem dX7_store_140 : decode prog_9_method_22_code 140 = .ok (.imul, 1) := by decide +kernel
theorem dX7_store_141 : decode prog_9_method_22_code 141 = .ok (.iload 4, 2) := by decide +kernel
theorem dX7_store_143 : decode prog_9_method_22_code 143 = .ok (.iadd, 1) := by decide +kernel
theorem dX7_store_144 : decode prog_9_method_22_code 144 = .ok (.aload_n 0, 1) := by decide +kernel
theorem dX7_store_145 : decode prog_9_method_22_code 145 = .ok (.getfield 74, 3) := by decide +kernel
theorem dX7_store_148 : decode prog_9_method_22_code 148 = .ok (.iconst 1, 1) := by decide +kernel
theorem dX7_store_149 : decode prog_9_method_22_code 149 = .ok (.iaload, 1) := by decide +kernel
theorem dX7_store_150 : decode prog_9_method_22_code 150 = .ok (.iastore, 1) := by decide +kernel
theorem dX7_store_151 : decode prog_9_method_22_code 151 = .ok (.aload_n 0, 1) := by decide +kernel
theorem dX7_store_152 : decode prog_9_method_22_code 152 = .ok (.getfield 41, 3) := by decide +kernel
theorem dX7_store_155 : decode prog_9_method_22_code 155 = .ok (.bipush 6, 2) := by decide +kernel
theorem dX7_store_157 : decode prog_9_method_22_code 157 = .ok (.iload_n 1, 1) := by decide +kernel
theorem dX7_store_158 : decode prog_9_method_22_code 158 = .ok (.imul, 1) := by decide +kernel
theorem dX7_store_159 : decode prog_9_method_22_code 159 = .ok (.iload 4, 2) := by decide +kernel
theorem dX7_store_161 : decode prog_9_method_22_code 161 = .ok (.iadd, 1) := by decide +kernel
theorem dX7_store_162 : decode prog_9_method_22_code 162 = .ok (.aload_n 0, 1) := by decide +kernel
theorem dX7_store_163 : decode prog_9_method_22_code 163 = .ok (.getfield 99, 3) := by decide +kernel
theorem dX7_store_166 : decode prog_9_method_22_code 166 = .ok (.bipush 24, 2) := by decide +kernel
theorem dX7_store_168 : decode prog_9_method_22_code 168 = .ok (.iadd, 1) := by decide +kernel
theorem dX7_store_169 : decode prog_9_method_22_code 169 = .ok (.iastore, 1) := by decide +kernel
theorem dX7_store_170 : decode prog_9_method_22_code 170 = .ok (.aload_n 0, 1) := by decide +kernel
theorem dX7_store_171 : decode prog_9_method_22_code 171 = .ok (.getfield 32, 3) := by decide +kernel
theorem dX7_store_174 : decode prog_9_method_22_code 174 = .ok (.iload_n 1, 1) := by decide +kernel
theorem dX7_store_175 : decode prog_9_method_22_code 175 = .ok (.iload 4, 2) := by decide +kernel
theorem dX7_store_177 : decode prog_9_method_22_code 177 = .ok (.aload_n 0, 1) := by decide +kernel
theorem dX7_store_178 : decode prog_9_method_22_code 178 = .ok (.getfield 32, 3) := by decide +kernel
theorem dX7_store_181 : decode prog_9_method_22_code 181 = .ok (.iload_n 1, 1) := by decide +kernel
theorem dX7_store_182 : decode prog_9_method_22_code 182 = .ok (.iaload, 1) := by decide +kernel
theorem dX7_store_183 : decode prog_9_method_22_code 183 = .ok (.if_icmp .ge 12, 3) := by decide +kernel
theorem dX7_store_186 : decode prog_9_method_22_code 186 = .ok (.aload_n 0, 1) := by decide +kernel
theorem dX7_store_187 : decode prog_9_method_22_code 187 = .ok (.getfield 32, 3) := by decide +kernel
theorem dX7_store_190 : decode prog_9_method_22_code 190 = .ok (.iload_n 1, 1) := by decide +kernel
theorem dX7_store_191 : decode prog_9_method_22_code 191 = .ok (.iaload, 1) := by decide +kernel
theorem dX7_store_192 : decode prog_9_method_22_code 192 = .ok (.goto 7, 3) := by decide +kernel
theorem dX7_store_195 : decode prog_9_method_22_code 195 = .ok (.iload 4, 2) := by decide +kernel
theorem dX7_store_197 : decode prog_9_method_22_code 197 = .ok (.iconst 1, 1) := by decide +kernel
theorem dX7_store_198 : decode prog_9_method_22_code 198 = .ok (.iadd, 1) := by decide +kernel
theorem dX7_store_199 : decode prog_9_method_22_code 199 = .ok (.iastore, 1) := by decide +kernel
theorem dX7_store_200 : decode prog_9_method_22_code 200 = .ok (.return_, 1) := by decide +kernel
def pX7_store_48_b (N a0 : Nat) (kb : mm_M → Int32 → Int32 → Option (mm_M × Unit)) (kx : mm_M → Int32 → Int32 → Option (mm_M × Unit)) (G : mm_M) (x1 : Int32) (x4 : Int32) : Option (mm_M × Unit) :=
  q_gR G a0 8 11 fun r51_7 =>
  q_nn r51_7 fun b55_8 =>
  q_aI G b55_8 101 x1 fun v55_9 =>
  if v55_9 ≤ x4 then
    kx G x1 x4
  else
    q_gR G a0 8 12 fun r60_10 =>
    q_nn r60_10 fun b70_11 =>
    q_aI G b70_11 101 (((6 : Int32) * x1) + x4) fun v70_12 =>
    q_gR G a0 8 26 fun r72_13 =>
    q_nn r72_13 fun b76_14 =>
    q_aI G b76_14 101 (4 : Int32) fun v76_15 =>
    if v70_12 = v76_15 then
      q_gR G a0 8 13 fun r81_16 =>
      q_nn r81_16 fun b91_17 =>
      q_aI G b91_17 101 (((6 : Int32) * x1) + x4) fun v91_18 =>
      q_gR G a0 8 26 fun r93_19 =>
      q_nn r93_19 fun b97_20 =>
      q_aI G b97_20 101 (1 : Int32) fun v97_21 =>
      if v91_18 = v97_21 then
        kx G x1 x4
      else
        kb G x1 (x4 + (1 : Int32))
    else
      kb G x1 (x4 + (1 : Int32))
def pX7_store_48 (N a0 : Nat) (kx : mm_M → Int32 → Int32 → Option (mm_M × Unit)) : Nat → mm_M → Int32 → Int32 → Option (mm_M × Unit)
  | 0 => fun _ _ _ => none
  | n + 1 => pX7_store_48_b N a0 (pX7_store_48 N a0 kx n) kx
set_option maxRecDepth 100000 in
set_option maxHeartbeats 4000000 in
theorem bX7_store_48 {p : Program} {l : Launch} {e : Env} {s : State} {m : MethodId} {args : Array Value} {below : List Frame} {meth : Method} {c : Code} {E : mm_E} {N a0 : Nat} {res : mm_M × Unit} (X : mm_X p s m args meth c prog_9_method_22_code 5 "XorOverlayModel" tw_T E) (hr : meth.sig.returnType = none) {kx : mm_M → Int32 → Int32 → Option (mm_M × Unit)} (hkx : ∀ (G : mm_M) (H : Heap) (locs : List Loc) (ls : Array Slot) (x1 : Int32) (x4 : Int32), mm_V E s G H locs → lx_has ls 5 [(0, .inr (some a0)), (1, .inl x1), (4, .inl x4)] → kx G x1 x4 = some res → W p l e rX7_store s m args below meth c H locs 0 0 (MQ below (mm_Qv E res.1) args s 0 0 (mm_A E)) (F0 m 107 ls [])) :
    ∀ (n : Nat) (G : mm_M) (H : Heap) (locs : List Loc) (ls : Array Slot) (x1 : Int32) (x4 : Int32), mm_V E s G H locs → lx_has ls 5 [(0, .inr (some a0)), (1, .inl x1), (4, .inl x4)] → pX7_store_48 N a0 kx n G x1 x4 = some res → W p l e rX7_store s m args below meth c H locs 0 0 (MQ below (mm_Qv E res.1) args s 0 0 (mm_A E)) (F0 m 48 ls []) := by
  have hx := X.1.1
  have hb := X.1.2.1
  intro n
  induction n with
  | zero =>
    intro G H locs ls x1 x4 V hl hp
    cases hp
  | succ n ih =>
    intro G H locs ls x1 x4 V hl hp
    have hp : pX7_store_48_b N a0 (pX7_store_48 N a0 kx n) kx G x1 x4 = some res := hp
    unfold pX7_store_48_b at hp
    refine x_iload X dX7_store_48 hl 2 rfl ?_
    refine x_aload_n X dX7_store_50 hl 0 rfl rfl ?_
    refine q_getR (ci := 7) X V inX7 rfl (by decide) rfl 11 (by decide) rfl (tw_3 40 rfl rfl) rfl dX7_store_51 hp (fun r51_7 hp => ?_)
    refine x_iload_n X dX7_store_54 hl 1 rfl rfl ?_
    obtain ⟨b55_8, e0, hp2⟩ := q_nn_of hp
    clear hp; subst e0; have hp := hp2; clear hp2
    refine q_iald X V dX7_store_55 hp (fun v55_9 hp => ?_)
    refine q_if hp (lv_icmp_ge (tgt := 107) hx hb dX7_store_56 (by decide)) (fun hp => ?_) (fun hp => ?_)
    · exact hkx _ _ _ _ _ _ V (lx_sub hl [0, 1, 2] rfl) hp
    · refine x_aload_n X dX7_store_59 hl 0 rfl rfl ?_
      refine q_getR (ci := 7) X V inX7 rfl (by decide) rfl 12 (by decide) rfl (tw_3 41 rfl rfl) rfl dX7_store_60 hp (fun r60_10 hp => ?_)
      refine lv_bipush (v := (6 : Int32)) hx hb dX7_store_63 (by decide) ?_
      refine x_iload_n X dX7_store_65 hl 1 rfl rfl ?_
      refine lv_imul hx hb dX7_store_66 ?_
      refine x_iload X dX7_store_67 hl 2 rfl ?_
      refine lv_iadd hx hb dX7_store_69 ?_
      obtain ⟨b70_11, e0, hp2⟩ := q_nn_of hp
      clear hp; subst e0; have hp := hp2; clear hp2
      refine q_iald X V dX7_store_70 hp (fun v70_12 hp => ?_)
      refine x_aload_n X dX7_store_71 hl 0 rfl rfl ?_
      refine q_getR (ci := 7) X V inX7 rfl (by decide) rfl 26 (by decide) rfl (tw_3 55 rfl rfl) rfl dX7_store_72 hp (fun r72_13 hp => ?_)
      refine lv_iconst (v := (4 : Int32)) hx hb dX7_store_75 (by decide) ?_
      obtain ⟨b76_14, e0, hp2⟩ := q_nn_of hp
      clear hp; subst e0; have hp := hp2; clear hp2
      refine q_iald X V dX7_store_76 hp (fun v76_15 hp => ?_)
      refine q_ifn hp (lv_icmp_ne (tgt := 101) hx hb dX7_store_77 (by decide)) (fun hp => ?_) (fun hp => ?_)
      · refine x_iinc (v := (1 : Int32)) (lst' := [(4, .inl (x4 + (1 : Int32))), (0, .inr (some a0)), (1, .inl x1)]) X dX7_store_101 hl 2 rfl (by decide) (by decide) rfl (fun ls hl => ?_)
        refine lv_goto (tgt := 48) hx hb dX7_store_104 (by decide) ?_
        exact ih _ _ _ _ _ _ V (lx_sub hl [1, 2, 0] rfl) hp
      · refine x_aload_n X dX7_store_80 hl 0 rfl rfl ?_
        refine q_getR (ci := 7) X V inX7 rfl (by decide) rfl 13 (by decide) rfl (tw_3 42 rfl rfl) rfl dX7_store_81 hp (fun r81_16 hp => ?_)
        refine lv_bipush (v := (6 : Int32)) hx hb dX7_store_84 (by decide) ?_
        refine x_iload_n X dX7_store_86 hl 1 rfl rfl ?_
        refine lv_imul hx hb dX7_store_87 ?_
        refine x_iload X dX7_store_88 hl 2 rfl ?_
        refine lv_iadd hx hb dX7_store_90 ?_
        obtain ⟨b91_17, e0, hp2⟩ := q_nn_of hp
        clear hp; subst e0; have hp := hp2; clear hp2
        refine q_iald X V dX7_store_91 hp (fun v91_18 hp => ?_)
        refine x_aload_n X dX7_store_92 hl 0 rfl rfl ?_
        refine q_getR (ci := 7) X V inX7 rfl (by decide) rfl 26 (by decide) rfl (tw_3 55 rfl rfl) rfl dX7_store_93 hp (fun r93_19 hp => ?_)
        refine lv_iconst (v := (1 : Int32)) hx hb dX7_store_96 (by decide) ?_
        obtain ⟨b97_20, e0, hp2⟩ := q_nn_of hp
        clear hp; subst e0; have hp := hp2; clear hp2
        refine q_iald X V dX7_store_97 hp (fun v97_21 hp => ?_)
        refine q_if hp (lv_icmp_eq (tgt := 107) hx hb dX7_store_98 (by decide)) (fun hp => ?_) (fun hp => ?_)
        · exact hkx _ _ _ _ _ _ V (lx_sub hl [0, 1, 2] rfl) hp
        · refine x_iinc (v := (1 : Int32)) (lst' := [(4, .inl (x4 + (1 : Int32))), (0, .inr (some a0)), (1, .inl x1)]) X dX7_store_101 hl 2 rfl (by decide) (by decide) rfl (fun ls hl => ?_)
          refine lv_goto (tgt := 48) hx hb dX7_store_104 (by decide) ?_
          exact ih _ _ _ _ _ _ V (lx_sub hl [1, 2, 0] rfl) hp
def pX7_store_107 (N a0 : Nat) (G : mm_M) (x1 : Int32) (x4 : Int32) : Option (mm_M × Unit) :=
  if x4 < (6 : Int32) then
    q_gR G a0 8 12 fun r116_22 =>
    q_gR G a0 8 26 fun r127_23 =>
    q_nn r127_23 fun b131_24 =>
    q_aI G b131_24 101 (4 : Int32) fun v131_25 =>
    q_nn r116_22 fun b132_26 =>
    q_sI G b132_26 101 (((6 : Int32) * x1) + x4) v131_25 fun G =>
    q_gR G a0 8 13 fun r134_27 =>
    q_gR G a0 8 26 fun r145_28 =>
    q_nn r145_28 fun b149_29 =>
    q_aI G b149_29 101 (1 : Int32) fun v149_30 =>
    q_nn r134_27 fun b150_31 =>
    q_sI G b150_31 101 (((6 : Int32) * x1) + x4) v149_30 fun G =>
    q_gR G a0 8 14 fun r152_32 =>
    q_gI G a0 8 0 fun v163_33 =>
    q_nn r152_32 fun b169_34 =>
    q_sI G b169_34 101 (((6 : Int32) * x1) + x4) (v163_33 + (24 : Int32)) fun G =>
    q_gR G a0 8 11 fun r171_35 =>
    q_gR G a0 8 11 fun r178_36 =>
    q_nn r178_36 fun b182_37 =>
    q_aI G b182_37 101 x1 fun v182_38 =>
    if v182_38 ≤ x4 then
      q_nn r171_35 fun b199_39 =>
      q_sI G b199_39 101 x1 (x4 + (1 : Int32)) fun G =>
      some (G, ())
    else
      q_gR G a0 8 11 fun r187_40 =>
      q_nn r187_40 fun b191_41 =>
      q_aI G b191_41 101 x1 fun v191_42 =>
      q_nn r171_35 fun b199_43 =>
      q_sI G b199_43 101 x1 v191_42 fun G =>
      some (G, ())
  else
    some (G, ())
set_option maxRecDepth 100000 in
set_option maxHeartbeats 4000000 in
theorem bX7_store_107 {p : Program} {l : Launch} {e : Env} {s : State} {m : MethodId} {args : Array Value} {below : List Frame} {meth : Method} {c : Code} {E : mm_E} {N a0 : Nat} {res : mm_M × Unit} (X : mm_X p s m args meth c prog_9_method_22_code 5 "XorOverlayModel" tw_T E) (hr : meth.sig.returnType = none) {G : mm_M} {H : Heap} {locs : List Loc} {ls : Array Slot} {x1 : Int32} {x4 : Int32} (V : mm_V E s G H locs) (hl : lx_has ls 5 [(0, .inr (some a0)), (1, .inl x1), (4, .inl x4)]) (hp : pX7_store_107 N a0 G x1 x4 = some res) : W p l e rX7_store s m args below meth c H locs 0 0 (MQ below (mm_Qv E res.1) args s 0 0 (mm_A E)) (F0 m 107 ls []) := by
  have hx := X.1.1
  have hb := X.1.2.1
  unfold pX7_store_107 at hp
  refine x_iload X dX7_store_107 hl 2 rfl ?_
  refine lv_bipush (v := (6 : Int32)) hx hb dX7_store_109 (by decide) ?_
  refine q_if hp (lv_icmp_lt (tgt := 115) hx hb dX7_store_111 (by decide)) (fun hp => ?_) (fun hp => ?_)
  · refine x_aload_n X dX7_store_115 hl 0 rfl rfl ?_
    refine q_getR (ci := 7) X V inX7 rfl (by decide) rfl 12 (by decide) rfl (tw_3 41 rfl rfl) rfl dX7_store_116 hp (fun r116_22 hp => ?_)
    refine lv_bipush (v := (6 : Int32)) hx hb dX7_store_119 (by decide) ?_
    refine x_iload_n X dX7_store_121 hl 1 rfl rfl ?_
    refine lv_imul hx hb dX7_store_122 ?_
    refine x_iload X dX7_store_123 hl 2 rfl ?_
    refine lv_iadd hx hb dX7_store_125 ?_
    refine x_aload_n X dX7_store_126 hl 0 rfl rfl ?_
    refine q_getR (ci := 7) X V inX7 rfl (by decide) rfl 26 (by decide) rfl (tw_3 55 rfl rfl) rfl dX7_store_127 hp (fun r127_23 hp => ?_)
    refine lv_iconst (v := (4 : Int32)) hx hb dX7_store_130 (by decide) ?_
    obtain ⟨b131_24, e0, hp2⟩ := q_nn_of hp
    clear hp; subst e0; have hp := hp2; clear hp2
    refine q_iald X V dX7_store_131 hp (fun v131_25 hp => ?_)
    obtain ⟨b132_26, e0, hp2⟩ := q_nn_of hp
    clear hp; subst e0; have hp := hp2; clear hp2
    refine q_iast X V dX7_store_132 hp (fun G H locs V hp => ?_)
    refine x_aload_n X dX7_store_133 hl 0 rfl rfl ?_
    refine q_getR (ci := 7) X V inX7 rfl (by decide) rfl 13 (by decide) rfl (tw_3 42 rfl rfl) rfl dX7_store_134 hp (fun r134_27 hp => ?_)
    refine lv_bipush (v := (6 : Int32)) hx hb dX7_store_137 (by decide) ?_
    refine x_iload_n X dX7_store_139 hl 1 rfl rfl ?_
    refine lv_imul hx hb dX7_store_140 ?_
    refine x_iload X dX7_store_141 hl 2 rfl ?_
    refine lv_iadd hx hb dX7_store_143 ?_
    refine x_aload_n X dX7_store_144 hl 0 rfl rfl ?_
    refine q_getR (ci := 7) X V inX7 rfl (by decide) rfl 26 (by decide) rfl (tw_3 55 rfl rfl) rfl dX7_store_145 hp (fun r145_28 hp => ?_)
    refine lv_iconst (v := (1 : Int32)) hx hb dX7_store_148 (by decide) ?_
    obtain ⟨b149_29, e0, hp2⟩ := q_nn_of hp
    clear hp; subst e0; have hp := hp2; clear hp2
    refine q_iald X V dX7_store_149 hp (fun v149_30 hp => ?_)
    obtain ⟨b150_31, e0, hp2⟩ := q_nn_of hp
    clear hp; subst e0; have hp := hp2; clear hp2
    refine q_iast X V dX7_store_150 hp (fun G H locs V hp => ?_)
    refine x_aload_n X dX7_store_151 hl 0 rfl rfl ?_
    refine q_getR (ci := 7) X V inX7 rfl (by decide) rfl 14 (by decide) rfl (tw_3 43 rfl rfl) rfl dX7_store_152 hp (fun r152_32 hp => ?_)
    refine lv_bipush (v := (6 : Int32)) hx hb dX7_store_155 (by decide) ?_
    refine x_iload_n X dX7_store_157 hl 1 rfl rfl ?_
    refine lv_imul hx hb dX7_store_158 ?_
    refine x_iload X dX7_store_159 hl 2 rfl ?_
    refine lv_iadd hx hb dX7_store_161 ?_
    refine x_aload_n X dX7_store_162 hl 0 rfl rfl ?_
    refine q_getI (ci := 7) X V inX7 rfl (by decide) rfl 0 (by decide) rfl (tw_3 29 rfl rfl) rfl dX7_store_163 hp (fun v163_33 hp => ?_)
    refine lv_bipush (v := (24 : Int32)) hx hb dX7_store_166 (by decide) ?_
    refine lv_iadd hx hb dX7_store_168 ?_
    obtain ⟨b169_34, e0, hp2⟩ := q_nn_of hp
    clear hp; subst e0; have hp := hp2; clear hp2
    refine q_iast X V dX7_store_169 hp (fun G H locs V hp => ?_)
    refine x_aload_n X dX7_store_170 hl 0 rfl rfl ?_
    refine q_getR (ci := 7) X V inX7 rfl (by decide) rfl 11 (by decide) rfl (tw_3 40 rfl rfl) rfl dX7_store_171 hp (fun r171_35 hp => ?_)
    refine x_iload_n X dX7_store_174 hl 1 rfl rfl ?_
    refine x_iload X dX7_store_175 hl 2 rfl ?_
    refine x_aload_n X dX7_store_177 hl 0 rfl rfl ?_
    refine q_getR (ci := 7) X V inX7 rfl (by decide) rfl 11 (by decide) rfl (tw_3 40 rfl rfl) rfl dX7_store_178 hp (fun r178_36 hp => ?_)
    refine x_iload_n X dX7_store_181 hl 1 rfl rfl ?_
    obtain ⟨b182_37, e0, hp2⟩ := q_nn_of hp
    clear hp; subst e0; have hp := hp2; clear hp2
    refine q_iald X V dX7_store_182 hp (fun v182_38 hp => ?_)
    refine q_if hp (lv_icmp_ge (tgt := 195) hx hb dX7_store_183 (by decide)) (fun hp => ?_) (fun hp => ?_)
    · refine x_iload X dX7_store_195 hl 2 rfl ?_
      refine lv_iconst (v := (1 : Int32)) hx hb dX7_store_197 (by decide) ?_
      refine lv_iadd hx hb dX7_store_198 ?_
      obtain ⟨b199_39, e0, hp2⟩ := q_nn_of hp
      clear hp; subst e0; have hp := hp2; clear hp2
      refine q_iast X V dX7_store_199 hp (fun G H locs V hp => ?_)
      exact q_vret X V hr ⟨by decide, by decide⟩ dX7_store_200 hp
    · refine x_aload_n X dX7_store_186 hl 0 rfl rfl ?_
      refine q_getR (ci := 7) X V inX7 rfl (by decide) rfl 11 (by decide) rfl (tw_3 40 rfl rfl) rfl dX7_store_187 hp (fun r187_40 hp => ?_)
      refine x_iload_n X dX7_store_190 hl 1 rfl rfl ?_
      obtain ⟨b191_41, e0, hp2⟩ := q_nn_of hp
      clear hp; subst e0; have hp := hp2; clear hp2
      refine q_iald X V dX7_store_191 hp (fun v191_42 hp => ?_)
      refine lv_goto (tgt := 199) hx hb dX7_store_192 (by decide) ?_
      obtain ⟨b199_43, e0, hp2⟩ := q_nn_of hp
      clear hp; subst e0; have hp := hp2; clear hp2
      refine q_iast X V dX7_store_199 hp (fun G H locs V hp => ?_)
      exact q_vret X V hr ⟨by decide, by decide⟩ dX7_store_200 hp
  · exact q_vret X V hr ⟨by decide, by decide⟩ dX7_store_114 hp
def pX7_store_0 (N a0 : Nat) (G : mm_M) (x1 : Int32) (x2 : Int32) : Option (mm_M × Unit) :=
  q_gI G a0 8 0 fun v2_1 =>
  q_gR G a0 8 26 fun r11_2 =>
  q_nn r11_2 fun b15_3 =>
  q_aI G b15_3 101 (5 : Int32) fun v15_4 =>
  q_is G a0 8 <|
  q_cl (pX7_tokenOf_0 N a0 G x1 x2 ((1 : Int32) + (v2_1 / (8 : Int32)))) fun G v20_6 =>
  if v15_4 = v20_6 then
    pX7_store_48 N a0 (fun (G : mm_M) (x1 : Int32) (x4 : Int32) =>
      pX7_store_107 N a0 G x1 x4) N G x1 (0 : Int32)
  else
    q_gR G a0 8 26 fun r27_44 =>
    q_nn r27_44 fun b31_45 =>
    q_aI G b31_45 101 (5 : Int32) fun v31_46 =>
    q_is G a0 8 <|
    q_cl (pX7_tokenOf_0 N a0 G x1 x2 (((1 : Int32) + (v2_1 / (8 : Int32))) - (1 : Int32))) fun G v38_48 =>
    if v31_46 = v38_48 then
      pX7_store_48 N a0 (fun (G : mm_M) (x1 : Int32) (x4 : Int32) =>
        pX7_store_107 N a0 G x1 x4) N G x1 (0 : Int32)
    else
      some (G, ())
set_option maxRecDepth 100000 in
set_option maxHeartbeats 4000000 in
theorem bX7_store_0 {p : Program} {l : Launch} {e : Env} {s : State} {m : MethodId} {args : Array Value} {below : List Frame} {meth : Method} {c : Code} {E : mm_E} {N a0 : Nat} {res : mm_M × Unit} (X : mm_X p s m args meth c prog_9_method_22_code 5 "XorOverlayModel" tw_T E) (hr : meth.sig.returnType = none) {G : mm_M} {H : Heap} {locs : List Loc} {ls : Array Slot} {x1 : Int32} {x2 : Int32} (V : mm_V E s G H locs) (hl : lx_has ls 5 [(0, .inr (some a0)), (1, .inl x1), (2, .inl x2)]) (hp : pX7_store_0 N a0 G x1 x2 = some res) : W p l e rX7_store s m args below meth c H locs 0 0 (MQ below (mm_Qv E res.1) args s 0 0 (mm_A E)) (F0 m 0 ls []) := by
  have hx := X.1.1
  have hb := X.1.2.1
  unfold pX7_store_0 at hp
  refine lv_iconst (v := (1 : Int32)) hx hb dX7_store_0 (by decide) ?_
  refine x_aload_n X dX7_store_1 hl 0 rfl rfl ?_
  refine q_getI (ci := 7) X V inX7 rfl (by decide) rfl 0 (by decide) rfl (tw_3 29 rfl rfl) rfl dX7_store_2 hp (fun v2_1 hp => ?_)
  refine lv_bipush (v := (8 : Int32)) hx hb dX7_store_5 (by decide) ?_
  refine lv_idiv hx hb dX7_store_7 (by decide) ?_
  refine lv_iadd hx hb dX7_store_8 ?_
  refine x_istore_n (lst' := [(3, .inl ((1 : Int32) + (v2_1 / (8 : Int32)))), (0, .inr (some a0)), (1, .inl x1), (2, .inl x2)]) X dX7_store_9 hl rfl (by decide) rfl (fun ls hl => ?_)
  refine x_aload_n X dX7_store_10 hl 1 rfl rfl ?_
  refine q_getR (ci := 7) X V inX7 rfl (by decide) rfl 26 (by decide) rfl (tw_3 55 rfl rfl) rfl dX7_store_11 hp (fun r11_2 hp => ?_)
  refine lv_iconst (v := (5 : Int32)) hx hb dX7_store_14 (by decide) ?_
  obtain ⟨b15_3, e0, hp2⟩ := q_nn_of hp
  clear hp; subst e0; have hp := hp2; clear hp2
  refine q_iald X V dX7_store_15 hp (fun v15_4 hp => ?_)
  refine x_aload_n X dX7_store_16 hl 1 rfl rfl ?_
  refine x_iload_n X dX7_store_17 hl 2 rfl rfl ?_
  refine x_iload_n X dX7_store_18 hl 3 rfl rfl ?_
  refine x_iload_n X dX7_store_19 hl 0 rfl rfl ?_
  obtain ⟨hk, hp⟩ := q_is_of hp
  obtain ⟨⟨G, v20_6⟩, hq, hp⟩ := q_cl_of hp
  dsimp only at hp
  refine q_goi (cells' := 0) (slots' := 0) (va_runV (As := [.int x1, .int x2, .int ((1 : Int32) + (v2_1 / (8 : Int32)))]) (rest := [.int v15_4]) X.1 (cX7_tokenOf l E hq) (tw_cwV 3 X.1.2.2.2.2 (tw_3 236 rfl rfl) kX7_tokenOf.2.1 kX7_tokenOf.2.2.1 kX7_tokenOf.2.2.2 kX7_tokenOf.1 rfl rfl hX7_tokenOf ⟨Nat.le_of_ble_eq_true rfl, Nat.le_of_ble_eq_true rfl⟩) (mm_preV X V rfl (by decide) rfl hk) rfl rfl hl.1 rfl (lv_room (Nat.le_of_ble_eq_true rfl)) dX7_store_20 ⟨by decide, by decide⟩) V ⟨rfl, rfl⟩ (fun H locs V => ?_)
  refine q_if hp (lv_icmp_eq (tgt := 45) hx hb dX7_store_23 (by decide)) (fun hp => ?_) (fun hp => ?_)
  · refine lv_iconst (v := (0 : Int32)) hx hb dX7_store_45 (by decide) ?_
    refine x_istore (lst' := [(4, .inl (0 : Int32)), (3, .inl ((1 : Int32) + (v2_1 / (8 : Int32)))), (0, .inr (some a0)), (1, .inl x1), (2, .inl x2)]) X dX7_store_46 hl (by decide) rfl (fun ls hl => ?_)
    refine bX7_store_48 X hr (fun G H locs ls x1 x4 V hl hp => ?_) _ _ _ _ _ _ _ V (lx_sub hl [2, 3, 0] rfl) hp
    exact bX7_store_107 X hr V (lx_sub hl [0, 1, 2] rfl) hp
  · refine x_aload_n X dX7_store_26 hl 1 rfl rfl ?_
    refine q_getR (ci := 7) X V inX7 rfl (by decide) rfl 26 (by decide) rfl (tw_3 55 rfl rfl) rfl dX7_store_27 hp (fun r27_44 hp => ?_)
    refine lv_iconst (v := (5 : Int32)) hx hb dX7_store_30 (by decide) ?_
    obtain ⟨b31_45, e0, hp2⟩ := q_nn_of hp
    clear hp; subst e0; have hp := hp2; clear hp2
    refine q_iald X V dX7_store_31 hp (fun v31_46 hp => ?_)
    refine x_aload_n X dX7_store_32 hl 1 rfl rfl ?_
    refine x_iload_n X dX7_store_33 hl 2 rfl rfl ?_
    refine x_iload_n X dX7_store_34 hl 3 rfl rfl ?_
    refine x_iload_n X dX7_store_35 hl 0 rfl rfl ?_
    refine lv_iconst (v := (1 : Int32)) hx hb dX7_store_36 (by decide) ?_
    refine lv_isub hx hb dX7_store_37 ?_
    obtain ⟨hk, hp⟩ := q_is_of hp
    obtain ⟨⟨G, v38_48⟩, hq, hp⟩ := q_cl_of hp
    dsimp only at hp
    refine q_goi (cells' := 0) (slots' := 0) (va_runV (As := [.int x1, .int x2, .int (((1 : Int32) + (v2_1 / (8 : Int32))) - (1 : Int32))]) (rest := [.int v31_46]) X.1 (cX7_tokenOf l E hq) (tw_cwV 3 X.1.2.2.2.2 (tw_3 236 rfl rfl) kX7_tokenOf.2.1 kX7_tokenOf.2.2.1 kX7_tokenOf.2.2.2 kX7_tokenOf.1 rfl rfl hX7_tokenOf ⟨Nat.le_of_ble_eq_true rfl, Nat.le_of_ble_eq_true rfl⟩) (mm_preV X V rfl (by decide) rfl hk) rfl rfl hl.1 rfl (lv_room (Nat.le_of_ble_eq_true rfl)) dX7_store_38 ⟨by decide, by decide⟩) V ⟨rfl, rfl⟩ (fun H locs V => ?_)
    refine q_if hp (lv_icmp_eq (tgt := 45) hx hb dX7_store_41 (by decide)) (fun hp => ?_) (fun hp => ?_)
    · refine lv_iconst (v := (0 : Int32)) hx hb dX7_store_45 (by decide) ?_
      refine x_istore (lst' := [(4, .inl (0 : Int32)), (3, .inl ((1 : Int32) + (v2_1 / (8 : Int32)))), (0, .inr (some a0)), (1, .inl x1), (2, .inl x2)]) X dX7_store_46 hl (by decide) rfl (fun ls hl => ?_)
      refine bX7_store_48 X hr (fun G H locs ls x1 x4 V hl hp => ?_) _ _ _ _ _ _ _ V (lx_sub hl [2, 3, 0] rfl) hp
      exact bX7_store_107 X hr V (lx_sub hl [0, 1, 2] rfl) hp
    · exact q_vret X V hr ⟨by decide, by decide⟩ dX7_store_44 hp
theorem cX7_store (l : Launch) (E : mm_E) {N a0 : Nat} {G : mm_M} {x1 : Int32} {x2 : Int32} {res : mm_M × Unit} (hp : pX7_store_0 N a0 G x1 x2 = some res) : Met l yX7_store (Cond.code yX7_store prog_9_method_22_code 5 none :: tw_T) rX7_store (mm_Pc E G [.ref a0, .int x1, .int x2]) (mm_Qv E res.1) 0 0 (mm_A E) :=
  mm_met (own := "XorOverlayModel") E G [.inr (some a0), .inl x1, .inl x2] (by decide) rfl rfl (Nat.le_of_ble_eq_true rfl) (fun p e s m args below meth c ls X hr hi V hl => bX7_store_0 X hr V hl hp)
abbrev yX7_start : MethodName := ⟨"XorOverlayModel", "start", "(III)V"⟩
abbrev rX7_start : Room := { frames := 4, cells := 0, slots := 0, locals := 98 }
theorem kX7_start : Cond.code yX7_start prog_9_method_28_code 7 none ∈ tw_T ∧ Cond.instanceMethod yX7_start ∈ tw_T ∧ Cond.selects "XorOverlayModel" yX7_start yX7_start ∈ tw_T ∧ Cond.initialized "XorOverlayModel" ∈ tw_T := ⟨(tw_3 155 rfl rfl), (tw_3 154 rfl rfl), (tw_s 27 rfl rfl), (tw_1 3 rfl rfl)⟩
theorem hX7_start : yX7_start.cls = "XorOverlayModel" ∧ yX7_start.cls ≠ "java/lang/invoke/MethodHandle" ∧ yX7_start.cls ≠ "java/lang/invoke/VarHandle" ∧ (parseMethodDescriptor yX7_start.desc).map (fun d => d.parameters.length) = some 3 := by decide +kernel
theorem dX7_start_0 : decode prog_9_method_28_code 0 = .ok (.aload_n 0, 1) := by decide +kernel
theorem dX7_start_1 : decode prog_9_method_28_code 1 = .ok (.iload_n 1, 1) := by decide +kernel
theorem dX7_start_2 : decode prog_9_method_28_code 2 = .ok (.iload_n 3, 1) := by decide +kernel
theorem dX7_start_3 : decode prog_9_method_28_code 3 = .ok (.invokevirtual 89, 3) := by decide +kernel
theorem dX7_start_6 : decode prog_9_method_28_code 6 = .ok (.istore 4, 2) := by decide +kernel
theorem dX7_start_8 : decode prog_9_method_28_code 8 = .ok (.aload_n 0, 1) := by decide +kernel
theorem dX7_start_9 : decode prog_9_method_28_code 9 = .ok (.getfield 29, 3) := by decide +kernel
theorem dX7_start_12 : decode prog_9_method_28_code 12 = .ok (.bipush 9, 2) := by decide +kernel
theorem dX7_start_14 : decode prog_9_method_28_code 14 = .ok (.iload_n 1, 1) := by decide +kernel
theorem dX7_start_15 : decode prog_9_method_28_code 15 = .ok (.imul, 1) := by decide +kernel
theorem dX7_start_16 : decode prog_9_method_28_code 16 = .ok (.iload 4, 2) := by decide +kernel
theorem dX7_start_18 : decode prog_9_method_28_code 18 = .ok (.iadd, 1) := by decide +kernel
theorem dX7_start_19 : decode prog_9_method_28_code 19 = .ok (.aload_n 0, 1) := by decide +kernel
theorem dX7_start_20 : decode prog_9_method_28_code 20 = .ok (.getfield 99, 3) := by decide +kernel
theorem dX7_start_23 : decode prog_9_method_28_code 23 = .ok (.iastore, 1) := by decide +kernel
theorem dX7_start_24 : decode prog_9_method_28_code 24 = .ok (.iconst 0, 1) := by decide +kernel
theorem dX7_start_25 : decode prog_9_method_28_code 25 = .ok (.istore 5, 2) := by decide +kernel
theorem dX7_start_27 : decode prog_9_method_28_code 27 = .ok (.iload 5, 2) := by decide +kernel
theorem dX7_start_29 : decode prog_9_method_28_code 29 = .ok (.bipush 12, 2) := by decide +kernel
theorem dX7_start_31 : decode prog_9_method_28_code 31 = .ok (.if_icmp .ge 22, 3) := by decide +kernel
theorem dX7_start_34 : decode prog_9_method_28_code 34 = .ok (.aload_n 0, 1) := by decide +kernel
theorem dX7_start_35 : decode prog_9_method_28_code 35 = .ok (.getfield 56, 3) := by decide +kernel
theorem dX7_start_38 : decode prog_9_method_28_code 38 = .ok (.bipush 12, 2) := by decide +kernel
theorem dX7_start_40 : decode prog_9_method_28_code 40 = .ok (.iload_n 1, 1) := by decide +kernel
theorem dX7_start_41 : decode prog_9_method_28_code 41 = .ok (.imul, 1) := by decide +kernel
theorem dX7_start_42 : decode prog_9_method_28_code 42 = .ok (.iload 5, 2) := by decide +kernel
theorem dX7_start_44 : decode prog_9_method_28_code 44 = .ok (.iadd, 1) := by decide +kernel
theorem dX7_start_45 : decode prog_9_method_28_code 45 = .ok (.iconst 0, 1) := by decide +kernel
theorem dX7_start_46 : decode prog_9_method_28_code 46 = .ok (.iastore, 1) := by decide +kernel
theorem dX7_start_47 : decode prog_9_method_28_code 47 = .ok (.iinc 5 1, 3) := by decide +kernel
theorem dX7_start_50 : decode prog_9_method_28_code 50 = .ok (.goto (-23), 3) := by decide +kernel
theorem dX7_start_53 : decode prog_9_method_28_code 53 = .ok (.aload_n 0, 1) := by decide +kernel
theorem dX7_start_54 : decode prog_9_method_28_code 54 = .ok (.getfield 65, 3) := by decide +kernel
theorem dX7_start_57 : decode prog_9_method_28_code 57 = .ok (.iload_n 1, 1) := by decide +kernel
theorem dX7_start_58 : decode prog_9_method_28_code 58 = .ok (.iconst 0, 1) := by decide +kernel
theorem dX7_start_59 : decode prog_9_method_28_code 59 = .ok (.iastore, 1) := by decide +kernel
theorem dX7_start_60 : decode prog_9_method_28_code 60 = .ok (.aload_n 0, 1) := by decide +kernel
theorem dX7_start_61 : decode prog_9_method_28_code 61 = .ok (.getfield 47, 3) := by decide +kernel
theorem dX7_start_64 : decode prog_9_method_28_code 64 = .ok (.iload_n 1, 1) := by decide +kernel
theorem dX7_start_65 : decode prog_9_method_28_code 65 = .ok (.iload_n 2, 1) := by decide +kernel
theorem dX7_start_66 : decode prog_9_method_28_code 66 = .ok (.iastore, 1) := by decide +kernel
theorem dX7_start_67 : decode prog_9_method_28_code 67 = .ok (.aload_n 0, 1) := by decide +kernel
theorem dX7_start_68 : decode prog_9_method_28_code 68 = .ok (.getfield 50, 3) := by decide +kernel
theorem dX7_start_71 : decode prog_9_method_28_code 71 = .ok (.iload_n 1, 1) := by decide +kernel
theorem dX7_start_72 : decode prog_9_method_28_code 72 = .ok (.iload_n 3, 1) := by decide +kernel
theorem dX7_start_73 : decode prog_9_method_28_code 73 = .ok (.iastore, 1) := by decide +kernel
theorem dX7_start_74 : decode prog_9_method_28_code 74 = .ok (.aload_n 0, 1) := by decide +kernel
theorem dX7_start_75 : decode prog_9_method_28_code 75 = .ok (.dup, 1) := by decide +kernel
theorem dX7_start_76 : decode prog_9_method_28_code 76 = .ok (.getfield 149, 3) := by decide +kernel
theorem dX7_start_79 : decode prog_9_method_28_code 79 = .ok (.iconst 1, 1) := by decide +kernel
theorem dX7_start_80 : decode prog_9_method_28_code 80 = .ok (.iadd, 1) := by decide +kernel
theorem dX7_start_81 : decode prog_9_method_28_code 81 = .ok (.putfield 149, 3) := by decide +kernel
theorem dX7_start_84 : decode prog_9_method_28_code 84 = .ok (.aload_n 0, 1) := by decide +kernel
theorem dX7_start_85 : decode prog_9_method_28_code 85 = .ok (.getfield 53, 3) := by decide +kernel
theorem dX7_start_88 : decode prog_9_method_28_code 88 = .ok (.iload_n 1, 1) := by decide +kernel
theorem dX7_start_89 : decode prog_9_method_28_code 89 = .ok (.aload_n 0, 1) := by decide +kernel
theorem dX7_start_90 : decode prog_9_method_28_code 90 = .ok (.getfield 149, 3) := by decide +kernel
theorem dX7_start_93 : decode prog_9_method_28_code 93 = .ok (.iastore, 1) := by decide +kernel
theorem dX7_start_94 : decode prog_9_method_28_code 94 = .ok (.aload_n 0, 1) := by decide +kernel
theorem dX7_start_95 : decode prog_9_method_28_code 95 = .ok (.getfield 44, 3) := by decide +kernel
theorem dX7_start_98 : decode prog_9_method_28_code 98 = .ok (.iload_n 1, 1) := by decide +kernel
theorem dX7_start_99 : decode prog_9_method_28_code 99 = .ok (.iconst 1, 1) := by decide +kernel
theorem dX7_start_100 : decode prog_9_method_28_code 100 = .ok (.iastore, 1) := by decide +kernel
theorem dX7_start_101 : decode prog_9_method_28_code 101 = .ok (.iconst 0, 1) := by decide +kernel
theorem dX7_start_102 : decode prog_9_method_28_code 102 = .ok (.istore 5, 2) := by decide +kernel
theorem dX7_start_104 : decode prog_9_method_28_code 104 = .ok (.iload 5, 2) := by decide +kernel
theorem dX7_start_106 : decode prog_9_method_28_code 106 = .ok (.iconst 3, 1) := by decide +kernel
theorem dX7_start_107 : decode prog_9_method_28_code 107 = .ok (.if_icmp .ge 38, 3) := by decide +kernel
theorem dX7_start_110 : decode prog_9_method_28_code 110 = .ok (.aload_n 0, 1) := by decide +kernel
theorem dX7_start_111 : decode prog_9_method_28_code 111 = .ok (.iload_n 1, 1) := by decide +kernel
theorem dX7_start_112 : decode prog_9_method_28_code 112 = .ok (.iload_n 3, 1) := by decide +kernel
theorem dX7_start_113 : decode prog_9_method_28_code 113 = .ok (.iload 5, 2) := by decide +kernel
theorem dX7_start_115 : decode prog_9_method_28_code 115 = .ok (.iconst (-1), 1) := by decide +kernel
theorem dX7_start_116 : decode prog_9_method_28_code 116 = .ok (.invokevirtual 125, 3) := by decide +kernel
theorem dX7_start_119 : decode prog_9_method_28_code 119 = .ok (.istore 6, 2) := by decide +kernel
theorem dX7_start_121 : decode prog_9_method_28_code 121 = .ok (.iload 6, 2) := by decide +kernel
theorem dX7_start_123 : decode prog_9_method_28_code 123 = .ok (.ifCond .lt 16, 3) := by decide +kernel
theorem dX7_start_126 : decode prog_9_method_28_code 126 = .ok (.aload_n 0, 1) := by decide +kernel
theorem dX7_start_127 : decode prog_9_method_28_code 127 = .ok (.getfield 56, 3) := by decide +kernel
theorem dX7_start_130 : decode prog_9_method_28_code 130 = .ok (.bipush 12, 2) := by decide +kernel
theorem dX7_start_132 : decode prog_9_method_28_code 132 = .ok (.iload_n 1, 1) := by decide +kernel
theorem dX7_start_133 : decode prog_9_method_28_code 133 = .ok (.imul, 1) := by decide +kernel
theorem dX7_start_134 : decode prog_9_method_28_code 134 = .ok (.iload 6, 2) := by decide +kernel
theorem dX7_start_136 : decode prog_9_method_28_code 136 = .ok (.iadd, 1) := by decide +kernel
theorem dX7_start_137 : decode prog_9_method_28_code 137 = .ok (.iconst 1, 1) := by decide +kernel
theorem dX7_start_138 : decode prog_9_method_28_code 138 = .ok (.iastore, 1) := by decide +kernel
theorem dX7_start_139 : decode prog_9_method_28_code 139 = .ok (.iinc 5 1, 3) := by decide +kernel
theorem dX7_start_142 : decode prog_9_method_28_code 142 = .ok (.goto (-38), 3) := by decide +kernel
theorem dX7_start_145 : decode prog_9_method_28_code 145 = .ok (.aload_n 0, 1) := by decide +kernel
theorem dX7_start_146 : decode prog_9_method_28_code 146 = .ok (.iload_n 1, 1) := by decide +kernel
theorem dX7_start_147 : decode prog_9_method_28_code 147 = .ok (.invokevirtual 133, 3) := by decide +kernel
theorem dX7_start_150 : decode prog_9_method_28_code 150 = .ok (.return_, 1) := by decide +kernel
def pX7_start_27_b (N a0 : Nat) (kb : mm_M → Int32 → Int32 → Int32 → Int32 → Option (mm_M × Unit)) (kx : mm_M → Int32 → Int32 → Int32 → Option (mm_M × Unit)) (G : mm_M) (x1 : Int32) (x2 : Int32) (x3 : Int32) (x5 : Int32) : Option (mm_M × Unit) :=
  if (12 : Int32) ≤ x5 then
    kx G x1 x2 x3
  else
    q_gR G a0 8 19 fun r35_6 =>
    q_nn r35_6 fun b46_7 =>
    q_sI G b46_7 101 (((12 : Int32) * x1) + x5) (0 : Int32) fun G =>
    kb G x1 x2 x3 (x5 + (1 : Int32))
def pX7_start_27 (N a0 : Nat) (kx : mm_M → Int32 → Int32 → Int32 → Option (mm_M × Unit)) : Nat → mm_M → Int32 → Int32 → Int32 → Int32 → Option (mm_M × Unit)
  | 0 => fun _ _ _ _ _ => none
  | n + 1 => pX7_start_27_b N a0 (pX7_start_27 N a0 kx n) kx
set_option maxRecDepth 100000 in
set_option maxHeartbeats 4000000 in
theorem bX7_start_27 {p : Program} {l : Launch} {e : Env} {s : State} {m : MethodId} {args : Array Value} {below : List Frame} {meth : Method} {c : Code} {E : mm_E} {N a0 : Nat} {res : mm_M × Unit} (X : mm_X p s m args meth c prog_9_method_28_code 7 "XorOverlayModel" tw_T E) (hr : meth.sig.returnType = none) {kx : mm_M → Int32 → Int32 → Int32 → Option (mm_M × Unit)} (hkx : ∀ (G : mm_M) (H : Heap) (locs : List Loc) (ls : Array Slot) (x1 : Int32) (x2 : Int32) (x3 : Int32), mm_V E s G H locs → lx_has ls 7 [(0, .inr (some a0)), (1, .inl x1), (2, .inl x2), (3, .inl x3)] → kx G x1 x2 x3 = some res → W p l e rX7_start s m args below meth c H locs 0 0 (MQ below (mm_Qv E res.1) args s 0 0 (mm_A E)) (F0 m 53 ls [])) :
    ∀ (n : Nat) (G : mm_M) (H : Heap) (locs : List Loc) (ls : Array Slot) (x1 : Int32) (x2 : Int32) (x3 : Int32) (x5 : Int32), mm_V E s G H locs → lx_has ls 7 [(0, .inr (some a0)), (1, .inl x1), (2, .inl x2), (3, .inl x3), (5, .inl x5)] → pX7_start_27 N a0 kx n G x1 x2 x3 x5 = some res → W p l e rX7_start s m args below meth c H locs 0 0 (MQ below (mm_Qv E res.1) args s 0 0 (mm_A E)) (F0 m 27 ls []) := by
  have hx := X.1.1
  have hb := X.1.2.1
  intro n
  induction n with
  | zero =>
    intro G H locs ls x1 x2 x3 x5 V hl hp
    cases hp
  | succ n ih =>
    intro G H locs ls x1 x2 x3 x5 V hl hp
    have hp : pX7_start_27_b N a0 (pX7_start_27 N a0 kx n) kx G x1 x2 x3 x5 = some res := hp
    unfold pX7_start_27_b at hp
    refine x_iload X dX7_start_27 hl 4 rfl ?_
    refine lv_bipush (v := (12 : Int32)) hx hb dX7_start_29 (by decide) ?_
    refine q_if hp (lv_icmp_ge (tgt := 53) hx hb dX7_start_31 (by decide)) (fun hp => ?_) (fun hp => ?_)
    · exact hkx _ _ _ _ _ _ _ V (lx_sub hl [0, 1, 2, 3] rfl) hp
    · refine x_aload_n X dX7_start_34 hl 0 rfl rfl ?_
      refine q_getR (ci := 7) X V inX7 rfl (by decide) rfl 19 (by decide) rfl (tw_3 48 rfl rfl) rfl dX7_start_35 hp (fun r35_6 hp => ?_)
      refine lv_bipush (v := (12 : Int32)) hx hb dX7_start_38 (by decide) ?_
      refine x_iload_n X dX7_start_40 hl 1 rfl rfl ?_
      refine lv_imul hx hb dX7_start_41 ?_
      refine x_iload X dX7_start_42 hl 4 rfl ?_
      refine lv_iadd hx hb dX7_start_44 ?_
      refine lv_iconst (v := (0 : Int32)) hx hb dX7_start_45 (by decide) ?_
      obtain ⟨b46_7, e0, hp2⟩ := q_nn_of hp
      clear hp; subst e0; have hp := hp2; clear hp2
      refine q_iast X V dX7_start_46 hp (fun G H locs V hp => ?_)
      refine x_iinc (v := (1 : Int32)) (lst' := [(5, .inl (x5 + (1 : Int32))), (0, .inr (some a0)), (1, .inl x1), (2, .inl x2), (3, .inl x3)]) X dX7_start_47 hl 4 rfl (by decide) (by decide) rfl (fun ls hl => ?_)
      refine lv_goto (tgt := 27) hx hb dX7_start_50 (by decide) ?_
      exact ih _ _ _ _ _ _ _ _ V (lx_sub hl [1, 2, 3, 4, 0] rfl) hp
def pX7_start_104_b (N a0 : Nat) (kb : mm_M → Int32 → Int32 → Int32 → Option (mm_M × Unit)) (kx : mm_M → Int32 → Option (mm_M × Unit)) (G : mm_M) (x1 : Int32) (x3 : Int32) (x5 : Int32) : Option (mm_M × Unit) :=
  if (3 : Int32) ≤ x5 then
    kx G x1
  else
    q_is G a0 8 <|
    q_cl (pX7_near_0 N a0 G x1 x3 x5 (-1 : Int32)) fun G v116_21 =>
    if v116_21 < 0 then
      kb G x1 x3 (x5 + (1 : Int32))
    else
      q_gR G a0 8 19 fun r127_22 =>
      q_nn r127_22 fun b138_23 =>
      q_sI G b138_23 101 (((12 : Int32) * x1) + v116_21) (1 : Int32) fun G =>
      kb G x1 x3 (x5 + (1 : Int32))
def pX7_start_104 (N a0 : Nat) (kx : mm_M → Int32 → Option (mm_M × Unit)) : Nat → mm_M → Int32 → Int32 → Int32 → Option (mm_M × Unit)
  | 0 => fun _ _ _ _ => none
  | n + 1 => pX7_start_104_b N a0 (pX7_start_104 N a0 kx n) kx
set_option maxRecDepth 100000 in
set_option maxHeartbeats 4000000 in
theorem bX7_start_104 {p : Program} {l : Launch} {e : Env} {s : State} {m : MethodId} {args : Array Value} {below : List Frame} {meth : Method} {c : Code} {E : mm_E} {N a0 : Nat} {res : mm_M × Unit} (X : mm_X p s m args meth c prog_9_method_28_code 7 "XorOverlayModel" tw_T E) (hr : meth.sig.returnType = none) {kx : mm_M → Int32 → Option (mm_M × Unit)} (hkx : ∀ (G : mm_M) (H : Heap) (locs : List Loc) (ls : Array Slot) (x1 : Int32), mm_V E s G H locs → lx_has ls 7 [(0, .inr (some a0)), (1, .inl x1)] → kx G x1 = some res → W p l e rX7_start s m args below meth c H locs 0 0 (MQ below (mm_Qv E res.1) args s 0 0 (mm_A E)) (F0 m 145 ls [])) :
    ∀ (n : Nat) (G : mm_M) (H : Heap) (locs : List Loc) (ls : Array Slot) (x1 : Int32) (x3 : Int32) (x5 : Int32), mm_V E s G H locs → lx_has ls 7 [(0, .inr (some a0)), (1, .inl x1), (3, .inl x3), (5, .inl x5)] → pX7_start_104 N a0 kx n G x1 x3 x5 = some res → W p l e rX7_start s m args below meth c H locs 0 0 (MQ below (mm_Qv E res.1) args s 0 0 (mm_A E)) (F0 m 104 ls []) := by
  have hx := X.1.1
  have hb := X.1.2.1
  intro n
  induction n with
  | zero =>
    intro G H locs ls x1 x3 x5 V hl hp
    cases hp
  | succ n ih =>
    intro G H locs ls x1 x3 x5 V hl hp
    have hp : pX7_start_104_b N a0 (pX7_start_104 N a0 kx n) kx G x1 x3 x5 = some res := hp
    unfold pX7_start_104_b at hp
    refine x_iload X dX7_start_104 hl 3 rfl ?_
    refine lv_iconst (v := (3 : Int32)) hx hb dX7_start_106 (by decide) ?_
    refine q_if hp (lv_icmp_ge (tgt := 145) hx hb dX7_start_107 (by decide)) (fun hp => ?_) (fun hp => ?_)
    · exact hkx _ _ _ _ _ V (lx_sub hl [0, 1] rfl) hp
    · refine x_aload_n X dX7_start_110 hl 0 rfl rfl ?_
      refine x_iload_n X dX7_start_111 hl 1 rfl rfl ?_
      refine x_iload_n X dX7_start_112 hl 2 rfl rfl ?_
      refine x_iload X dX7_start_113 hl 3 rfl ?_
      refine lv_iconst (v := (-1 : Int32)) hx hb dX7_start_115 (by decide) ?_
      obtain ⟨hk, hp⟩ := q_is_of hp
      obtain ⟨⟨G, v116_21⟩, hq, hp⟩ := q_cl_of hp
      dsimp only at hp
      refine q_goi (cells' := 0) (slots' := 0) (va_runV (As := [.int x1, .int x3, .int x5, .int (-1 : Int32)]) (rest := []) X.1 (cX7_near l E hq) (tw_cwV 4 X.1.2.2.2.2 (tw_3 156 rfl rfl) kX7_near.2.1 kX7_near.2.2.1 kX7_near.2.2.2 kX7_near.1 rfl rfl hX7_near ⟨Nat.le_of_ble_eq_true rfl, Nat.le_of_ble_eq_true rfl⟩) (mm_preV X V rfl (by decide) rfl hk) rfl rfl hl.1 rfl (lv_room (Nat.le_of_ble_eq_true rfl)) dX7_start_116 ⟨by decide, by decide⟩) V ⟨rfl, rfl⟩ (fun H locs V => ?_)
      refine x_istore (lst' := [(6, .inl v116_21), (0, .inr (some a0)), (1, .inl x1), (3, .inl x3), (5, .inl x5)]) X dX7_start_119 hl (by decide) rfl (fun ls hl => ?_)
      refine x_iload X dX7_start_121 hl 0 rfl ?_
      refine q_if hp (lv_if_lt (tgt := 139) hx hb dX7_start_123 (by decide)) (fun hp => ?_) (fun hp => ?_)
      · refine x_iinc (v := (1 : Int32)) (lst' := [(5, .inl (x5 + (1 : Int32))), (6, .inl v116_21), (0, .inr (some a0)), (1, .inl x1), (3, .inl x3)]) X dX7_start_139 hl 4 rfl (by decide) (by decide) rfl (fun ls hl => ?_)
        refine lv_goto (tgt := 104) hx hb dX7_start_142 (by decide) ?_
        exact ih _ _ _ _ _ _ _ V (lx_sub hl [2, 3, 4, 0] rfl) hp
      · refine x_aload_n X dX7_start_126 hl 1 rfl rfl ?_
        refine q_getR (ci := 7) X V inX7 rfl (by decide) rfl 19 (by decide) rfl (tw_3 48 rfl rfl) rfl dX7_start_127 hp (fun r127_22 hp => ?_)
        refine lv_bipush (v := (12 : Int32)) hx hb dX7_start_130 (by decide) ?_
        refine x_iload_n X dX7_start_132 hl 2 rfl rfl ?_
        refine lv_imul hx hb dX7_start_133 ?_
        refine x_iload X dX7_start_134 hl 0 rfl ?_
        refine lv_iadd hx hb dX7_start_136 ?_
        refine lv_iconst (v := (1 : Int32)) hx hb dX7_start_137 (by decide) ?_
        obtain ⟨b138_23, e0, hp2⟩ := q_nn_of hp
        clear hp; subst e0; have hp := hp2; clear hp2
        refine q_iast X V dX7_start_138 hp (fun G H locs V hp => ?_)
        refine x_iinc (v := (1 : Int32)) (lst' := [(5, .inl (x5 + (1 : Int32))), (6, .inl v116_21), (0, .inr (some a0)), (1, .inl x1), (3, .inl x3)]) X dX7_start_139 hl 4 rfl (by decide) (by decide) rfl (fun ls hl => ?_)
        refine lv_goto (tgt := 104) hx hb dX7_start_142 (by decide) ?_
        exact ih _ _ _ _ _ _ _ V (lx_sub hl [2, 3, 4, 0] rfl) hp
def pX7_start_0 (N a0 : Nat) (G : mm_M) (x1 : Int32) (x2 : Int32) (x3 : Int32) : Option (mm_M × Unit) :=
  q_is G a0 8 <|
  q_cl (pX7_bucketOf_0 N a0 G x1 x3) fun G v3_2 =>
  q_gR G a0 8 10 fun r9_3 =>
  q_gI G a0 8 0 fun v20_4 =>
  q_nn r9_3 fun b23_5 =>
  q_sI G b23_5 101 (((9 : Int32) * x1) + v3_2) v20_4 fun G =>
  pX7_start_27 N a0 (fun (G : mm_M) (x1 : Int32) (x2 : Int32) (x3 : Int32) =>
    q_gR G a0 8 22 fun r54_8 =>
    q_nn r54_8 fun b59_9 =>
    q_sI G b59_9 101 x1 (0 : Int32) fun G =>
    q_gR G a0 8 16 fun r61_10 =>
    q_nn r61_10 fun b66_11 =>
    q_sI G b66_11 101 x1 x2 fun G =>
    q_gR G a0 8 17 fun r68_12 =>
    q_nn r68_12 fun b73_13 =>
    q_sI G b73_13 101 x1 x3 fun G =>
    q_gI G a0 8 1 fun v76_14 =>
    q_pI G a0 8 1 (v76_14 + (1 : Int32)) fun G =>
    q_gR G a0 8 18 fun r85_15 =>
    q_gI G a0 8 1 fun v90_16 =>
    q_nn r85_15 fun b93_17 =>
    q_sI G b93_17 101 x1 v90_16 fun G =>
    q_gR G a0 8 15 fun r95_18 =>
    q_nn r95_18 fun b100_19 =>
    q_sI G b100_19 101 x1 (1 : Int32) fun G =>
    pX7_start_104 N a0 (fun (G : mm_M) (x1 : Int32) =>
      q_is G a0 8 <|
      q_cl (pX7_goOn_0 N a0 G x1) fun G _ =>
      some (G, ())) N G x1 x3 (0 : Int32)) N G x1 x2 x3 (0 : Int32)
set_option maxRecDepth 100000 in
set_option maxHeartbeats 4000000 in
theorem bX7_start_0 {p : Program} {l : Launch} {e : Env} {s : State} {m : MethodId} {args : Array Value} {below : List Frame} {meth : Method} {c : Code} {E : mm_E} {N a0 : Nat} {res : mm_M × Unit} (X : mm_X p s m args meth c prog_9_method_28_code 7 "XorOverlayModel" tw_T E) (hr : meth.sig.returnType = none) {G : mm_M} {H : Heap} {locs : List Loc} {ls : Array Slot} {x1 : Int32} {x2 : Int32} {x3 : Int32} (V : mm_V E s G H locs) (hl : lx_has ls 7 [(0, .inr (some a0)), (1, .inl x1), (2, .inl x2), (3, .inl x3)]) (hp : pX7_start_0 N a0 G x1 x2 x3 = some res) : W p l e rX7_start s m args below meth c H locs 0 0 (MQ below (mm_Qv E res.1) args s 0 0 (mm_A E)) (F0 m 0 ls []) := by
  have hx := X.1.1
  have hb := X.1.2.1
  unfold pX7_start_0 at hp
  refine x_aload_n X dX7_start_0 hl 0 rfl rfl ?_
  refine x_iload_n X dX7_start_1 hl 1 rfl rfl ?_
  refine x_iload_n X dX7_start_2 hl 3 rfl rfl ?_
  obtain ⟨hk, hp⟩ := q_is_of hp
  obtain ⟨⟨G, v3_2⟩, hq, hp⟩ := q_cl_of hp
  dsimp only at hp
  refine q_goi (cells' := 0) (slots' := 0) (va_runV (As := [.int x1, .int x3]) (rest := []) X.1 (cX7_bucketOf l E hq) (tw_cwV 2 X.1.2.2.2.2 (tw_3 136 rfl rfl) kX7_bucketOf.2.1 kX7_bucketOf.2.2.1 kX7_bucketOf.2.2.2 kX7_bucketOf.1 rfl rfl hX7_bucketOf ⟨Nat.le_of_ble_eq_true rfl, Nat.le_of_ble_eq_true rfl⟩) (mm_preV X V rfl (by decide) rfl hk) rfl rfl hl.1 rfl (lv_room (Nat.le_of_ble_eq_true rfl)) dX7_start_3 ⟨by decide, by decide⟩) V ⟨rfl, rfl⟩ (fun H locs V => ?_)
  refine x_istore (lst' := [(4, .inl v3_2), (0, .inr (some a0)), (1, .inl x1), (2, .inl x2), (3, .inl x3)]) X dX7_start_6 hl (by decide) rfl (fun ls hl => ?_)
  refine x_aload_n X dX7_start_8 hl 1 rfl rfl ?_
  refine q_getR (ci := 7) X V inX7 rfl (by decide) rfl 10 (by decide) rfl (tw_3 39 rfl rfl) rfl dX7_start_9 hp (fun r9_3 hp => ?_)
  refine lv_bipush (v := (9 : Int32)) hx hb dX7_start_12 (by decide) ?_
  refine x_iload_n X dX7_start_14 hl 2 rfl rfl ?_
  refine lv_imul hx hb dX7_start_15 ?_
  refine x_iload X dX7_start_16 hl 0 rfl ?_
  refine lv_iadd hx hb dX7_start_18 ?_
  refine x_aload_n X dX7_start_19 hl 1 rfl rfl ?_
  refine q_getI (ci := 7) X V inX7 rfl (by decide) rfl 0 (by decide) rfl (tw_3 29 rfl rfl) rfl dX7_start_20 hp (fun v20_4 hp => ?_)
  obtain ⟨b23_5, e0, hp2⟩ := q_nn_of hp
  clear hp; subst e0; have hp := hp2; clear hp2
  refine q_iast X V dX7_start_23 hp (fun G H locs V hp => ?_)
  refine lv_iconst (v := (0 : Int32)) hx hb dX7_start_24 (by decide) ?_
  refine x_istore (lst' := [(5, .inl (0 : Int32)), (4, .inl v3_2), (0, .inr (some a0)), (1, .inl x1), (2, .inl x2), (3, .inl x3)]) X dX7_start_25 hl (by decide) rfl (fun ls hl => ?_)
  refine bX7_start_27 X hr (fun G H locs ls x1 x2 x3 V hl hp => ?_) _ _ _ _ _ _ _ _ _ V (lx_sub hl [2, 3, 4, 5, 0] rfl) hp
  refine x_aload_n X dX7_start_53 hl 0 rfl rfl ?_
  refine q_getR (ci := 7) X V inX7 rfl (by decide) rfl 22 (by decide) rfl (tw_3 51 rfl rfl) rfl dX7_start_54 hp (fun r54_8 hp => ?_)
  refine x_iload_n X dX7_start_57 hl 1 rfl rfl ?_
  refine lv_iconst (v := (0 : Int32)) hx hb dX7_start_58 (by decide) ?_
  obtain ⟨b59_9, e0, hp2⟩ := q_nn_of hp
  clear hp; subst e0; have hp := hp2; clear hp2
  refine q_iast X V dX7_start_59 hp (fun G H locs V hp => ?_)
  refine x_aload_n X dX7_start_60 hl 0 rfl rfl ?_
  refine q_getR (ci := 7) X V inX7 rfl (by decide) rfl 16 (by decide) rfl (tw_3 45 rfl rfl) rfl dX7_start_61 hp (fun r61_10 hp => ?_)
  refine x_iload_n X dX7_start_64 hl 1 rfl rfl ?_
  refine x_iload_n X dX7_start_65 hl 2 rfl rfl ?_
  obtain ⟨b66_11, e0, hp2⟩ := q_nn_of hp
  clear hp; subst e0; have hp := hp2; clear hp2
  refine q_iast X V dX7_start_66 hp (fun G H locs V hp => ?_)
  refine x_aload_n X dX7_start_67 hl 0 rfl rfl ?_
  refine q_getR (ci := 7) X V inX7 rfl (by decide) rfl 17 (by decide) rfl (tw_3 46 rfl rfl) rfl dX7_start_68 hp (fun r68_12 hp => ?_)
  refine x_iload_n X dX7_start_71 hl 1 rfl rfl ?_
  refine x_iload_n X dX7_start_72 hl 3 rfl rfl ?_
  obtain ⟨b73_13, e0, hp2⟩ := q_nn_of hp
  clear hp; subst e0; have hp := hp2; clear hp2
  refine q_iast X V dX7_start_73 hp (fun G H locs V hp => ?_)
  refine x_aload_n X dX7_start_74 hl 0 rfl rfl ?_
  refine lv_dup hx hb dX7_start_75 (va_rf_cat _) ?_
  refine q_getI (ci := 7) X V inX7 rfl (by decide) rfl 1 (by decide) rfl (tw_3 30 rfl rfl) rfl dX7_start_76 hp (fun v76_14 hp => ?_)
  refine lv_iconst (v := (1 : Int32)) hx hb dX7_start_79 (by decide) ?_
  refine lv_iadd hx hb dX7_start_80 ?_
  refine q_putI (ci := 7) X V inX7 rfl tyX7 tyX7_ok nmX7 (by decide) rfl 1 (by decide) rfl (tw_3 30 rfl rfl) rfl (Or.inl rfl) .int rfl rfl rfl dX7_start_81 hp (fun G H locs V hp => ?_)
  refine x_aload_n X dX7_start_84 hl 0 rfl rfl ?_
  refine q_getR (ci := 7) X V inX7 rfl (by decide) rfl 18 (by decide) rfl (tw_3 47 rfl rfl) rfl dX7_start_85 hp (fun r85_15 hp => ?_)
  refine x_iload_n X dX7_start_88 hl 1 rfl rfl ?_
  refine x_aload_n X dX7_start_89 hl 0 rfl rfl ?_
  refine q_getI (ci := 7) X V inX7 rfl (by decide) rfl 1 (by decide) rfl (tw_3 30 rfl rfl) rfl dX7_start_90 hp (fun v90_16 hp => ?_)
  obtain ⟨b93_17, e0, hp2⟩ := q_nn_of hp
  clear hp; subst e0; have hp := hp2; clear hp2
  refine q_iast X V dX7_start_93 hp (fun G H locs V hp => ?_)
  refine x_aload_n X dX7_start_94 hl 0 rfl rfl ?_
  refine q_getR (ci := 7) X V inX7 rfl (by decide) rfl 15 (by decide) rfl (tw_3 44 rfl rfl) rfl dX7_start_95 hp (fun r95_18 hp => ?_)
  refine x_iload_n X dX7_start_98 hl 1 rfl rfl ?_
  refine lv_iconst (v := (1 : Int32)) hx hb dX7_start_99 (by decide) ?_
  obtain ⟨b100_19, e0, hp2⟩ := q_nn_of hp
  clear hp; subst e0; have hp := hp2; clear hp2
  refine q_iast X V dX7_start_100 hp (fun G H locs V hp => ?_)
  refine lv_iconst (v := (0 : Int32)) hx hb dX7_start_101 (by decide) ?_
  refine x_istore (lst' := [(5, .inl (0 : Int32)), (0, .inr (some a0)), (1, .inl x1), (2, .inl x2), (3, .inl x3)]) X dX7_start_102 hl (by decide) rfl (fun ls hl => ?_)
  refine bX7_start_104 X hr (fun G H locs ls x1 V hl hp => ?_) _ _ _ _ _ _ _ _ V (lx_sub hl [1, 2, 4, 0] rfl) hp
  refine x_aload_n X dX7_start_145 hl 0 rfl rfl ?_
  refine x_iload_n X dX7_start_146 hl 1 rfl rfl ?_
  obtain ⟨hk, hp⟩ := q_is_of hp
  obtain ⟨⟨G, u⟩, hq, hp⟩ := q_cl_of hp
  dsimp only at hp
  refine q_gov (cells' := 0) (slots' := 0) (va_runV (As := [.int x1]) (rest := []) X.1 (cX7_goOn l E hq) (tw_cwV 1 X.1.2.2.2.2 (tw_3 160 rfl rfl) kX7_goOn.2.1 kX7_goOn.2.2.1 kX7_goOn.2.2.2 kX7_goOn.1 rfl rfl hX7_goOn ⟨Nat.le_of_ble_eq_true rfl, Nat.le_of_ble_eq_true rfl⟩) (mm_preV X V rfl (by decide) rfl hk) rfl rfl hl.1 rfl (lv_room (Nat.le_of_ble_eq_true rfl)) dX7_start_147 ⟨by decide, by decide⟩) V ⟨rfl, rfl⟩ (fun H locs V => ?_)
  exact q_vret X V hr ⟨by decide, by decide⟩ dX7_start_150 hp
theorem cX7_start (l : Launch) (E : mm_E) {N a0 : Nat} {G : mm_M} {x1 : Int32} {x2 : Int32} {x3 : Int32} {res : mm_M × Unit} (hp : pX7_start_0 N a0 G x1 x2 x3 = some res) : Met l yX7_start (Cond.code yX7_start prog_9_method_28_code 7 none :: tw_T) rX7_start (mm_Pc E G [.ref a0, .int x1, .int x2, .int x3]) (mm_Qv E res.1) 0 0 (mm_A E) :=
  mm_met (own := "XorOverlayModel") E G [.inr (some a0), .inl x1, .inl x2, .inl x3] (by decide) rfl rfl (Nat.le_of_ble_eq_true rfl) (fun p e s m args below meth c ls X hr hi V hl => bX7_start_0 X hr V hl hp)
abbrev yX7_join : MethodName := ⟨"XorOverlayModel", "join", "(II)Z"⟩
abbrev rX7_join : Room := { frames := 5, cells := 0, slots := 0, locals := 124 }
theorem kX7_join : Cond.code yX7_join prog_9_method_29_code 6 (Option.some .boolean) ∈ tw_T ∧ Cond.instanceMethod yX7_join ∈ tw_T ∧ Cond.selects "XorOverlayModel" yX7_join yX7_join ∈ tw_T ∧ Cond.initialized "XorOverlayModel" ∈ tw_T := ⟨(tw_3 115 rfl rfl), (tw_3 113 rfl rfl), (tw_3 114 rfl rfl), (tw_1 3 rfl rfl)⟩
theorem hX7_join : yX7_join.cls = "XorOverlayModel" ∧ yX7_join.cls ≠ "java/lang/invoke/MethodHandle" ∧ yX7_join.cls ≠ "java/lang/invoke/VarHandle" ∧ (parseMethodDescriptor yX7_join.desc).map (fun d => d.parameters.length) = some 2 := by decide +kernel
theorem dX7_join_0 : decode prog_9_method_29_code 0 = .ok (.aload_n 0, 1) := by decide +kernel
theorem dX7_join_1 : decode prog_9_method_29_code 1 = .ok (.iload_n 2, 1) := by decide +kernel
theorem dX7_join_2 : decode prog_9_method_29_code 2 = .ok (.invokevirtual 152, 3) := by decide +kernel
theorem dX7_join_5 : decode prog_9_method_29_code 5 = .ok (.istore_n 3, 1) := by decide +kernel
theorem dX7_join_6 : decode prog_9_method_29_code 6 = .ok (.aload_n 0, 1) := by decide +kernel
theorem dX7_join_7 : decode prog_9_method_29_code 7 = .ok (.iload_n 1, 1) := by decide +kernel
theorem dX7_join_8 : decode prog_9_method_29_code 8 = .ok (.invokevirtual 81, 3) := by decide +kernel
theorem dX7_join_11 : decode prog_9_method_29_code 11 = .ok (.istore 4, 2) := by decide +kernel
theorem dX7_join_13 : decode prog_9_method_29_code 13 = .ok (.aload_n 0, 1) := by decide +kernel
theorem dX7_join_14 : decode prog_9_method_29_code 14 = .ok (.iload_n 1, 1) := by decide +kernel
theorem dX7_join_15 : decode prog_9_method_29_code 15 = .ok (.invokevirtual 155, 3) := by decide +kernel
theorem dX7_join_18 : decode prog_9_method_29_code 18 = .ok (.ifCond .eq 34, 3) := by decide +kernel
theorem dX7_join_21 : decode prog_9_method_29_code 21 = .ok (.aload_n 0, 1) := by decide +kernel
theorem dX7_join_22 : decode prog_9_method_29_code 22 = .ok (.iload_n 1, 1) := by decide +kernel
theorem dX7_join_23 : decode prog_9_method_29_code 23 = .ok (.invokevirtual 152, 3) := by decide +kernel
theorem dX7_join_26 : decode prog_9_method_29_code 26 = .ok (.ifCond .ge 26, 3) := by decide +kernel
theorem dX7_join_29 : decode prog_9_method_29_code 29 = .ok (.iload 4, 2) := by decide +kernel
theorem dX7_join_31 : decode prog_9_method_29_code 31 = .ok (.ifCond .ge 12, 3) := by decide +kernel
theorem dX7_join_34 : decode prog_9_method_29_code 34 = .ok (.aload_n 0, 1) := by decide +kernel
theorem dX7_join_35 : decode prog_9_method_29_code 35 = .ok (.getfield 77, 3) := by decide +kernel
theorem dX7_join_38 : decode prog_9_method_29_code 38 = .ok (.bipush 12, 2) := by decide +kernel
theorem dX7_join_40 : decode prog_9_method_29_code 40 = .ok (.if_icmp .ge 12, 3) := by decide +kernel
theorem dX7_join_43 : decode prog_9_method_29_code 43 = .ok (.iload_n 2, 1) := by decide +kernel
theorem dX7_join_44 : decode prog_9_method_29_code 44 = .ok (.iconst (-1), 1) := by decide +kernel
theorem dX7_join_45 : decode prog_9_method_29_code 45 = .ok (.if_icmp .eq 9, 3) := by decide +kernel
theorem dX7_join_48 : decode prog_9_method_29_code 48 = .ok (.iload_n 3, 1) := by decide +kernel
theorem dX7_join_49 : decode prog_9_method_29_code 49 = .ok (.ifCond .ge 5, 3) := by decide +kernel
theorem dX7_join_52 : decode prog_9_method_29_code 52 = .ok (.iconst 0, 1) := by decide +kernel
theorem dX7_join_53 : decode prog_9_method_29_code 53 = .ok (.ireturn, 1) := by decide +kernel
theorem dX7_join_54 : decode prog_9_method_29_code 54 = .ok (.iload 4, 2) := by decide +kernel
theorem dX7_join_56 : decode prog_9_method_29_code 56 = .ok (.ifCond .ge 27, 3) := by decide +kernel
theorem dX7_join_59 : decode prog_9_method_29_code 59 = .ok (.aload_n 0, 1) := by decide +kernel
theorem dX7_join_60 : decode prog_9_method_29_code 60 = .ok (.getfield 77, 3) := by decide +kernel
theorem dX7_join_63 : decode prog_9_method_29_code 63 = .ok (.istore 4, 2) := by decide +kernel
theorem dX7_join_65 : decode prog_9_method_29_code 65 = .ok (.aload_n 0, 1) := by decide +kernel
theorem dX7_join_66 : decode prog_9_method_29_code 66 = .ok (.dup, 1) := by decide +kernel
theorem dX7_join_67 : decode prog_9_method_29_code 67 = .ok (.getfield 77, 3) := by decide +kernel
theorem dX7_join_70 : decode prog_9_method_29_code 70 = .ok (.iconst 1, 1) := by decide +kernel
theorem dX7_join_71 : decode prog_9_method_29_code 71 = .ok (.iadd, 1) := by decide +kernel
theorem dX7_join_72 : decode prog_9_method_29_code 72 = .ok (.putfield 77, 3) := by decide +kernel
theorem dX7_join_75 : decode prog_9_method_29_code 75 = .ok (.aload_n 0, 1) := by decide +kernel
theorem dX7_join_76 : decode prog_9_method_29_code 76 = .ok (.getfield 7, 3) := by decide +kernel
theorem dX7_join_79 : decode prog_9_method_29_code 79 = .ok (.iload 4, 2) := by decide +kernel
theorem dX7_join_81 : decode prog_9_method_29_code 81 = .ok (.iload_n 1, 1) := by decide +kernel
theorem dX7_join_82 : decode prog_9_method_29_code 82 = .ok (.iastore, 1) := by decide +kernel
theorem dX7_join_83 : decode prog_9_method_29_code 83 = .ok (.aload_n 0, 1) := by decide +kernel
theorem dX7_join_84 : decode prog_9_method_29_code 84 = .ok (.getfield 13, 3) := by decide +kernel
theorem dX7_join_87 : decode prog_9_method_29_code 87 = .ok (.iload 4, 2) := by decide +kernel
theorem dX7_join_89 : decode prog_9_method_29_code 89 = .ok (.iconst 1, 1) := by decide +kernel
theorem dX7_join_90 : decode prog_9_method_29_code 90 = .ok (.bastore, 1) := by decide +kernel
theorem dX7_join_91 : decode prog_9_method_29_code 91 = .ok (.aload_n 0, 1) := by decide +kernel
theorem dX7_join_92 : decode prog_9_method_29_code 92 = .ok (.getfield 26, 3) := by decide +kernel
theorem dX7_join_95 : decode prog_9_method_29_code 95 = .ok (.iload 4, 2) := by decide +kernel
theorem dX7_join_97 : decode prog_9_method_29_code 97 = .ok (.iconst 0, 1) := by decide +kernel
theorem dX7_join_98 : decode prog_9_method_29_code 98 = .ok (.iastore, 1) := by decide +kernel
theorem dX7_join_99 : decode prog_9_method_29_code 99 = .ok (.aload_n 0, 1) := by decide +kernel
theorem dX7_join_100 : decode prog_9_method_29_code 100 = .ok (.getfield 32, 3) := by decide +kernel
theorem dX7_join_103 : decode prog_9_method_29_code 103 = .ok (.iload 4, 2) := by decide +kernel
theorem dX7_join_105 : decode prog_9_method_29_code 105 = .ok (.iconst 0, 1) := by decide +kernel
theorem dX7_join_106 : decode prog_9_method_29_code 106 = .ok (.iastore, 1) := by decide +kernel
theorem dX7_join_107 : decode prog_9_method_29_code 107 = .ok (.aload_n 0, 1) := by decide +kernel
theorem dX7_join_108 : decode prog_9_method_29_code 108 = .ok (.getfield 44, 3) := by decide +kernel
theorem dX7_join_111 : decode prog_9_method_29_code 111 = .ok (.iload 4, 2) := by decide +kernel
theorem dX7_join_113 : decode prog_9_method_29_code 113 = .ok (.iconst 0, 1) := by decide +kernel
theorem dX7_join_114 : decode prog_9_method_29_code 114 = .ok (.iastore, 1) := by decide +kernel
theorem dX7_join_115 : decode prog_9_method_29_code 115 = .ok (.aload_n 0, 1) := by decide +kernel
theorem dX7_join_116 : decode prog_9_method_29_code 116 = .ok (.getfield 29, 3) := by decide +kernel
theorem dX7_join_119 : decode prog_9_method_29_code 119 = .ok (.bipush 9, 2) := by decide +kernel
theorem dX7_join_121 : decode prog_9_method_29_code 121 = .ok (.iload 4, 2) := by decide +kernel
theorem dX7_join_123 : decode prog_9_method_29_code 123 = .ok (.imul, 1) := by decide +kernel
theorem dX7_join_124 : decode prog_9_method_29_code 124 = .ok (.aload_n 0, 1) := by decide +kernel
theorem dX7_join_125 : decode prog_9_method_29_code 125 = .ok (.getfield 99, 3) := by decide +kernel
theorem dX7_join_128 : decode prog_9_method_29_code 128 = .ok (.iastore, 1) := by decide +kernel
theorem dX7_join_129 : decode prog_9_method_29_code 129 = .ok (.iconst 0, 1) := by decide +kernel
theorem dX7_join_130 : decode prog_9_method_29_code 130 = .ok (.istore 5, 2) := by decide +kernel
theorem dX7_join_132 : decode prog_9_method_29_code 132 = .ok (.iload 5, 2) := by decide +kernel
theorem dX7_join_134 : decode prog_9_method_29_code 134 = .ok (.bipush 12, 2) := by decide +kernel
theorem dX7_join_136 : decode prog_9_method_29_code 136 = .ok (.if_icmp .ge 23, 3) := by decide +kernel
theorem dX7_join_139 : decode prog_9_method_29_code 139 = .ok (.aload_n 0, 1) := by decide +kernel
theorem dX7_join_140 : decode prog_9_method_29_code 140 = .ok (.getfield 17, 3) := by decide +kernel
theorem dX7_join_143 : decode prog_9_method_29_code 143 = .ok (.bipush 12, 2) := by decide +kernel
theorem dX7_join_145 : decode prog_9_method_29_code 145 = .ok (.iload 4, 2) := by decide +kernel
theorem dX7_join_147 : decode prog_9_method_29_code 147 = .ok (.imul, 1) := by decide +kernel
theorem dX7_join_148 : decode prog_9_method_29_code 148 = .ok (.iload 5, 2) := by decide +kernel
theorem dX7_join_150 : decode prog_9_method_29_code 150 = .ok (.iadd, 1) := by decide +kernel
theorem dX7_join_151 : decode prog_9_method_29_code 151 = .ok (.iconst 0, 1) := by decide +kernel
theorem dX7_join_152 : decode prog_9_method_29_code 152 = .ok (.bastore, 1) := by decide +kernel
theorem dX7_join_153 : decode prog_9_method_29_code 153 = .ok (.iinc 5 1, 3) := by decide +kernel
theorem dX7_join_156 : decode prog_9_method_29_code 156 = .ok (.goto (-24), 3) := by decide +kernel
theorem dX7_join_159 : decode prog_9_method_29_code 159 = .ok (.iload_n 2, 1) := by decide +kernel
theorem dX7_join_160 : decode prog_9_method_29_code 160 = .ok (.iconst (-1), 1) := by decide +kernel
theorem dX7_join_161 : decode prog_9_method_29_code 161 = .ok (.if_icmp .eq 18, 3) := by decide +kernel
theorem dX7_join_164 : decode prog_9_method_29_code 164 = .ok (.aload_n 0, 1) := by decide +kernel
theorem dX7_join_165 : decode prog_9_method_29_code 165 = .ok (.iload 4, 2) := by decide +kernel
theorem dX7_join_167 : decode prog_9_method_29_code 167 = .ok (.iload_n 3, 1) := by decide +kernel
theorem dX7_join_168 : decode prog_9_method_29_code 168 = .ok (.invokevirtual 159, 3) := by decide +kernel
theorem dX7_join_171 : decode prog_9_method_29_code 171 = .ok (.aload_n 0, 1) := by decide +kernel
theorem dX7_join_172 : decode prog_9_method_29_code 172 = .ok (.iload 4, 2) := by decide +kernel
theorem dX7_join_174 : decode prog_9_method_29_code 174 = .ok (.iconst 0, 1) := by decide +kernel
theorem dX7_join_175 : decode prog_9_method_29_code 175 = .ok (.iload_n 1, 1) := by decide +kernel
theorem dX7_join_176 : decode prog_9_method_29_code 176 = .ok (.invokevirtual 162, 3) := by decide +kernel
theorem dX7_join_179 : decode prog_9_method_29_code 179 = .ok (.iconst 1, 1) := by decide +kernel
theorem dX7_join_180 : decode prog_9_method_29_code 180 = .ok (.ireturn, 1) := by decide +kernel
def pX7_join_132_b (N a0 : Nat) (kb : mm_M → Int32 → Int32 → Int32 → Int32 → Int32 → Option (mm_M × Int32)) (kx : mm_M → Int32 → Int32 → Int32 → Int32 → Option (mm_M × Int32)) (G : mm_M) (x1 : Int32) (x2 : Int32) (x3 : Int32) (x4 : Int32) (x5 : Int32) : Option (mm_M × Int32) :=
  if (12 : Int32) ≤ x5 then
    kx G x1 x2 x3 x4
  else
    q_gR G a0 8 6 fun r140_20 =>
    q_nn r140_20 fun b152_21 =>
    q_sZ G b152_21 102 (((12 : Int32) * x4) + x5) (0 : Int32) fun G =>
    kb G x1 x2 x3 x4 (x5 + (1 : Int32))
def pX7_join_132 (N a0 : Nat) (kx : mm_M → Int32 → Int32 → Int32 → Int32 → Option (mm_M × Int32)) : Nat → mm_M → Int32 → Int32 → Int32 → Int32 → Int32 → Option (mm_M × Int32)
  | 0 => fun _ _ _ _ _ _ => none
  | n + 1 => pX7_join_132_b N a0 (pX7_join_132 N a0 kx n) kx
set_option maxRecDepth 100000 in
set_option maxHeartbeats 4000000 in
theorem bX7_join_132 {p : Program} {l : Launch} {e : Env} {s : State} {m : MethodId} {args : Array Value} {below : List Frame} {meth : Method} {c : Code} {E : mm_E} {N a0 : Nat} {res : mm_M × Int32} (X : mm_X p s m args meth c prog_9_method_29_code 6 "XorOverlayModel" tw_T E) (hr : meth.sig.returnType = (Option.some .boolean)) {kx : mm_M → Int32 → Int32 → Int32 → Int32 → Option (mm_M × Int32)} (hkx : ∀ (G : mm_M) (H : Heap) (locs : List Loc) (ls : Array Slot) (x1 : Int32) (x2 : Int32) (x3 : Int32) (x4 : Int32), mm_V E s G H locs → lx_has ls 6 [(0, .inr (some a0)), (1, .inl x1), (2, .inl x2), (3, .inl x3), (4, .inl x4)] → kx G x1 x2 x3 x4 = some res → W p l e rX7_join s m args below meth c H locs 0 0 (MQ below (mm_Qi E res.1 res.2) args s 0 0 (mm_A E)) (F0 m 159 ls [])) :
    ∀ (n : Nat) (G : mm_M) (H : Heap) (locs : List Loc) (ls : Array Slot) (x1 : Int32) (x2 : Int32) (x3 : Int32) (x4 : Int32) (x5 : Int32), mm_V E s G H locs → lx_has ls 6 [(0, .inr (some a0)), (1, .inl x1), (2, .inl x2), (3, .inl x3), (4, .inl x4), (5, .inl x5)] → pX7_join_132 N a0 kx n G x1 x2 x3 x4 x5 = some res → W p l e rX7_join s m args below meth c H locs 0 0 (MQ below (mm_Qi E res.1 res.2) args s 0 0 (mm_A E)) (F0 m 132 ls []) := by
  have hx := X.1.1
  have hb := X.1.2.1
  intro n
  induction n with
  | zero =>
    intro G H locs ls x1 x2 x3 x4 x5 V hl hp
    cases hp
  | succ n ih =>
    intro G H locs ls x1 x2 x3 x4 x5 V hl hp
    have hp : pX7_join_132_b N a0 (pX7_join_132 N a0 kx n) kx G x1 x2 x3 x4 x5 = some res := hp
    unfold pX7_join_132_b at hp
    refine x_iload X dX7_join_132 hl 5 rfl ?_
    refine lv_bipush (v := (12 : Int32)) hx hb dX7_join_134 (by decide) ?_
    refine q_if hp (lv_icmp_ge (tgt := 159) hx hb dX7_join_136 (by decide)) (fun hp => ?_) (fun hp => ?_)
    · exact hkx _ _ _ _ _ _ _ _ V (lx_sub hl [0, 1, 2, 3, 4] rfl) hp
    · refine x_aload_n X dX7_join_139 hl 0 rfl rfl ?_
      refine q_getR (ci := 7) X V inX7 rfl (by decide) rfl 6 (by decide) rfl (tw_3 35 rfl rfl) rfl dX7_join_140 hp (fun r140_20 hp => ?_)
      refine lv_bipush (v := (12 : Int32)) hx hb dX7_join_143 (by decide) ?_
      refine x_iload X dX7_join_145 hl 4 rfl ?_
      refine lv_imul hx hb dX7_join_147 ?_
      refine x_iload X dX7_join_148 hl 5 rfl ?_
      refine lv_iadd hx hb dX7_join_150 ?_
      refine lv_iconst (v := (0 : Int32)) hx hb dX7_join_151 (by decide) ?_
      obtain ⟨b152_21, e0, hp2⟩ := q_nn_of hp
      clear hp; subst e0; have hp := hp2; clear hp2
      refine q_zast X V dX7_join_152 hp (fun G H locs V hp => ?_)
      refine x_iinc (v := (1 : Int32)) (lst' := [(5, .inl (x5 + (1 : Int32))), (0, .inr (some a0)), (1, .inl x1), (2, .inl x2), (3, .inl x3), (4, .inl x4)]) X dX7_join_153 hl 5 rfl (by decide) (by decide) rfl (fun ls hl => ?_)
      refine lv_goto (tgt := 132) hx hb dX7_join_156 (by decide) ?_
      exact ih _ _ _ _ _ _ _ _ _ V (lx_sub hl [1, 2, 3, 4, 5, 0] rfl) hp
def pX7_join_83 (N a0 : Nat) (G : mm_M) (x1 : Int32) (x2 : Int32) (x3 : Int32) (x4 : Int32) : Option (mm_M × Int32) :=
  q_gR G a0 8 5 fun r84_9 =>
  q_nn r84_9 fun b90_10 =>
  q_sZ G b90_10 102 x4 (1 : Int32) fun G =>
  q_gR G a0 8 9 fun r92_11 =>
  q_nn r92_11 fun b98_12 =>
  q_sI G b98_12 101 x4 (0 : Int32) fun G =>
  q_gR G a0 8 11 fun r100_13 =>
  q_nn r100_13 fun b106_14 =>
  q_sI G b106_14 101 x4 (0 : Int32) fun G =>
  q_gR G a0 8 15 fun r108_15 =>
  q_nn r108_15 fun b114_16 =>
  q_sI G b114_16 101 x4 (0 : Int32) fun G =>
  q_gR G a0 8 10 fun r116_17 =>
  q_gI G a0 8 0 fun v125_18 =>
  q_nn r116_17 fun b128_19 =>
  q_sI G b128_19 101 ((9 : Int32) * x4) v125_18 fun G =>
  pX7_join_132 N a0 (fun (G : mm_M) (x1 : Int32) (x2 : Int32) (x3 : Int32) (x4 : Int32) =>
    if x2 = (-1 : Int32) then
      some (G, (1 : Int32))
    else
      q_is G a0 8 <|
      q_cl (pX7_see_0 N a0 G x4 x3) fun G _ =>
      q_is G a0 8 <|
      q_cl (pX7_start_0 N a0 G x4 (0 : Int32) x1) fun G _ =>
      some (G, (1 : Int32))) N G x1 x2 x3 x4 (0 : Int32)
set_option maxRecDepth 100000 in
set_option maxHeartbeats 4000000 in
theorem bX7_join_83 {p : Program} {l : Launch} {e : Env} {s : State} {m : MethodId} {args : Array Value} {below : List Frame} {meth : Method} {c : Code} {E : mm_E} {N a0 : Nat} {res : mm_M × Int32} (X : mm_X p s m args meth c prog_9_method_29_code 6 "XorOverlayModel" tw_T E) (hr : meth.sig.returnType = (Option.some .boolean)) {G : mm_M} {H : Heap} {locs : List Loc} {ls : Array Slot} {x1 : Int32} {x2 : Int32} {x3 : Int32} {x4 : Int32} (V : mm_V E s G H locs) (hl : lx_has ls 6 [(0, .inr (some a0)), (1, .inl x1), (2, .inl x2), (3, .inl x3), (4, .inl x4)]) (hp : pX7_join_83 N a0 G x1 x2 x3 x4 = some res) : W p l e rX7_join s m args below meth c H locs 0 0 (MQ below (mm_Qi E res.1 res.2) args s 0 0 (mm_A E)) (F0 m 83 ls []) := by
  have hx := X.1.1
  have hb := X.1.2.1
  unfold pX7_join_83 at hp
  refine x_aload_n X dX7_join_83 hl 0 rfl rfl ?_
  refine q_getR (ci := 7) X V inX7 rfl (by decide) rfl 5 (by decide) rfl (tw_3 34 rfl rfl) rfl dX7_join_84 hp (fun r84_9 hp => ?_)
  refine x_iload X dX7_join_87 hl 4 rfl ?_
  refine lv_iconst (v := (1 : Int32)) hx hb dX7_join_89 (by decide) ?_
  obtain ⟨b90_10, e0, hp2⟩ := q_nn_of hp
  clear hp; subst e0; have hp := hp2; clear hp2
  refine q_zast X V dX7_join_90 hp (fun G H locs V hp => ?_)
  refine x_aload_n X dX7_join_91 hl 0 rfl rfl ?_
  refine q_getR (ci := 7) X V inX7 rfl (by decide) rfl 9 (by decide) rfl (tw_3 38 rfl rfl) rfl dX7_join_92 hp (fun r92_11 hp => ?_)
  refine x_iload X dX7_join_95 hl 4 rfl ?_
  refine lv_iconst (v := (0 : Int32)) hx hb dX7_join_97 (by decide) ?_
  obtain ⟨b98_12, e0, hp2⟩ := q_nn_of hp
  clear hp; subst e0; have hp := hp2; clear hp2
  refine q_iast X V dX7_join_98 hp (fun G H locs V hp => ?_)
  refine x_aload_n X dX7_join_99 hl 0 rfl rfl ?_
  refine q_getR (ci := 7) X V inX7 rfl (by decide) rfl 11 (by decide) rfl (tw_3 40 rfl rfl) rfl dX7_join_100 hp (fun r100_13 hp => ?_)
  refine x_iload X dX7_join_103 hl 4 rfl ?_
  refine lv_iconst (v := (0 : Int32)) hx hb dX7_join_105 (by decide) ?_
  obtain ⟨b106_14, e0, hp2⟩ := q_nn_of hp
  clear hp; subst e0; have hp := hp2; clear hp2
  refine q_iast X V dX7_join_106 hp (fun G H locs V hp => ?_)
  refine x_aload_n X dX7_join_107 hl 0 rfl rfl ?_
  refine q_getR (ci := 7) X V inX7 rfl (by decide) rfl 15 (by decide) rfl (tw_3 44 rfl rfl) rfl dX7_join_108 hp (fun r108_15 hp => ?_)
  refine x_iload X dX7_join_111 hl 4 rfl ?_
  refine lv_iconst (v := (0 : Int32)) hx hb dX7_join_113 (by decide) ?_
  obtain ⟨b114_16, e0, hp2⟩ := q_nn_of hp
  clear hp; subst e0; have hp := hp2; clear hp2
  refine q_iast X V dX7_join_114 hp (fun G H locs V hp => ?_)
  refine x_aload_n X dX7_join_115 hl 0 rfl rfl ?_
  refine q_getR (ci := 7) X V inX7 rfl (by decide) rfl 10 (by decide) rfl (tw_3 39 rfl rfl) rfl dX7_join_116 hp (fun r116_17 hp => ?_)
  refine lv_bipush (v := (9 : Int32)) hx hb dX7_join_119 (by decide) ?_
  refine x_iload X dX7_join_121 hl 4 rfl ?_
  refine lv_imul hx hb dX7_join_123 ?_
  refine x_aload_n X dX7_join_124 hl 0 rfl rfl ?_
  refine q_getI (ci := 7) X V inX7 rfl (by decide) rfl 0 (by decide) rfl (tw_3 29 rfl rfl) rfl dX7_join_125 hp (fun v125_18 hp => ?_)
  obtain ⟨b128_19, e0, hp2⟩ := q_nn_of hp
  clear hp; subst e0; have hp := hp2; clear hp2
  refine q_iast X V dX7_join_128 hp (fun G H locs V hp => ?_)
  refine lv_iconst (v := (0 : Int32)) hx hb dX7_join_129 (by decide) ?_
  refine x_istore (lst' := [(5, .inl (0 : Int32)), (0, .inr (some a0)), (1, .inl x1), (2, .inl x2), (3, .inl x3), (4, .inl x4)]) X dX7_join_130 hl (by decide) rfl (fun ls hl => ?_)
  refine bX7_join_132 X hr (fun G H locs ls x1 x2 x3 x4 V hl hp => ?_) _ _ _ _ _ _ _ _ _ _ V (lx_sub hl [1, 2, 3, 4, 5, 0] rfl) hp
  refine x_iload_n X dX7_join_159 hl 2 rfl rfl ?_
  refine lv_iconst (v := (-1 : Int32)) hx hb dX7_join_160 (by decide) ?_
  refine q_if hp (lv_icmp_eq (tgt := 179) hx hb dX7_join_161 (by decide)) (fun hp => ?_) (fun hp => ?_)
  · refine lv_iconst (v := (1 : Int32)) hx hb dX7_join_179 (by decide) ?_
    exact q_zret X V hr rfl ⟨by decide, by decide⟩ dX7_join_180 hp
  · refine x_aload_n X dX7_join_164 hl 0 rfl rfl ?_
    refine x_iload X dX7_join_165 hl 4 rfl ?_
    refine x_iload_n X dX7_join_167 hl 3 rfl rfl ?_
    obtain ⟨hk, hp⟩ := q_is_of hp
    obtain ⟨⟨G, u⟩, hq, hp⟩ := q_cl_of hp
    dsimp only at hp
    refine q_gov (cells' := 0) (slots' := 0) (va_runV (As := [.int x4, .int x3]) (rest := []) X.1 (cX7_see l E hq) (tw_cwV 2 X.1.2.2.2.2 (tw_3 128 rfl rfl) kX7_see.2.1 kX7_see.2.2.1 kX7_see.2.2.2 kX7_see.1 rfl rfl hX7_see ⟨Nat.le_of_ble_eq_true rfl, Nat.le_of_ble_eq_true rfl⟩) (mm_preV X V rfl (by decide) rfl hk) rfl rfl hl.1 rfl (lv_room (Nat.le_of_ble_eq_true rfl)) dX7_join_168 ⟨by decide, by decide⟩) V ⟨rfl, rfl⟩ (fun H locs V => ?_)
    refine x_aload_n X dX7_join_171 hl 0 rfl rfl ?_
    refine x_iload X dX7_join_172 hl 4 rfl ?_
    refine lv_iconst (v := (0 : Int32)) hx hb dX7_join_174 (by decide) ?_
    refine x_iload_n X dX7_join_175 hl 1 rfl rfl ?_
    obtain ⟨hk, hp⟩ := q_is_of hp
    obtain ⟨⟨G, u⟩, hq, hp⟩ := q_cl_of hp
    dsimp only at hp
    refine q_gov (cells' := 0) (slots' := 0) (va_runV (As := [.int x4, .int (0 : Int32), .int x1]) (rest := []) X.1 (cX7_start l E hq) (tw_cwV 3 X.1.2.2.2.2 (tw_3 152 rfl rfl) kX7_start.2.1 kX7_start.2.2.1 kX7_start.2.2.2 kX7_start.1 rfl rfl hX7_start ⟨Nat.le_of_ble_eq_true rfl, Nat.le_of_ble_eq_true rfl⟩) (mm_preV X V rfl (by decide) rfl hk) rfl rfl hl.1 rfl (lv_room (Nat.le_of_ble_eq_true rfl)) dX7_join_176 ⟨by decide, by decide⟩) V ⟨rfl, rfl⟩ (fun H locs V => ?_)
    refine lv_iconst (v := (1 : Int32)) hx hb dX7_join_179 (by decide) ?_
    exact q_zret X V hr rfl ⟨by decide, by decide⟩ dX7_join_180 hp
def pX7_join_54 (N a0 : Nat) (G : mm_M) (x1 : Int32) (x2 : Int32) (x3 : Int32) (x4 : Int32) : Option (mm_M × Int32) :=
  if 0 ≤ x4 then
    pX7_join_83 N a0 G x1 x2 x3 x4
  else
    q_gI G a0 8 3 fun v60_24 =>
    q_gI G a0 8 3 fun v67_25 =>
    q_pI G a0 8 3 (v67_25 + (1 : Int32)) fun G =>
    q_gR G a0 8 4 fun r76_26 =>
    q_nn r76_26 fun b82_27 =>
    q_sI G b82_27 101 v60_24 x1 fun G =>
    pX7_join_83 N a0 G x1 x2 x3 v60_24
set_option maxRecDepth 100000 in
set_option maxHeartbeats 4000000 in
theorem bX7_join_54 {p : Program} {l : Launch} {e : Env} {s : State} {m : MethodId} {args : Array Value} {below : List Frame} {meth : Method} {c : Code} {E : mm_E} {N a0 : Nat} {res : mm_M × Int32} (X : mm_X p s m args meth c prog_9_method_29_code 6 "XorOverlayModel" tw_T E) (hr : meth.sig.returnType = (Option.some .boolean)) {G : mm_M} {H : Heap} {locs : List Loc} {ls : Array Slot} {x1 : Int32} {x2 : Int32} {x3 : Int32} {x4 : Int32} (V : mm_V E s G H locs) (hl : lx_has ls 6 [(0, .inr (some a0)), (1, .inl x1), (2, .inl x2), (3, .inl x3), (4, .inl x4)]) (hp : pX7_join_54 N a0 G x1 x2 x3 x4 = some res) : W p l e rX7_join s m args below meth c H locs 0 0 (MQ below (mm_Qi E res.1 res.2) args s 0 0 (mm_A E)) (F0 m 54 ls []) := by
  have hx := X.1.1
  have hb := X.1.2.1
  unfold pX7_join_54 at hp
  refine x_iload X dX7_join_54 hl 4 rfl ?_
  refine q_if hp (lv_if_ge (tgt := 83) hx hb dX7_join_56 (by decide)) (fun hp => ?_) (fun hp => ?_)
  · exact bX7_join_83 X hr V (lx_sub hl [0, 1, 2, 3, 4] rfl) hp
  · refine x_aload_n X dX7_join_59 hl 0 rfl rfl ?_
    refine q_getI (ci := 7) X V inX7 rfl (by decide) rfl 3 (by decide) rfl (tw_3 32 rfl rfl) rfl dX7_join_60 hp (fun v60_24 hp => ?_)
    refine x_istore (lst' := [(4, .inl v60_24), (0, .inr (some a0)), (1, .inl x1), (2, .inl x2), (3, .inl x3)]) X dX7_join_63 hl (by decide) rfl (fun ls hl => ?_)
    refine x_aload_n X dX7_join_65 hl 1 rfl rfl ?_
    refine lv_dup hx hb dX7_join_66 (va_rf_cat _) ?_
    refine q_getI (ci := 7) X V inX7 rfl (by decide) rfl 3 (by decide) rfl (tw_3 32 rfl rfl) rfl dX7_join_67 hp (fun v67_25 hp => ?_)
    refine lv_iconst (v := (1 : Int32)) hx hb dX7_join_70 (by decide) ?_
    refine lv_iadd hx hb dX7_join_71 ?_
    refine q_putI (ci := 7) X V inX7 rfl tyX7 tyX7_ok nmX7 (by decide) rfl 3 (by decide) rfl (tw_3 32 rfl rfl) rfl (Or.inl rfl) .int rfl rfl rfl dX7_join_72 hp (fun G H locs V hp => ?_)
    refine x_aload_n X dX7_join_75 hl 1 rfl rfl ?_
    refine q_getR (ci := 7) X V inX7 rfl (by decide) rfl 4 (by decide) rfl (tw_3 33 rfl rfl) rfl dX7_join_76 hp (fun r76_26 hp => ?_)
    refine x_iload X dX7_join_79 hl 0 rfl ?_
    refine x_iload_n X dX7_join_81 hl 2 rfl rfl ?_
    obtain ⟨b82_27, e0, hp2⟩ := q_nn_of hp
    clear hp; subst e0; have hp := hp2; clear hp2
    refine q_iast X V dX7_join_82 hp (fun G H locs V hp => ?_)
    exact bX7_join_83 X hr V (lx_sub hl [1, 2, 3, 4, 0] rfl) hp
def pX7_join_43 (N a0 : Nat) (G : mm_M) (x1 : Int32) (x2 : Int32) (x3 : Int32) (x4 : Int32) : Option (mm_M × Int32) :=
  if x2 = (-1 : Int32) then
    pX7_join_54 N a0 G x1 x2 x3 x4
  else
    if 0 ≤ x3 then
      pX7_join_54 N a0 G x1 x2 x3 x4
    else
      some (G, (0 : Int32))
set_option maxRecDepth 100000 in
set_option maxHeartbeats 4000000 in
theorem bX7_join_43 {p : Program} {l : Launch} {e : Env} {s : State} {m : MethodId} {args : Array Value} {below : List Frame} {meth : Method} {c : Code} {E : mm_E} {N a0 : Nat} {res : mm_M × Int32} (X : mm_X p s m args meth c prog_9_method_29_code 6 "XorOverlayModel" tw_T E) (hr : meth.sig.returnType = (Option.some .boolean)) {G : mm_M} {H : Heap} {locs : List Loc} {ls : Array Slot} {x1 : Int32} {x2 : Int32} {x3 : Int32} {x4 : Int32} (V : mm_V E s G H locs) (hl : lx_has ls 6 [(0, .inr (some a0)), (1, .inl x1), (2, .inl x2), (3, .inl x3), (4, .inl x4)]) (hp : pX7_join_43 N a0 G x1 x2 x3 x4 = some res) : W p l e rX7_join s m args below meth c H locs 0 0 (MQ below (mm_Qi E res.1 res.2) args s 0 0 (mm_A E)) (F0 m 43 ls []) := by
  have hx := X.1.1
  have hb := X.1.2.1
  unfold pX7_join_43 at hp
  refine x_iload_n X dX7_join_43 hl 2 rfl rfl ?_
  refine lv_iconst (v := (-1 : Int32)) hx hb dX7_join_44 (by decide) ?_
  refine q_if hp (lv_icmp_eq (tgt := 54) hx hb dX7_join_45 (by decide)) (fun hp => ?_) (fun hp => ?_)
  · exact bX7_join_54 X hr V (lx_sub hl [0, 1, 2, 3, 4] rfl) hp
  · refine x_iload_n X dX7_join_48 hl 3 rfl rfl ?_
    refine q_if hp (lv_if_ge (tgt := 54) hx hb dX7_join_49 (by decide)) (fun hp => ?_) (fun hp => ?_)
    · exact bX7_join_54 X hr V (lx_sub hl [0, 1, 2, 3, 4] rfl) hp
    · refine lv_iconst (v := (0 : Int32)) hx hb dX7_join_52 (by decide) ?_
      exact q_zret X V hr rfl ⟨by decide, by decide⟩ dX7_join_53 hp
def pX7_join_0 (N a0 : Nat) (G : mm_M) (x1 : Int32) (x2 : Int32) : Option (mm_M × Int32) :=
  q_is G a0 8 <|
  q_cl (pX7_at_0 N a0 G x2) fun G v2_2 =>
  q_is G a0 8 <|
  q_cl (pX7_known_0 N a0 G x1) fun G v8_4 =>
  q_is G a0 8 <|
  q_cl (pX7_number_0 N a0 G x1) fun G v15_6 =>
  if v15_6 = 0 then
    some (G, (0 : Int32))
  else
    q_is G a0 8 <|
    q_cl (pX7_at_0 N a0 G x1) fun G v23_8 =>
    if 0 ≤ v23_8 then
      some (G, (0 : Int32))
    else
      if 0 ≤ v8_4 then
        pX7_join_43 N a0 G x1 x2 v2_2 v8_4
      else
        q_gI G a0 8 3 fun v35_28 =>
        if (12 : Int32) ≤ v35_28 then
          some (G, (0 : Int32))
        else
          pX7_join_43 N a0 G x1 x2 v2_2 v8_4
set_option maxRecDepth 100000 in
set_option maxHeartbeats 4000000 in
theorem bX7_join_0 {p : Program} {l : Launch} {e : Env} {s : State} {m : MethodId} {args : Array Value} {below : List Frame} {meth : Method} {c : Code} {E : mm_E} {N a0 : Nat} {res : mm_M × Int32} (X : mm_X p s m args meth c prog_9_method_29_code 6 "XorOverlayModel" tw_T E) (hr : meth.sig.returnType = (Option.some .boolean)) {G : mm_M} {H : Heap} {locs : List Loc} {ls : Array Slot} {x1 : Int32} {x2 : Int32} (V : mm_V E s G H locs) (hl : lx_has ls 6 [(0, .inr (some a0)), (1, .inl x1), (2, .inl x2)]) (hp : pX7_join_0 N a0 G x1 x2 = some res) : W p l e rX7_join s m args below meth c H locs 0 0 (MQ below (mm_Qi E res.1 res.2) args s 0 0 (mm_A E)) (F0 m 0 ls []) := by
  have hx := X.1.1
  have hb := X.1.2.1
  unfold pX7_join_0 at hp
  refine x_aload_n X dX7_join_0 hl 0 rfl rfl ?_
  refine x_iload_n X dX7_join_1 hl 2 rfl rfl ?_
  obtain ⟨hk, hp⟩ := q_is_of hp
  obtain ⟨⟨G, v2_2⟩, hq, hp⟩ := q_cl_of hp
  dsimp only at hp
  refine q_goi (cells' := 0) (slots' := 0) (va_runV (As := [.int x2]) (rest := []) X.1 (cX7_at l E hq) (tw_cwV 1 X.1.2.2.2.2 (tw_3 116 rfl rfl) kX7_at.2.1 kX7_at.2.2.1 kX7_at.2.2.2 kX7_at.1 rfl rfl hX7_at ⟨Nat.le_of_ble_eq_true rfl, Nat.le_of_ble_eq_true rfl⟩) (mm_preV X V rfl (by decide) rfl hk) rfl rfl hl.1 rfl (lv_room (Nat.le_of_ble_eq_true rfl)) dX7_join_2 ⟨by decide, by decide⟩) V ⟨rfl, rfl⟩ (fun H locs V => ?_)
  refine x_istore_n (lst' := [(3, .inl v2_2), (0, .inr (some a0)), (1, .inl x1), (2, .inl x2)]) X dX7_join_5 hl rfl (by decide) rfl (fun ls hl => ?_)
  refine x_aload_n X dX7_join_6 hl 1 rfl rfl ?_
  refine x_iload_n X dX7_join_7 hl 2 rfl rfl ?_
  obtain ⟨hk, hp⟩ := q_is_of hp
  obtain ⟨⟨G, v8_4⟩, hq, hp⟩ := q_cl_of hp
  dsimp only at hp
  refine q_goi (cells' := 0) (slots' := 0) (va_runV (As := [.int x1]) (rest := []) X.1 (cX7_known l E hq) (tw_cwV 1 X.1.2.2.2.2 (tw_3 120 rfl rfl) kX7_known.2.1 kX7_known.2.2.1 kX7_known.2.2.2 kX7_known.1 rfl rfl hX7_known ⟨Nat.le_of_ble_eq_true rfl, Nat.le_of_ble_eq_true rfl⟩) (mm_preV X V rfl (by decide) rfl hk) rfl rfl hl.1 rfl (lv_room (Nat.le_of_ble_eq_true rfl)) dX7_join_8 ⟨by decide, by decide⟩) V ⟨rfl, rfl⟩ (fun H locs V => ?_)
  refine x_istore (lst' := [(4, .inl v8_4), (3, .inl v2_2), (0, .inr (some a0)), (1, .inl x1), (2, .inl x2)]) X dX7_join_11 hl (by decide) rfl (fun ls hl => ?_)
  refine x_aload_n X dX7_join_13 hl 2 rfl rfl ?_
  refine x_iload_n X dX7_join_14 hl 3 rfl rfl ?_
  obtain ⟨hk, hp⟩ := q_is_of hp
  obtain ⟨⟨G, v15_6⟩, hq, hp⟩ := q_cl_of hp
  dsimp only at hp
  refine q_goi (cells' := 0) (slots' := 0) (va_runV (As := [.int x1]) (rest := []) X.1 (cX7_number l E hq) (tw_cwV 1 X.1.2.2.2.2 (tw_3 124 rfl rfl) kX7_number.2.1 kX7_number.2.2.1 kX7_number.2.2.2 kX7_number.1 rfl rfl hX7_number ⟨Nat.le_of_ble_eq_true rfl, Nat.le_of_ble_eq_true rfl⟩) (mm_preV X V rfl (by decide) rfl hk) rfl rfl hl.1 rfl (lv_room (Nat.le_of_ble_eq_true rfl)) dX7_join_15 ⟨by decide, by decide⟩) V ⟨rfl, rfl⟩ (fun H locs V => ?_)
  refine q_if hp (lv_if_eq (tgt := 52) hx hb dX7_join_18 (by decide)) (fun hp => ?_) (fun hp => ?_)
  · refine lv_iconst (v := (0 : Int32)) hx hb dX7_join_52 (by decide) ?_
    exact q_zret X V hr rfl ⟨by decide, by decide⟩ dX7_join_53 hp
  · refine x_aload_n X dX7_join_21 hl 2 rfl rfl ?_
    refine x_iload_n X dX7_join_22 hl 3 rfl rfl ?_
    obtain ⟨hk, hp⟩ := q_is_of hp
    obtain ⟨⟨G, v23_8⟩, hq, hp⟩ := q_cl_of hp
    dsimp only at hp
    refine q_goi (cells' := 0) (slots' := 0) (va_runV (As := [.int x1]) (rest := []) X.1 (cX7_at l E hq) (tw_cwV 1 X.1.2.2.2.2 (tw_3 116 rfl rfl) kX7_at.2.1 kX7_at.2.2.1 kX7_at.2.2.2 kX7_at.1 rfl rfl hX7_at ⟨Nat.le_of_ble_eq_true rfl, Nat.le_of_ble_eq_true rfl⟩) (mm_preV X V rfl (by decide) rfl hk) rfl rfl hl.1 rfl (lv_room (Nat.le_of_ble_eq_true rfl)) dX7_join_23 ⟨by decide, by decide⟩) V ⟨rfl, rfl⟩ (fun H locs V => ?_)
    refine q_if hp (lv_if_ge (tgt := 52) hx hb dX7_join_26 (by decide)) (fun hp => ?_) (fun hp => ?_)
    · refine lv_iconst (v := (0 : Int32)) hx hb dX7_join_52 (by decide) ?_
      exact q_zret X V hr rfl ⟨by decide, by decide⟩ dX7_join_53 hp
    · refine x_iload X dX7_join_29 hl 0 rfl ?_
      refine q_if hp (lv_if_ge (tgt := 43) hx hb dX7_join_31 (by decide)) (fun hp => ?_) (fun hp => ?_)
      · exact bX7_join_43 X hr V (lx_sub hl [2, 3, 4, 1, 0] rfl) hp
      · refine x_aload_n X dX7_join_34 hl 2 rfl rfl ?_
        refine q_getI (ci := 7) X V inX7 rfl (by decide) rfl 3 (by decide) rfl (tw_3 32 rfl rfl) rfl dX7_join_35 hp (fun v35_28 hp => ?_)
        refine lv_bipush (v := (12 : Int32)) hx hb dX7_join_38 (by decide) ?_
        refine q_if hp (lv_icmp_ge (tgt := 52) hx hb dX7_join_40 (by decide)) (fun hp => ?_) (fun hp => ?_)
        · refine lv_iconst (v := (0 : Int32)) hx hb dX7_join_52 (by decide) ?_
          exact q_zret X V hr rfl ⟨by decide, by decide⟩ dX7_join_53 hp
        · exact bX7_join_43 X hr V (lx_sub hl [2, 3, 4, 1, 0] rfl) hp
theorem cX7_join (l : Launch) (E : mm_E) {N a0 : Nat} {G : mm_M} {x1 : Int32} {x2 : Int32} {res : mm_M × Int32} (hp : pX7_join_0 N a0 G x1 x2 = some res) : Met l yX7_join (Cond.code yX7_join prog_9_method_29_code 6 (Option.some .boolean) :: tw_T) rX7_join (mm_Pc E G [.ref a0, .int x1, .int x2]) (mm_Qi E res.1 res.2) 0 0 (mm_A E) :=
  mm_met (own := "XorOverlayModel") E G [.inr (some a0), .inl x1, .inl x2] (by decide) rfl rfl (Nat.le_of_ble_eq_true rfl) (fun p e s m args below meth c ls X hr hi V hl => bX7_join_0 X hr V hl hp)
abbrev yX7_leave : MethodName := ⟨"XorOverlayModel", "leave", "(I)Z"⟩
abbrev rX7_leave : Room := { frames := 2, cells := 0, slots := 0, locals := 44 }
theorem kX7_leave : Cond.code yX7_leave prog_9_method_30_code 3 (Option.some .boolean) ∈ tw_T ∧ Cond.instanceMethod yX7_leave ∈ tw_T ∧ Cond.selects "XorOverlayModel" yX7_leave yX7_leave ∈ tw_T ∧ Cond.initialized "XorOverlayModel" ∈ tw_T := ⟨(tw_3 187 rfl rfl), (tw_3 185 rfl rfl), (tw_3 186 rfl rfl), (tw_1 3 rfl rfl)⟩
theorem hX7_leave : yX7_leave.cls = "XorOverlayModel" ∧ yX7_leave.cls ≠ "java/lang/invoke/MethodHandle" ∧ yX7_leave.cls ≠ "java/lang/invoke/VarHandle" ∧ (parseMethodDescriptor yX7_leave.desc).map (fun d => d.parameters.length) = some 1 := by decide +kernel
theorem dX7_leave_0 : decode prog_9_method_30_code 0 = .ok (.aload_n 0, 1) := by decide +kernel
theorem dX7_leave_1 : decode prog_9_method_30_code 1 = .ok (.iload_n 1, 1) := by decide +kernel
theorem dX7_leave_2 : decode prog_9_method_30_code 2 = .ok (.invokevirtual 152, 3) := by decide +kernel
theorem dX7_leave_5 : decode prog_9_method_30_code 5 = .ok (.istore_n 2, 1) := by decide +kernel
theorem dX7_leave_6 : decode prog_9_method_30_code 6 = .ok (.iload_n 2, 1) := by decide +kernel
theorem dX7_leave_7 : decode prog_9_method_30_code 7 = .ok (.ifCond .ge 5, 3) := by decide +kernel
theorem dX7_leave_10 : decode prog_9_method_30_code 10 = .ok (.iconst 0, 1) := by decide +kernel
theorem dX7_leave_11 : decode prog_9_method_30_code 11 = .ok (.ireturn, 1) := by decide +kernel
theorem dX7_leave_12 : decode prog_9_method_30_code 12 = .ok (.aload_n 0, 1) := by decide +kernel
theorem dX7_leave_13 : decode prog_9_method_30_code 13 = .ok (.getfield 13, 3) := by decide +kernel
theorem dX7_leave_16 : decode prog_9_method_30_code 16 = .ok (.iload_n 2, 1) := by decide +kernel
theorem dX7_leave_17 : decode prog_9_method_30_code 17 = .ok (.iconst 0, 1) := by decide +kernel
theorem dX7_leave_18 : decode prog_9_method_30_code 18 = .ok (.bastore, 1) := by decide +kernel
theorem dX7_leave_19 : decode prog_9_method_30_code 19 = .ok (.iconst 1, 1) := by decide +kernel
theorem dX7_leave_20 : decode prog_9_method_30_code 20 = .ok (.ireturn, 1) := by decide +kernel
def pX7_leave_0 (N a0 : Nat) (G : mm_M) (x1 : Int32) : Option (mm_M × Int32) :=
  q_is G a0 8 <|
  q_cl (pX7_at_0 N a0 G x1) fun G v2_2 =>
  if 0 ≤ v2_2 then
    q_gR G a0 8 5 fun r13_3 =>
    q_nn r13_3 fun b18_4 =>
    q_sZ G b18_4 102 v2_2 (0 : Int32) fun G =>
    some (G, (1 : Int32))
  else
    some (G, (0 : Int32))
set_option maxRecDepth 100000 in
set_option maxHeartbeats 4000000 in
theorem bX7_leave_0 {p : Program} {l : Launch} {e : Env} {s : State} {m : MethodId} {args : Array Value} {below : List Frame} {meth : Method} {c : Code} {E : mm_E} {N a0 : Nat} {res : mm_M × Int32} (X : mm_X p s m args meth c prog_9_method_30_code 3 "XorOverlayModel" tw_T E) (hr : meth.sig.returnType = (Option.some .boolean)) {G : mm_M} {H : Heap} {locs : List Loc} {ls : Array Slot} {x1 : Int32} (V : mm_V E s G H locs) (hl : lx_has ls 3 [(0, .inr (some a0)), (1, .inl x1)]) (hp : pX7_leave_0 N a0 G x1 = some res) : W p l e rX7_leave s m args below meth c H locs 0 0 (MQ below (mm_Qi E res.1 res.2) args s 0 0 (mm_A E)) (F0 m 0 ls []) := by
  have hx := X.1.1
  have hb := X.1.2.1
  unfold pX7_leave_0 at hp
  refine x_aload_n X dX7_leave_0 hl 0 rfl rfl ?_
  refine x_iload_n X dX7_leave_1 hl 1 rfl rfl ?_
  obtain ⟨hk, hp⟩ := q_is_of hp
  obtain ⟨⟨G, v2_2⟩, hq, hp⟩ := q_cl_of hp
  dsimp only at hp
  refine q_goi (cells' := 0) (slots' := 0) (va_runV (As := [.int x1]) (rest := []) X.1 (cX7_at l E hq) (tw_cwV 1 X.1.2.2.2.2 (tw_3 116 rfl rfl) kX7_at.2.1 kX7_at.2.2.1 kX7_at.2.2.2 kX7_at.1 rfl rfl hX7_at ⟨Nat.le_of_ble_eq_true rfl, Nat.le_of_ble_eq_true rfl⟩) (mm_preV X V rfl (by decide) rfl hk) rfl rfl hl.1 rfl (lv_room (Nat.le_of_ble_eq_true rfl)) dX7_leave_2 ⟨by decide, by decide⟩) V ⟨rfl, rfl⟩ (fun H locs V => ?_)
  refine x_istore_n (lst' := [(2, .inl v2_2), (0, .inr (some a0)), (1, .inl x1)]) X dX7_leave_5 hl rfl (by decide) rfl (fun ls hl => ?_)
  refine x_iload_n X dX7_leave_6 hl 0 rfl rfl ?_
  refine q_if hp (lv_if_ge (tgt := 12) hx hb dX7_leave_7 (by decide)) (fun hp => ?_) (fun hp => ?_)
  · refine x_aload_n X dX7_leave_12 hl 1 rfl rfl ?_
    refine q_getR (ci := 7) X V inX7 rfl (by decide) rfl 5 (by decide) rfl (tw_3 34 rfl rfl) rfl dX7_leave_13 hp (fun r13_3 hp => ?_)
    refine x_iload_n X dX7_leave_16 hl 0 rfl rfl ?_
    refine lv_iconst (v := (0 : Int32)) hx hb dX7_leave_17 (by decide) ?_
    obtain ⟨b18_4, e0, hp2⟩ := q_nn_of hp
    clear hp; subst e0; have hp := hp2; clear hp2
    refine q_zast X V dX7_leave_18 hp (fun G H locs V hp => ?_)
    refine lv_iconst (v := (1 : Int32)) hx hb dX7_leave_19 (by decide) ?_
    exact q_zret X V hr rfl ⟨by decide, by decide⟩ dX7_leave_20 hp
  · refine lv_iconst (v := (0 : Int32)) hx hb dX7_leave_10 (by decide) ?_
    exact q_zret X V hr rfl ⟨by decide, by decide⟩ dX7_leave_11 hp
theorem cX7_leave (l : Launch) (E : mm_E) {N a0 : Nat} {G : mm_M} {x1 : Int32} {res : mm_M × Int32} (hp : pX7_leave_0 N a0 G x1 = some res) : Met l yX7_leave (Cond.code yX7_leave prog_9_method_30_code 3 (Option.some .boolean) :: tw_T) rX7_leave (mm_Pc E G [.ref a0, .int x1]) (mm_Qi E res.1 res.2) 0 0 (mm_A E) :=
  mm_met (own := "XorOverlayModel") E G [.inr (some a0), .inl x1] (by decide) rfl rfl (Nat.le_of_ble_eq_true rfl) (fun p e s m args below meth c ls X hr hi V hl => bX7_leave_0 X hr V hl hp)
abbrev yX7_begin : MethodName := ⟨"XorOverlayModel", "begin", "(III)Z"⟩
abbrev rX7_begin : Room := { frames := 5, cells := 0, slots := 0, locals := 124 }
theorem kX7_begin : Cond.code yX7_begin prog_9_method_31_code 5 (Option.some .boolean) ∈ tw_T ∧ Cond.instanceMethod yX7_begin ∈ tw_T ∧ Cond.selects "XorOverlayModel" yX7_begin yX7_begin ∈ tw_T ∧ Cond.initialized "XorOverlayModel" ∈ tw_T := ⟨(tw_3 191 rfl rfl), (tw_3 189 rfl rfl), (tw_3 190 rfl rfl), (tw_1 3 rfl rfl)⟩
theorem hX7_begin : yX7_begin.cls = "XorOverlayModel" ∧ yX7_begin.cls ≠ "java/lang/invoke/MethodHandle" ∧ yX7_begin.cls ≠ "java/lang/invoke/VarHandle" ∧ (parseMethodDescriptor yX7_begin.desc).map (fun d => d.parameters.length) = some 3 := by decide +kernel
theorem dX7_begin_0 : decode prog_9_method_31_code 0 = .ok (.aload_n 0, 1) := by decide +kernel
theorem dX7_begin_1 : decode prog_9_method_31_code 1 = .ok (.iload_n 1, 1) := by decide +kernel
theorem dX7_begin_2 : decode prog_9_method_31_code 2 = .ok (.invokevirtual 152, 3) := by decide +kernel
theorem dX7_begin_5 : decode prog_9_method_31_code 5 = .ok (.istore 4, 2) := by decide +kernel
theorem dX7_begin_7 : decode prog_9_method_31_code 7 = .ok (.iload 4, 2) := by decide +kernel
theorem dX7_begin_9 : decode prog_9_method_31_code 9 = .ok (.ifCond .lt 31, 3) := by decide +kernel
theorem dX7_begin_12 : decode prog_9_method_31_code 12 = .ok (.iload_n 2, 1) := by decide +kernel
theorem dX7_begin_13 : decode prog_9_method_31_code 13 = .ok (.ifCond .lt 27, 3) := by decide +kernel
theorem dX7_begin_16 : decode prog_9_method_31_code 16 = .ok (.iload_n 2, 1) := by decide +kernel
theorem dX7_begin_17 : decode prog_9_method_31_code 17 = .ok (.iconst 2, 1) := by decide +kernel
theorem dX7_begin_18 : decode prog_9_method_31_code 18 = .ok (.if_icmp .gt 22, 3) := by decide +kernel
theorem dX7_begin_21 : decode prog_9_method_31_code 21 = .ok (.aload_n 0, 1) := by decide +kernel
theorem dX7_begin_22 : decode prog_9_method_31_code 22 = .ok (.iload_n 3, 1) := by decide +kernel
theorem dX7_begin_23 : decode prog_9_method_31_code 23 = .ok (.invokevirtual 155, 3) := by decide +kernel
theorem dX7_begin_26 : decode prog_9_method_31_code 26 = .ok (.ifCond .eq 14, 3) := by decide +kernel
theorem dX7_begin_29 : decode prog_9_method_31_code 29 = .ok (.aload_n 0, 1) := by decide +kernel
theorem dX7_begin_30 : decode prog_9_method_31_code 30 = .ok (.getfield 44, 3) := by decide +kernel
theorem dX7_begin_33 : decode prog_9_method_31_code 33 = .ok (.iload 4, 2) := by decide +kernel
theorem dX7_begin_35 : decode prog_9_method_31_code 35 = .ok (.iaload, 1) := by decide +kernel
theorem dX7_begin_36 : decode prog_9_method_31_code 36 = .ok (.iconst 1, 1) := by decide +kernel
theorem dX7_begin_37 : decode prog_9_method_31_code 37 = .ok (.if_icmp .ne 5, 3) := by decide +kernel
theorem dX7_begin_40 : decode prog_9_method_31_code 40 = .ok (.iconst 0, 1) := by decide +kernel
theorem dX7_begin_41 : decode prog_9_method_31_code 41 = .ok (.ireturn, 1) := by decide +kernel
theorem dX7_begin_42 : decode prog_9_method_31_code 42 = .ok (.aload_n 0, 1) := by decide +kernel
theorem dX7_begin_43 : decode prog_9_method_31_code 43 = .ok (.iload 4, 2) := by decide +kernel
theorem dX7_begin_45 : decode prog_9_method_31_code 45 = .ok (.iload_n 2, 1) := by decide +kernel
theorem dX7_begin_46 : decode prog_9_method_31_code 46 = .ok (.iload_n 3, 1) := by decide +kernel
theorem dX7_begin_47 : decode prog_9_method_31_code 47 = .ok (.invokevirtual 162, 3) := by decide +kernel
theorem dX7_begin_50 : decode prog_9_method_31_code 50 = .ok (.iconst 1, 1) := by decide +kernel
theorem dX7_begin_51 : decode prog_9_method_31_code 51 = .ok (.ireturn, 1) := by decide +kernel
def pX7_begin_0 (N a0 : Nat) (G : mm_M) (x1 : Int32) (x2 : Int32) (x3 : Int32) : Option (mm_M × Int32) :=
  q_is G a0 8 <|
  q_cl (pX7_at_0 N a0 G x1) fun G v2_2 =>
  if v2_2 < 0 then
    some (G, (0 : Int32))
  else
    if x2 < 0 then
      some (G, (0 : Int32))
    else
      if (2 : Int32) < x2 then
        some (G, (0 : Int32))
      else
        q_is G a0 8 <|
        q_cl (pX7_number_0 N a0 G x3) fun G v23_4 =>
        if v23_4 = 0 then
          some (G, (0 : Int32))
        else
          q_gR G a0 8 15 fun r30_5 =>
          q_nn r30_5 fun b35_6 =>
          q_aI G b35_6 101 v2_2 fun v35_7 =>
          if v35_7 = (1 : Int32) then
            some (G, (0 : Int32))
          else
            q_is G a0 8 <|
            q_cl (pX7_start_0 N a0 G v2_2 x2 x3) fun G _ =>
            some (G, (1 : Int32))
set_option maxRecDepth 100000 in
set_option maxHeartbeats 4000000 in
theorem bX7_begin_0 {p : Program} {l : Launch} {e : Env} {s : State} {m : MethodId} {args : Array Value} {below : List Frame} {meth : Method} {c : Code} {E : mm_E} {N a0 : Nat} {res : mm_M × Int32} (X : mm_X p s m args meth c prog_9_method_31_code 5 "XorOverlayModel" tw_T E) (hr : meth.sig.returnType = (Option.some .boolean)) {G : mm_M} {H : Heap} {locs : List Loc} {ls : Array Slot} {x1 : Int32} {x2 : Int32} {x3 : Int32} (V : mm_V E s G H locs) (hl : lx_has ls 5 [(0, .inr (some a0)), (1, .inl x1), (2, .inl x2), (3, .inl x3)]) (hp : pX7_begin_0 N a0 G x1 x2 x3 = some res) : W p l e rX7_begin s m args below meth c H locs 0 0 (MQ below (mm_Qi E res.1 res.2) args s 0 0 (mm_A E)) (F0 m 0 ls []) := by
  have hx := X.1.1
  have hb := X.1.2.1
  unfold pX7_begin_0 at hp
  refine x_aload_n X dX7_begin_0 hl 0 rfl rfl ?_
  refine x_iload_n X dX7_begin_1 hl 1 rfl rfl ?_
  obtain ⟨hk, hp⟩ := q_is_of hp
  obtain ⟨⟨G, v2_2⟩, hq, hp⟩ := q_cl_of hp
  dsimp only at hp
  refine q_goi (cells' := 0) (slots' := 0) (va_runV (As := [.int x1]) (rest := []) X.1 (cX7_at l E hq) (tw_cwV 1 X.1.2.2.2.2 (tw_3 116 rfl rfl) kX7_at.2.1 kX7_at.2.2.1 kX7_at.2.2.2 kX7_at.1 rfl rfl hX7_at ⟨Nat.le_of_ble_eq_true rfl, Nat.le_of_ble_eq_true rfl⟩) (mm_preV X V rfl (by decide) rfl hk) rfl rfl hl.1 rfl (lv_room (Nat.le_of_ble_eq_true rfl)) dX7_begin_2 ⟨by decide, by decide⟩) V ⟨rfl, rfl⟩ (fun H locs V => ?_)
  refine x_istore (lst' := [(4, .inl v2_2), (0, .inr (some a0)), (1, .inl x1), (2, .inl x2), (3, .inl x3)]) X dX7_begin_5 hl (by decide) rfl (fun ls hl => ?_)
  refine x_iload X dX7_begin_7 hl 0 rfl ?_
  refine q_if hp (lv_if_lt (tgt := 40) hx hb dX7_begin_9 (by decide)) (fun hp => ?_) (fun hp => ?_)
  · refine lv_iconst (v := (0 : Int32)) hx hb dX7_begin_40 (by decide) ?_
    exact q_zret X V hr rfl ⟨by decide, by decide⟩ dX7_begin_41 hp
  · refine x_iload_n X dX7_begin_12 hl 3 rfl rfl ?_
    refine q_if hp (lv_if_lt (tgt := 40) hx hb dX7_begin_13 (by decide)) (fun hp => ?_) (fun hp => ?_)
    · refine lv_iconst (v := (0 : Int32)) hx hb dX7_begin_40 (by decide) ?_
      exact q_zret X V hr rfl ⟨by decide, by decide⟩ dX7_begin_41 hp
    · refine x_iload_n X dX7_begin_16 hl 3 rfl rfl ?_
      refine lv_iconst (v := (2 : Int32)) hx hb dX7_begin_17 (by decide) ?_
      refine q_if hp (lv_icmp_gt (tgt := 40) hx hb dX7_begin_18 (by decide)) (fun hp => ?_) (fun hp => ?_)
      · refine lv_iconst (v := (0 : Int32)) hx hb dX7_begin_40 (by decide) ?_
        exact q_zret X V hr rfl ⟨by decide, by decide⟩ dX7_begin_41 hp
      · refine x_aload_n X dX7_begin_21 hl 1 rfl rfl ?_
        refine x_iload_n X dX7_begin_22 hl 4 rfl rfl ?_
        obtain ⟨hk, hp⟩ := q_is_of hp
        obtain ⟨⟨G, v23_4⟩, hq, hp⟩ := q_cl_of hp
        dsimp only at hp
        refine q_goi (cells' := 0) (slots' := 0) (va_runV (As := [.int x3]) (rest := []) X.1 (cX7_number l E hq) (tw_cwV 1 X.1.2.2.2.2 (tw_3 124 rfl rfl) kX7_number.2.1 kX7_number.2.2.1 kX7_number.2.2.2 kX7_number.1 rfl rfl hX7_number ⟨Nat.le_of_ble_eq_true rfl, Nat.le_of_ble_eq_true rfl⟩) (mm_preV X V rfl (by decide) rfl hk) rfl rfl hl.1 rfl (lv_room (Nat.le_of_ble_eq_true rfl)) dX7_begin_23 ⟨by decide, by decide⟩) V ⟨rfl, rfl⟩ (fun H locs V => ?_)
        refine q_if hp (lv_if_eq (tgt := 40) hx hb dX7_begin_26 (by decide)) (fun hp => ?_) (fun hp => ?_)
        · refine lv_iconst (v := (0 : Int32)) hx hb dX7_begin_40 (by decide) ?_
          exact q_zret X V hr rfl ⟨by decide, by decide⟩ dX7_begin_41 hp
        · refine x_aload_n X dX7_begin_29 hl 1 rfl rfl ?_
          refine q_getR (ci := 7) X V inX7 rfl (by decide) rfl 15 (by decide) rfl (tw_3 44 rfl rfl) rfl dX7_begin_30 hp (fun r30_5 hp => ?_)
          refine x_iload X dX7_begin_33 hl 0 rfl ?_
          obtain ⟨b35_6, e0, hp2⟩ := q_nn_of hp
          clear hp; subst e0; have hp := hp2; clear hp2
          refine q_iald X V dX7_begin_35 hp (fun v35_7 hp => ?_)
          refine lv_iconst (v := (1 : Int32)) hx hb dX7_begin_36 (by decide) ?_
          refine q_ifn hp (lv_icmp_ne (tgt := 42) hx hb dX7_begin_37 (by decide)) (fun hp => ?_) (fun hp => ?_)
          · refine x_aload_n X dX7_begin_42 hl 1 rfl rfl ?_
            refine x_iload X dX7_begin_43 hl 0 rfl ?_
            refine x_iload_n X dX7_begin_45 hl 3 rfl rfl ?_
            refine x_iload_n X dX7_begin_46 hl 4 rfl rfl ?_
            obtain ⟨hk, hp⟩ := q_is_of hp
            obtain ⟨⟨G, u⟩, hq, hp⟩ := q_cl_of hp
            dsimp only at hp
            refine q_gov (cells' := 0) (slots' := 0) (va_runV (As := [.int v2_2, .int x2, .int x3]) (rest := []) X.1 (cX7_start l E hq) (tw_cwV 3 X.1.2.2.2.2 (tw_3 152 rfl rfl) kX7_start.2.1 kX7_start.2.2.1 kX7_start.2.2.2 kX7_start.1 rfl rfl hX7_start ⟨Nat.le_of_ble_eq_true rfl, Nat.le_of_ble_eq_true rfl⟩) (mm_preV X V rfl (by decide) rfl hk) rfl rfl hl.1 rfl (lv_room (Nat.le_of_ble_eq_true rfl)) dX7_begin_47 ⟨by decide, by decide⟩) V ⟨rfl, rfl⟩ (fun H locs V => ?_)
            refine lv_iconst (v := (1 : Int32)) hx hb dX7_begin_50 (by decide) ?_
            exact q_zret X V hr rfl ⟨by decide, by decide⟩ dX7_begin_51 hp
          · refine lv_iconst (v := (0 : Int32)) hx hb dX7_begin_40 (by decide) ?_
            exact q_zret X V hr rfl ⟨by decide, by decide⟩ dX7_begin_41 hp
theorem cX7_begin (l : Launch) (E : mm_E) {N a0 : Nat} {G : mm_M} {x1 : Int32} {x2 : Int32} {x3 : Int32} {res : mm_M × Int32} (hp : pX7_begin_0 N a0 G x1 x2 x3 = some res) : Met l yX7_begin (Cond.code yX7_begin prog_9_method_31_code 5 (Option.some .boolean) :: tw_T) rX7_begin (mm_Pc E G [.ref a0, .int x1, .int x2, .int x3]) (mm_Qi E res.1 res.2) 0 0 (mm_A E) :=
  mm_met (own := "XorOverlayModel") E G [.inr (some a0), .inl x1, .inl x2, .inl x3] (by decide) rfl rfl (Nat.le_of_ble_eq_true rfl) (fun p e s m args below meth c ls X hr hi V hl => bX7_begin_0 X hr V hl hp)
