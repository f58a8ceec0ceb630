abbrev yX7_refresh : MethodName := ⟨"XorOverlayModel", "refresh", "(I)I"⟩
abbrev rX7_refresh : Room := { frames := 5, cells := 0, slots := 0, locals := 124 }
theorem kX7_refresh : Cond.code yX7_refresh prog_9_method_32_code 6 (Option.some .int) ∈ tw_T ∧ Cond.instanceMethod yX7_refresh ∈ tw_T ∧ Cond.selects "XorOverlayModel" yX7_refresh yX7_refresh ∈ tw_T ∧ Cond.initialized "XorOverlayModel" ∈ tw_T := ⟨(tw_3 195 rfl rfl), (tw_3 193 rfl rfl), (tw_3 194 rfl rfl), (tw_1 3 rfl rfl)⟩
theorem hX7_refresh : yX7_refresh.cls = "XorOverlayModel" ∧ yX7_refresh.cls ≠ "java/lang/invoke/MethodHandle" ∧ yX7_refresh.cls ≠ "java/lang/invoke/VarHandle" ∧ (parseMethodDescriptor yX7_refresh.desc).map (fun d => d.parameters.length) = some 1 := by decide +kernel
theorem dX7_refresh_0 : decode prog_9_method_32_code 0 = .ok (.aload_n 0, 1) := by decide +kernel
theorem dX7_refresh_1 : decode prog_9_method_32_code 1 = .ok (.iload_n 1, 1) := by decide +kernel
theorem dX7_refresh_2 : decode prog_9_method_32_code 2 = .ok (.invokevirtual 152, 3) := by decide +kernel
theorem dX7_refresh_5 : decode prog_9_method_32_code 5 = .ok (.istore_n 2, 1) := by decide +kernel
theorem dX7_refresh_6 : decode prog_9_method_32_code 6 = .ok (.iload_n 2, 1) := by decide +kernel
theorem dX7_refresh_7 : decode prog_9_method_32_code 7 = .ok (.ifCond .lt 13, 3) := by decide +kernel
theorem dX7_refresh_10 : decode prog_9_method_32_code 10 = .ok (.aload_n 0, 1) := by decide +kernel
theorem dX7_refresh_11 : decode prog_9_method_32_code 11 = .ok (.getfield 44, 3) := by decide +kernel
theorem dX7_refresh_14 : decode prog_9_method_32_code 14 = .ok (.iload_n 2, 1) := by decide +kernel
theorem dX7_refresh_15 : decode prog_9_method_32_code 15 = .ok (.iaload, 1) := by decide +kernel
theorem dX7_refresh_16 : decode prog_9_method_32_code 16 = .ok (.iconst 1, 1) := by decide +kernel
theorem dX7_refresh_17 : decode prog_9_method_32_code 17 = .ok (.if_icmp .ne 5, 3) := by decide +kernel
theorem dX7_refresh_20 : decode prog_9_method_32_code 20 = .ok (.iconst (-1), 1) := by decide +kernel
theorem dX7_refresh_21 : decode prog_9_method_32_code 21 = .ok (.ireturn, 1) := by decide +kernel
theorem dX7_refresh_22 : decode prog_9_method_32_code 22 = .ok (.iconst 0, 1) := by decide +kernel
theorem dX7_refresh_23 : decode prog_9_method_32_code 23 = .ok (.istore_n 3, 1) := by decide +kernel
theorem dX7_refresh_24 : decode prog_9_method_32_code 24 = .ok (.iload_n 3, 1) := by decide +kernel
theorem dX7_refresh_25 : decode prog_9_method_32_code 25 = .ok (.aload_n 0, 1) := by decide +kernel
theorem dX7_refresh_26 : decode prog_9_method_32_code 26 = .ok (.getfield 26, 3) := by decide +kernel
theorem dX7_refresh_29 : decode prog_9_method_32_code 29 = .ok (.iload_n 2, 1) := by decide +kernel
theorem dX7_refresh_30 : decode prog_9_method_32_code 30 = .ok (.iaload, 1) := by decide +kernel
theorem dX7_refresh_31 : decode prog_9_method_32_code 31 = .ok (.if_icmp .gt 72, 3) := by decide +kernel
theorem dX7_refresh_34 : decode prog_9_method_32_code 34 = .ok (.aload_n 0, 1) := by decide +kernel
theorem dX7_refresh_35 : decode prog_9_method_32_code 35 = .ok (.iload_n 2, 1) := by decide +kernel
theorem dX7_refresh_36 : decode prog_9_method_32_code 36 = .ok (.iload_n 3, 1) := by decide +kernel
theorem dX7_refresh_37 : decode prog_9_method_32_code 37 = .ok (.invokevirtual 166, 3) := by decide +kernel
theorem dX7_refresh_40 : decode prog_9_method_32_code 40 = .ok (.istore 4, 2) := by decide +kernel
theorem dX7_refresh_42 : decode prog_9_method_32_code 42 = .ok (.aload_n 0, 1) := by decide +kernel
theorem dX7_refresh_43 : decode prog_9_method_32_code 43 = .ok (.getfield 99, 3) := by decide +kernel
theorem dX7_refresh_46 : decode prog_9_method_32_code 46 = .ok (.aload_n 0, 1) := by decide +kernel
theorem dX7_refresh_47 : decode prog_9_method_32_code 47 = .ok (.getfield 29, 3) := by decide +kernel
theorem dX7_refresh_50 : decode prog_9_method_32_code 50 = .ok (.bipush 9, 2) := by decide +kernel
theorem dX7_refresh_52 : decode prog_9_method_32_code 52 = .ok (.iload_n 2, 1) := by decide +kernel
theorem dX7_refresh_53 : decode prog_9_method_32_code 53 = .ok (.imul, 1) := by decide +kernel
theorem dX7_refresh_54 : decode prog_9_method_32_code 54 = .ok (.iload 4, 2) := by decide +kernel
theorem dX7_refresh_56 : decode prog_9_method_32_code 56 = .ok (.iadd, 1) := by decide +kernel
theorem dX7_refresh_57 : decode prog_9_method_32_code 57 = .ok (.iaload, 1) := by decide +kernel
theorem dX7_refresh_58 : decode prog_9_method_32_code 58 = .ok (.isub, 1) := by decide +kernel
theorem dX7_refresh_59 : decode prog_9_method_32_code 59 = .ok (.bipush 16, 2) := by decide +kernel
theorem dX7_refresh_61 : decode prog_9_method_32_code 61 = .ok (.if_icmp .lt 36, 3) := by decide +kernel
theorem dX7_refresh_64 : decode prog_9_method_32_code 64 = .ok (.aload_n 0, 1) := by decide +kernel
theorem dX7_refresh_65 : decode prog_9_method_32_code 65 = .ok (.iload_n 2, 1) := by decide +kernel
theorem dX7_refresh_66 : decode prog_9_method_32_code 66 = .ok (.iload 4, 2) := by decide +kernel
theorem dX7_refresh_68 : decode prog_9_method_32_code 68 = .ok (.invokevirtual 85, 3) := by decide +kernel
theorem dX7_refresh_71 : decode prog_9_method_32_code 71 = .ok (.aload_n 0, 1) := by decide +kernel
theorem dX7_refresh_72 : decode prog_9_method_32_code 72 = .ok (.getfield 99, 3) := by decide +kernel
theorem dX7_refresh_75 : decode prog_9_method_32_code 75 = .ok (.aload_n 0, 1) := by decide +kernel
theorem dX7_refresh_76 : decode prog_9_method_32_code 76 = .ok (.iload_n 2, 1) := by decide +kernel
theorem dX7_refresh_77 : decode prog_9_method_32_code 77 = .ok (.iload 4, 2) := by decide +kernel
theorem dX7_refresh_79 : decode prog_9_method_32_code 79 = .ok (.invokevirtual 169, 3) := by decide +kernel
theorem dX7_refresh_82 : decode prog_9_method_32_code 82 = .ok (.irem, 1) := by decide +kernel
theorem dX7_refresh_83 : decode prog_9_method_32_code 83 = .ok (.iadd, 1) := by decide +kernel
theorem dX7_refresh_84 : decode prog_9_method_32_code 84 = .ok (.istore 5, 2) := by decide +kernel
theorem dX7_refresh_86 : decode prog_9_method_32_code 86 = .ok (.aload_n 0, 1) := by decide +kernel
theorem dX7_refresh_87 : decode prog_9_method_32_code 87 = .ok (.iload_n 2, 1) := by decide +kernel
theorem dX7_refresh_88 : decode prog_9_method_32_code 88 = .ok (.iconst 0, 1) := by decide +kernel
theorem dX7_refresh_89 : decode prog_9_method_32_code 89 = .ok (.iload 5, 2) := by decide +kernel
theorem dX7_refresh_91 : decode prog_9_method_32_code 91 = .ok (.invokevirtual 162, 3) := by decide +kernel
theorem dX7_refresh_94 : decode prog_9_method_32_code 94 = .ok (.iload 5, 2) := by decide +kernel
theorem dX7_refresh_96 : decode prog_9_method_32_code 96 = .ok (.ireturn, 1) := by decide +kernel
theorem dX7_refresh_97 : decode prog_9_method_32_code 97 = .ok (.iinc 3 1, 3) := by decide +kernel
theorem dX7_refresh_100 : decode prog_9_method_32_code 100 = .ok (.goto (-76), 3) := by decide +kernel
theorem dX7_refresh_103 : decode prog_9_method_32_code 103 = .ok (.iconst (-1), 1) := by decide +kernel
theorem dX7_refresh_104 : decode prog_9_method_32_code 104 = .ok (.ireturn, 1) := by decide +kernel
def pX7_refresh_24_b (N a0 : Nat) (kb : mm_M → Int32 → Int32 → Option (mm_M × Int32)) (kx : mm_M → Option (mm_M × Int32)) (G : mm_M) (x2 : Int32) (x3 : Int32) : Option (mm_M × Int32) :=
  q_gR G a0 8 9 fun r26_6 =>
  q_nn r26_6 fun b30_7 =>
  q_aI G b30_7 101 x2 fun v30_8 =>
  if v30_8 < x3 then
    kx G
  else
    q_is G a0 8 <|
    q_cl (pX7_bucketAt_0 N a0 G x2 x3) fun G v37_10 =>
    q_gI G a0 8 0 fun v43_11 =>
    q_gR G a0 8 10 fun r47_12 =>
    q_nn r47_12 fun b57_13 =>
    q_aI G b57_13 101 (((9 : Int32) * x2) + v37_10) fun v57_14 =>
    if (v43_11 - v57_14) < (16 : Int32) then
      kb G x2 (x3 + (1 : Int32))
    else
      q_is G a0 8 <|
      q_cl (pX7_first_0 N a0 G x2 v37_10) fun G v68_16 =>
      q_gI G a0 8 0 fun v72_17 =>
      q_is G a0 8 <|
      q_cl (pX7_size_0 N a0 G x2 v37_10) fun G v79_19 =>
      q_nz v79_19 <|
      q_is G a0 8 <|
      q_cl (pX7_start_0 N a0 G x2 (0 : Int32) (v68_16 + (v72_17 - v72_17 / v79_19 * v79_19))) fun G _ =>
      some (G, (v68_16 + (v72_17 - v72_17 / v79_19 * v79_19)))
def pX7_refresh_24 (N a0 : Nat) (kx : mm_M → Option (mm_M × Int32)) : Nat → mm_M → Int32 → Int32 → Option (mm_M × Int32)
  | 0 => fun _ _ _ => none
  | n + 1 => pX7_refresh_24_b N a0 (pX7_refresh_24 N a0 kx n) kx
set_option maxRecDepth 100000 in
set_option maxHeartbeats 4000000 in
theorem bX7_refresh_24 {p : Program} {l : Launch} {e : Env} {s : State} {m : MethodId} {args : Array Value} {below : List Frame} {meth : Method} {c : Code} {E : mm_E} {N a0 : Nat} {res : mm_M × Int32} (X : mm_X p s m args meth c prog_9_method_32_code 6 "XorOverlayModel" tw_T E) (hr : meth.sig.returnType = (Option.some .int)) {kx : mm_M → Option (mm_M × Int32)} (hkx : ∀ (G : mm_M) (H : Heap) (locs : List Loc) (ls : Array Slot), mm_V E s G H locs → lx_has ls 6 [(0, .inr (some a0))] → kx G = some res → W p l e rX7_refresh s m args below meth c H locs 0 0 (MQ below (mm_Qi E res.1 res.2) args s 0 0 (mm_A E)) (F0 m 103 ls [])) :
    ∀ (n : Nat) (G : mm_M) (H : Heap) (locs : List Loc) (ls : Array Slot) (x2 : Int32) (x3 : Int32), mm_V E s G H locs → lx_has ls 6 [(0, .inr (some a0)), (2, .inl x2), (3, .inl x3)] → pX7_refresh_24 N a0 kx n G x2 x3 = some res → W p l e rX7_refresh s m args below meth c H locs 0 0 (MQ below (mm_Qi E res.1 res.2) args s 0 0 (mm_A E)) (F0 m 24 ls []) := by
  have hx := X.1.1
  have hb := X.1.2.1
  intro n
  induction n with
  | zero =>
    intro G H locs ls x2 x3 V hl hp
    cases hp
  | succ n ih =>
    intro G H locs ls x2 x3 V hl hp
    have hp : pX7_refresh_24_b N a0 (pX7_refresh_24 N a0 kx n) kx G x2 x3 = some res := hp
    unfold pX7_refresh_24_b at hp
    refine x_iload_n X dX7_refresh_24 hl 2 rfl rfl ?_
    refine x_aload_n X dX7_refresh_25 hl 0 rfl rfl ?_
    refine q_getR (ci := 7) X V inX7 rfl (by decide) rfl 9 (by decide) rfl (tw_3 38 rfl rfl) rfl dX7_refresh_26 hp (fun r26_6 hp => ?_)
    refine x_iload_n X dX7_refresh_29 hl 1 rfl rfl ?_
    obtain ⟨b30_7, e0, hp2⟩ := q_nn_of hp
    clear hp; subst e0; have hp := hp2; clear hp2
    refine q_iald X V dX7_refresh_30 hp (fun v30_8 hp => ?_)
    refine q_if hp (lv_icmp_gt (tgt := 103) hx hb dX7_refresh_31 (by decide)) (fun hp => ?_) (fun hp => ?_)
    · exact hkx _ _ _ _ V (lx_sub hl [0] rfl) hp
    · refine x_aload_n X dX7_refresh_34 hl 0 rfl rfl ?_
      refine x_iload_n X dX7_refresh_35 hl 1 rfl rfl ?_
      refine x_iload_n X dX7_refresh_36 hl 2 rfl rfl ?_
      obtain ⟨hk, hp⟩ := q_is_of hp
      obtain ⟨⟨G, v37_10⟩, hq, hp⟩ := q_cl_of hp
      dsimp only at hp
      refine q_goi (cells' := 0) (slots' := 0) (va_runV (As := [.int x2, .int x3]) (rest := []) X.1 (cX7_bucketAt l E hq) (tw_cwV 2 X.1.2.2.2.2 (tw_3 196 rfl rfl) kX7_bucketAt.2.1 kX7_bucketAt.2.2.1 kX7_bucketAt.2.2.2 kX7_bucketAt.1 rfl rfl hX7_bucketAt ⟨Nat.le_of_ble_eq_true rfl, Nat.le_of_ble_eq_true rfl⟩) (mm_preV X V rfl (by decide) rfl hk) rfl rfl hl.1 rfl (lv_room (Nat.le_of_ble_eq_true rfl)) dX7_refresh_37 ⟨by decide, by decide⟩) V ⟨rfl, rfl⟩ (fun H locs V => ?_)
      refine x_istore (lst' := [(4, .inl v37_10), (0, .inr (some a0)), (2, .inl x2), (3, .inl x3)]) X dX7_refresh_40 hl (by decide) rfl (fun ls hl => ?_)
      refine x_aload_n X dX7_refresh_42 hl 1 rfl rfl ?_
      refine q_getI (ci := 7) X V inX7 rfl (by decide) rfl 0 (by decide) rfl (tw_3 29 rfl rfl) rfl dX7_refresh_43 hp (fun v43_11 hp => ?_)
      refine x_aload_n X dX7_refresh_46 hl 1 rfl rfl ?_
      refine q_getR (ci := 7) X V inX7 rfl (by decide) rfl 10 (by decide) rfl (tw_3 39 rfl rfl) rfl dX7_refresh_47 hp (fun r47_12 hp => ?_)
      refine lv_bipush (v := (9 : Int32)) hx hb dX7_refresh_50 (by decide) ?_
      refine x_iload_n X dX7_refresh_52 hl 2 rfl rfl ?_
      refine lv_imul hx hb dX7_refresh_53 ?_
      refine x_iload X dX7_refresh_54 hl 0 rfl ?_
      refine lv_iadd hx hb dX7_refresh_56 ?_
      obtain ⟨b57_13, e0, hp2⟩ := q_nn_of hp
      clear hp; subst e0; have hp := hp2; clear hp2
      refine q_iald X V dX7_refresh_57 hp (fun v57_14 hp => ?_)
      refine lv_isub hx hb dX7_refresh_58 ?_
      refine lv_bipush (v := (16 : Int32)) hx hb dX7_refresh_59 (by decide) ?_
      refine q_if hp (lv_icmp_lt (tgt := 97) hx hb dX7_refresh_61 (by decide)) (fun hp => ?_) (fun hp => ?_)
      · refine x_iinc (v := (1 : Int32)) (lst' := [(3, .inl (x3 + (1 : Int32))), (4, .inl v37_10), (0, .inr (some a0)), (2, .inl x2)]) X dX7_refresh_97 hl 3 rfl (by decide) (by decide) rfl (fun ls hl => ?_)
        refine lv_goto (tgt := 24) hx hb dX7_refresh_100 (by decide) ?_
        exact ih _ _ _ _ _ _ V (lx_sub hl [2, 3, 0] rfl) hp
      · refine x_aload_n X dX7_refresh_64 hl 1 rfl rfl ?_
        refine x_iload_n X dX7_refresh_65 hl 2 rfl rfl ?_
        refine x_iload X dX7_refresh_66 hl 0 rfl ?_
        obtain ⟨hk, hp⟩ := q_is_of hp
        obtain ⟨⟨G, v68_16⟩, hq, hp⟩ := q_cl_of hp
        dsimp only at hp
        refine q_goi (cells' := 0) (slots' := 0) (va_runV (As := [.int x2, .int v37_10]) (rest := []) X.1 (cX7_first l E hq) (tw_cwV 2 X.1.2.2.2.2 (tw_3 200 rfl rfl) kX7_first.2.1 kX7_first.2.2.1 kX7_first.2.2.2 kX7_first.1 rfl rfl hX7_first ⟨Nat.le_of_ble_eq_true rfl, Nat.le_of_ble_eq_true rfl⟩) (mm_preV X V rfl (by decide) rfl hk) rfl rfl hl.1 rfl (lv_room (Nat.le_of_ble_eq_true rfl)) dX7_refresh_68 ⟨by decide, by decide⟩) V ⟨rfl, rfl⟩ (fun H locs V => ?_)
        refine x_aload_n X dX7_refresh_71 hl 1 rfl rfl ?_
        refine q_getI (ci := 7) X V inX7 rfl (by decide) rfl 0 (by decide) rfl (tw_3 29 rfl rfl) rfl dX7_refresh_72 hp (fun v72_17 hp => ?_)
        refine x_aload_n X dX7_refresh_75 hl 1 rfl rfl ?_
        refine x_iload_n X dX7_refresh_76 hl 2 rfl rfl ?_
        refine x_iload X dX7_refresh_77 hl 0 rfl ?_
        obtain ⟨hk, hp⟩ := q_is_of hp
        obtain ⟨⟨G, v79_19⟩, hq, hp⟩ := q_cl_of hp
        dsimp only at hp
        refine q_goi (cells' := 0) (slots' := 0) (va_runV (As := [.int x2, .int v37_10]) (rest := [.int v72_17, .int v68_16]) X.1 (cX7_size l E hq) (tw_cwV 2 X.1.2.2.2.2 (tw_3 204 rfl rfl) kX7_size.2.1 kX7_size.2.2.1 kX7_size.2.2.2 kX7_size.1 rfl rfl hX7_size ⟨Nat.le_of_ble_eq_true rfl, Nat.le_of_ble_eq_true rfl⟩) (mm_preV X V rfl (by decide) rfl hk) rfl rfl hl.1 rfl (lv_room (Nat.le_of_ble_eq_true rfl)) dX7_refresh_79 ⟨by decide, by decide⟩) V ⟨rfl, rfl⟩ (fun H locs V => ?_)
        obtain ⟨hz, hp⟩ := q_nz_of hp
        refine lv_irem hx hb dX7_refresh_82 hz ?_
        refine lv_iadd hx hb dX7_refresh_83 ?_
        refine x_istore (lst' := [(5, .inl (v68_16 + (v72_17 - v72_17 / v79_19 * v79_19))), (4, .inl v37_10), (0, .inr (some a0)), (2, .inl x2), (3, .inl x3)]) X dX7_refresh_84 hl (by decide) rfl (fun ls hl => ?_)
        refine x_aload_n X dX7_refresh_86 hl 2 rfl rfl ?_
        refine x_iload_n X dX7_refresh_87 hl 3 rfl rfl ?_
        refine lv_iconst (v := (0 : Int32)) hx hb dX7_refresh_88 (by decide) ?_
        refine x_iload X dX7_refresh_89 hl 0 rfl ?_
        obtain ⟨hk, hp⟩ := q_is_of hp
        obtain ⟨⟨G, u⟩, hq, hp⟩ := q_cl_of hp
        dsimp only at hp
        refine q_gov (cells' := 0) (slots' := 0) (va_runV (As := [.int x2, .int (0 : Int32), .int (v68_16 + (v72_17 - v72_17 / v79_19 * v79_19))]) (rest := []) X.1 (cX7_start l E hq) (tw_cwV 3 X.1.2.2.2.2 (tw_3 152 rfl rfl) kX7_start.2.1 kX7_start.2.2.1 kX7_start.2.2.2 kX7_start.1 rfl rfl hX7_start ⟨Nat.le_of_ble_eq_true rfl, Nat.le_of_ble_eq_true rfl⟩) (mm_preV X V rfl (by decide) rfl hk) rfl rfl hl.1 rfl (lv_room (Nat.le_of_ble_eq_true rfl)) dX7_refresh_91 ⟨by decide, by decide⟩) V ⟨rfl, rfl⟩ (fun H locs V => ?_)
        refine x_iload X dX7_refresh_94 hl 0 rfl ?_
        exact q_iret X V hr ⟨by decide, by decide⟩ dX7_refresh_96 hp
def pX7_refresh_0 (N a0 : Nat) (G : mm_M) (x1 : Int32) : Option (mm_M × Int32) :=
  q_is G a0 8 <|
  q_cl (pX7_at_0 N a0 G x1) fun G v2_2 =>
  if v2_2 < 0 then
    some (G, (-1 : Int32))
  else
    q_gR G a0 8 15 fun r11_3 =>
    q_nn r11_3 fun b15_4 =>
    q_aI G b15_4 101 v2_2 fun v15_5 =>
    if v15_5 = (1 : Int32) then
      some (G, (-1 : Int32))
    else
      pX7_refresh_24 N a0 (fun (G : mm_M) =>
        some (G, (-1 : Int32))) N G v2_2 (0 : Int32)
set_option maxRecDepth 100000 in
set_option maxHeartbeats 4000000 in
theorem bX7_refresh_0 {p : Program} {l : Launch} {e : Env} {s : State} {m : MethodId} {args : Array Value} {below : List Frame} {meth : Method} {c : Code} {E : mm_E} {N a0 : Nat} {res : mm_M × Int32} (X : mm_X p s m args meth c prog_9_method_32_code 6 "XorOverlayModel" tw_T E) (hr : meth.sig.returnType = (Option.some .int)) {G : mm_M} {H : Heap} {locs : List Loc} {ls : Array Slot} {x1 : Int32} (V : mm_V E s G H locs) (hl : lx_has ls 6 [(0, .inr (some a0)), (1, .inl x1)]) (hp : pX7_refresh_0 N a0 G x1 = some res) : W p l e rX7_refresh s m args below meth c H locs 0 0 (MQ below (mm_Qi E res.1 res.2) args s 0 0 (mm_A E)) (F0 m 0 ls []) := by
  have hx := X.1.1
  have hb := X.1.2.1
  unfold pX7_refresh_0 at hp
  refine x_aload_n X dX7_refresh_0 hl 0 rfl rfl ?_
  refine x_iload_n X dX7_refresh_1 hl 1 rfl rfl ?_
  obtain ⟨hk, hp⟩ := q_is_of hp
  obtain ⟨⟨G, v2_2⟩, hq, hp⟩ := q_cl_of hp
  dsimp only at hp
  refine q_goi (cells' := 0) (slots' := 0) (va_runV (As := [.int x1]) (rest := []) X.1 (cX7_at l E hq) (tw_cwV 1 X.1.2.2.2.2 (tw_3 116 rfl rfl) kX7_at.2.1 kX7_at.2.2.1 kX7_at.2.2.2 kX7_at.1 rfl rfl hX7_at ⟨Nat.le_of_ble_eq_true rfl, Nat.le_of_ble_eq_true rfl⟩) (mm_preV X V rfl (by decide) rfl hk) rfl rfl hl.1 rfl (lv_room (Nat.le_of_ble_eq_true rfl)) dX7_refresh_2 ⟨by decide, by decide⟩) V ⟨rfl, rfl⟩ (fun H locs V => ?_)
  refine x_istore_n (lst' := [(2, .inl v2_2), (0, .inr (some a0)), (1, .inl x1)]) X dX7_refresh_5 hl rfl (by decide) rfl (fun ls hl => ?_)
  refine x_iload_n X dX7_refresh_6 hl 0 rfl rfl ?_
  refine q_if hp (lv_if_lt (tgt := 20) hx hb dX7_refresh_7 (by decide)) (fun hp => ?_) (fun hp => ?_)
  · refine lv_iconst (v := (-1 : Int32)) hx hb dX7_refresh_20 (by decide) ?_
    exact q_iret X V hr ⟨by decide, by decide⟩ dX7_refresh_21 hp
  · refine x_aload_n X dX7_refresh_10 hl 1 rfl rfl ?_
    refine q_getR (ci := 7) X V inX7 rfl (by decide) rfl 15 (by decide) rfl (tw_3 44 rfl rfl) rfl dX7_refresh_11 hp (fun r11_3 hp => ?_)
    refine x_iload_n X dX7_refresh_14 hl 0 rfl rfl ?_
    obtain ⟨b15_4, e0, hp2⟩ := q_nn_of hp
    clear hp; subst e0; have hp := hp2; clear hp2
    refine q_iald X V dX7_refresh_15 hp (fun v15_5 hp => ?_)
    refine lv_iconst (v := (1 : Int32)) hx hb dX7_refresh_16 (by decide) ?_
    refine q_ifn hp (lv_icmp_ne (tgt := 22) hx hb dX7_refresh_17 (by decide)) (fun hp => ?_) (fun hp => ?_)
    · refine lv_iconst (v := (0 : Int32)) hx hb dX7_refresh_22 (by decide) ?_
      refine x_istore_n (lst' := [(3, .inl (0 : Int32)), (2, .inl v2_2), (0, .inr (some a0)), (1, .inl x1)]) X dX7_refresh_23 hl rfl (by decide) rfl (fun ls hl => ?_)
      refine bX7_refresh_24 X hr (fun G H locs ls V hl hp => ?_) _ _ _ _ _ _ _ V (lx_sub hl [2, 1, 0] rfl) hp
      refine lv_iconst (v := (-1 : Int32)) hx hb dX7_refresh_103 (by decide) ?_
      exact q_iret X V hr ⟨by decide, by decide⟩ dX7_refresh_104 hp
    · refine lv_iconst (v := (-1 : Int32)) hx hb dX7_refresh_20 (by decide) ?_
      exact q_iret X V hr ⟨by decide, by decide⟩ dX7_refresh_21 hp
theorem cX7_refresh (l : Launch) (E : mm_E) {N a0 : Nat} {G : mm_M} {x1 : Int32} {res : mm_M × Int32} (hp : pX7_refresh_0 N a0 G x1 = some res) : Met l yX7_refresh (Cond.code yX7_refresh prog_9_method_32_code 6 (Option.some .int) :: tw_T) rX7_refresh (mm_Pc E G [.ref a0, .int x1]) (mm_Qi E res.1 res.2) 0 0 (mm_A E) :=
  mm_met (own := "XorOverlayModel") E G [.inr (some a0), .inl x1] (by decide) rfl rfl (Nat.le_of_ble_eq_true rfl) (fun p e s m args below meth c ls X hr hi V hl => bX7_refresh_0 X hr V hl hp)
abbrev yX7_expire : MethodName := ⟨"XorOverlayModel", "expire", "(I)V"⟩
abbrev rX7_expire : Room := { frames := 0, cells := 0, slots := 0, locals := 0 }
theorem kX7_expire : Cond.code yX7_expire prog_9_method_33_code 4 none ∈ tw_T ∧ Cond.instanceMethod yX7_expire ∈ tw_T ∧ Cond.selects "XorOverlayModel" yX7_expire yX7_expire ∈ tw_T ∧ Cond.initialized "XorOverlayModel" ∈ tw_T := ⟨(tw_3 215 rfl rfl), (tw_3 214 rfl rfl), (tw_s 38 rfl rfl), (tw_1 3 rfl rfl)⟩
theorem hX7_expire : yX7_expire.cls = "XorOverlayModel" ∧ yX7_expire.cls ≠ "java/lang/invoke/MethodHandle" ∧ yX7_expire.cls ≠ "java/lang/invoke/VarHandle" ∧ (parseMethodDescriptor yX7_expire.desc).map (fun d => d.parameters.length) = some 1 := by decide +kernel
theorem dX7_expire_0 : decode prog_9_method_33_code 0 = .ok (.iconst 0, 1) := by decide +kernel
theorem dX7_expire_1 : decode prog_9_method_33_code 1 = .ok (.istore_n 2, 1) := by decide +kernel
theorem dX7_expire_2 : decode prog_9_method_33_code 2 = .ok (.iconst 0, 1) := by decide +kernel
theorem dX7_expire_3 : decode prog_9_method_33_code 3 = .ok (.istore_n 3, 1) := by decide +kernel
theorem dX7_expire_4 : decode prog_9_method_33_code 4 = .ok (.iload_n 3, 1) := by decide +kernel
theorem dX7_expire_5 : decode prog_9_method_33_code 5 = .ok (.aload_n 0, 1) := by decide +kernel
theorem dX7_expire_6 : decode prog_9_method_33_code 6 = .ok (.getfield 32, 3) := by decide +kernel
theorem dX7_expire_9 : decode prog_9_method_33_code 9 = .ok (.iload_n 1, 1) := by decide +kernel
theorem dX7_expire_10 : decode prog_9_method_33_code 10 = .ok (.iaload, 1) := by decide +kernel
theorem dX7_expire_11 : decode prog_9_method_33_code 11 = .ok (.if_icmp .ge 96, 3) := by decide +kernel
theorem dX7_expire_14 : decode prog_9_method_33_code 14 = .ok (.aload_n 0, 1) := by decide +kernel
theorem dX7_expire_15 : decode prog_9_method_33_code 15 = .ok (.getfield 41, 3) := by decide +kernel
theorem dX7_expire_18 : decode prog_9_method_33_code 18 = .ok (.bipush 6, 2) := by decide +kernel
theorem dX7_expire_20 : decode prog_9_method_33_code 20 = .ok (.iload_n 1, 1) := by decide +kernel
theorem dX7_expire_21 : decode prog_9_method_33_code 21 = .ok (.imul, 1) := by decide +kernel
theorem dX7_expire_22 : decode prog_9_method_33_code 22 = .ok (.iload_n 3, 1) := by decide +kernel
theorem dX7_expire_23 : decode prog_9_method_33_code 23 = .ok (.iadd, 1) := by decide +kernel
theorem dX7_expire_24 : decode prog_9_method_33_code 24 = .ok (.iaload, 1) := by decide +kernel
theorem dX7_expire_25 : decode prog_9_method_33_code 25 = .ok (.aload_n 0, 1) := by decide +kernel
theorem dX7_expire_26 : decode prog_9_method_33_code 26 = .ok (.getfield 99, 3) := by decide +kernel
theorem dX7_expire_29 : decode prog_9_method_33_code 29 = .ok (.if_icmp .eq 72, 3) := by decide +kernel
theorem dX7_expire_32 : decode prog_9_method_33_code 32 = .ok (.aload_n 0, 1) := by decide +kernel
theorem dX7_expire_33 : decode prog_9_method_33_code 33 = .ok (.getfield 35, 3) := by decide +kernel
theorem dX7_expire_36 : decode prog_9_method_33_code 36 = .ok (.bipush 6, 2) := by decide +kernel
theorem dX7_expire_38 : decode prog_9_method_33_code 38 = .ok (.iload_n 1, 1) := by decide +kernel
theorem dX7_expire_39 : decode prog_9_method_33_code 39 = .ok (.imul, 1) := by decide +kernel
theorem dX7_expire_40 : decode prog_9_method_33_code 40 = .ok (.iload_n 2, 1) := by decide +kernel
theorem dX7_expire_41 : decode prog_9_method_33_code 41 = .ok (.iadd, 1) := by decide +kernel
theorem dX7_expire_42 : decode prog_9_method_33_code 42 = .ok (.aload_n 0, 1) := by decide +kernel
theorem dX7_expire_43 : decode prog_9_method_33_code 43 = .ok (.getfield 35, 3) := by decide +kernel
theorem dX7_expire_46 : decode prog_9_method_33_code 46 = .ok (.bipush 6, 2) := by decide +kernel
theorem dX7_expire_48 : decode prog_9_method_33_code 48 = .ok (.iload_n 1, 1) := by decide +kernel
theorem dX7_expire_49 : decode prog_9_method_33_code 49 = .ok (.imul, 1) := by decide +kernel
theorem dX7_expire_50 : decode prog_9_method_33_code 50 = .ok (.iload_n 3, 1) := by decide +kernel
theorem dX7_expire_51 : decode prog_9_method_33_code 51 = .ok (.iadd, 1) := by decide +kernel
theorem dX7_expire_52 : decode prog_9_method_33_code 52 = .ok (.iaload, 1) := by decide +kernel
theorem dX7_expire_53 : decode prog_9_method_33_code 53 = .ok (.iastore, 1) := by decide +kernel
theorem dX7_expire_54 : decode prog_9_method_33_code 54 = .ok (.aload_n 0, 1) := by decide +kernel
theorem dX7_expire_55 : decode prog_9_method_33_code 55 = .ok (.getfield 38, 3) := by decide +kernel
theorem dX7_expire_58 : decode prog_9_method_33_code 58 = .ok (.bipush 6, 2) := by decide +kernel
theorem dX7_expire_60 : decode prog_9_method_33_code 60 = .ok (.iload_n 1, 1) := by decide +kernel
theorem dX7_expire_61 : decode prog_9_method_33_code 61 = .ok (.imul, 1) := by decide +kernel
theorem dX7_expire_62 : decode prog_9_method_33_code 62 = .ok (.iload_n 2, 1) := by decide +kernel
theorem dX7_expire_63 : decode prog_9_method_33_code 63 = .ok (.iadd, 1) := by decide +kernel
theorem dX7_expire_64 : decode prog_9_method_33_code 64 = .ok (.aload_n 0, 1) := by decide +kernel
theorem dX7_expire_65 : decode prog_9_method_33_code 65 = .ok (.getfield 38, 3) := by decide +kernel
theorem dX7_expire_68 : decode prog_9_method_33_code 68 = .ok (.bipush 6, 2) := by decide +kernel
theorem dX7_expire_70 : decode prog_9_method_33_code 70 = .ok (.iload_n 1, 1) := by decide +kernel
theorem dX7_expire_71 : decode prog_9_method_33_code 71 = .ok (.imul, 1) := by decide +kernel
theorem dX7_expire_72 : decode prog_9_method_33_code 72 = .ok (.iload_n 3, 1) := by decide +kernel
theorem dX7_expire_73 : decode prog_9_method_33_code 73 = .ok (.iadd, 1) := by decide +kernel
theorem dX7_expire_74 : decode prog_9_method_33_code 74 = .ok (.iaload, 1) := by decide +kernel
theorem dX7_expire_75 : decode prog_9_method_33_code 75 = .ok (.iastore, 1) := by decide +kernel
theorem dX7_expire_76 : decode prog_9_method_33_code 76 = .ok (.aload_n 0, 1) := by decide +kernel
theorem dX7_expire_77 : decode prog_9_method_33_code 77 = .ok (.getfield 41, 3) := by decide +kernel
theorem dX7_expire_80 : decode prog_9_method_33_code 80 = .ok (.bipush 6, 2) := by decide +kernel
theorem dX7_expire_82 : decode prog_9_method_33_code 82 = .ok (.iload_n 1, 1) := by decide +kernel
theorem dX7_expire_83 : decode prog_9_method_33_code 83 = .ok (.imul, 1) := by decide +kernel
theorem dX7_expire_84 : decode prog_9_method_33_code 84 = .ok (.iload_n 2, 1) := by decide +kernel
theorem dX7_expire_85 : decode prog_9_method_33_code 85 = .ok (.iadd, 1) := by decide +kernel
theorem dX7_expire_86 : decode prog_9_method_33_code 86 = .ok (.aload_n 0, 1) := by decide +kernel
theorem dX7_expire_87 : decode prog_9_method_33_code 87 = .ok (.getfield 41, 3) := by decide +kernel
theorem dX7_expire_90 : decode prog_9_method_33_code 90 = .ok (.bipush 6, 2) := by decide +kernel
theorem dX7_expire_92 : decode prog_9_method_33_code 92 = .ok (.iload_n 1, 1) := by decide +kernel
theorem dX7_expire_93 : decode prog_9_method_33_code 93 = .ok (.imul, 1) := by decide +kernel
theorem dX7_expire_94 : decode prog_9_method_33_code 94 = .ok (.iload_n 3, 1) := by decide +kernel
theorem dX7_expire_95 : decode prog_9_method_33_code 95 = .ok (.iadd, 1) := by decide +kernel
theorem dX7_expire_96 : decode prog_9_method_33_code 96 = .ok (.iaload, 1) := by decide +kernel
theorem dX7_expire_97 : decode prog_9_method_33_code 97 = .ok (.iastore, 1) := by decide +kernel
theorem dX7_expire_98 : decode prog_9_method_33_code 98 = .ok (.iinc 2 1, 3) := by decide +kernel
theorem dX7_expire_101 : decode prog_9_method_33_code 101 = .ok (.iinc 3 1, 3) := by decide +kernel
theorem dX7_expire_104 : decode prog_9_method_33_code 104 = .ok (.goto (-100), 3) := by decide +kernel
theorem dX7_expire_107 : decode prog_9_method_33_code 107 = .ok (.aload_n 0, 1) := by decide +kernel
theorem dX7_expire_108 : decode prog_9_method_33_code 108 = .ok (.getfield 32, 3) := by decide +kernel
theorem dX7_expire_111 : decode prog_9_method_33_code 111 = .ok (.iload_n 1, 1) := by decide +kernel
theorem dX7_expire_112 : decode prog_9_method_33_code 112 = .ok (.iload_n 2, 1) := by decide +kernel
theorem dX7_expire_113 : decode prog_9_method_33_code 113 = .ok (.iastore, 1) := by decide +kernel
theorem dX7_expire_114 : decode prog_9_method_33_code 114 = .ok (.return_, 1) := by decide +kernel
def pX7_expire_4_b (N a0 : Nat) (kb : mm_M → Int32 → Int32 → Int32 → Option (mm_M × Unit)) (kx : mm_M → Int32 → Int32 → Option (mm_M × Unit)) (G : mm_M) (x1 : Int32) (x2 : Int32) (x3 : Int32) : Option (mm_M × Unit) :=
  q_gR G a0 8 11 fun r6_1 =>
  q_nn r6_1 fun b10_2 =>
  q_aI G b10_2 101 x1 fun v10_3 =>
  if v10_3 ≤ x3 then
    kx G x1 x2
  else
    q_gR G a0 8 14 fun r15_4 =>
    q_nn r15_4 fun b24_5 =>
    q_aI G b24_5 101 (((6 : Int32) * x1) + x3) fun v24_6 =>
    q_gI G a0 8 0 fun v26_7 =>
    if v24_6 = v26_7 then
      kb G x1 x2 (x3 + (1 : Int32))
    else
      q_gR G a0 8 12 fun r33_8 =>
      q_gR G a0 8 12 fun r43_9 =>
      q_nn r43_9 fun b52_10 =>
      q_aI G b52_10 101 (((6 : Int32) * x1) + x3) fun v52_11 =>
      q_nn r33_8 fun b53_12 =>
      q_sI G b53_12 101 (((6 : Int32) * x1) + x2) v52_11 fun G =>
      q_gR G a0 8 13 fun r55_13 =>
      q_gR G a0 8 13 fun r65_14 =>
      q_nn r65_14 fun b74_15 =>
      q_aI G b74_15 101 (((6 : Int32) * x1) + x3) fun v74_16 =>
      q_nn r55_13 fun b75_17 =>
      q_sI G b75_17 101 (((6 : Int32) * x1) + x2) v74_16 fun G =>
      q_gR G a0 8 14 fun r77_18 =>
      q_gR G a0 8 14 fun r87_19 =>
      q_nn r87_19 fun b96_20 =>
      q_aI G b96_20 101 (((6 : Int32) * x1) + x3) fun v96_21 =>
      q_nn r77_18 fun b97_22 =>
      q_sI G b97_22 101 (((6 : Int32) * x1) + x2) v96_21 fun G =>
      kb G x1 (x2 + (1 : Int32)) (x3 + (1 : Int32))
def pX7_expire_4 (N a0 : Nat) (kx : mm_M → Int32 → Int32 → Option (mm_M × Unit)) : Nat → mm_M → Int32 → Int32 → Int32 → Option (mm_M × Unit)
  | 0 => fun _ _ _ _ => none
  | n + 1 => pX7_expire_4_b N a0 (pX7_expire_4 N a0 kx n) kx
set_option maxRecDepth 100000 in
set_option maxHeartbeats 4000000 in
theorem bX7_expire_4 {p : Program} {l : Launch} {e : Env} {s : State} {m : MethodId} {args : Array Value} {below : List Frame} {meth : Method} {c : Code} {E : mm_E} {N a0 : Nat} {res : mm_M × Unit} (X : mm_X p s m args meth c prog_9_method_33_code 4 "XorOverlayModel" tw_T E) (hr : meth.sig.returnType = none) {kx : mm_M → Int32 → Int32 → Option (mm_M × Unit)} (hkx : ∀ (G : mm_M) (H : Heap) (locs : List Loc) (ls : Array Slot) (x1 : Int32) (x2 : Int32), mm_V E s G H locs → lx_has ls 4 [(0, .inr (some a0)), (1, .inl x1), (2, .inl x2)] → kx G x1 x2 = some res → W p l e rX7_expire s m args below meth c H locs 0 0 (MQ below (mm_Qv E res.1) args s 0 0 (mm_A E)) (F0 m 107 ls [])) :
    ∀ (n : Nat) (G : mm_M) (H : Heap) (locs : List Loc) (ls : Array Slot) (x1 : Int32) (x2 : Int32) (x3 : Int32), mm_V E s G H locs → lx_has ls 4 [(0, .inr (some a0)), (1, .inl x1), (2, .inl x2), (3, .inl x3)] → pX7_expire_4 N a0 kx n G x1 x2 x3 = some res → W p l e rX7_expire s m args below meth c H locs 0 0 (MQ below (mm_Qv E res.1) args s 0 0 (mm_A E)) (F0 m 4 ls []) := by
  have hx := X.1.1
  have hb := X.1.2.1
  intro n
  induction n with
  | zero =>
    intro G H locs ls x1 x2 x3 V hl hp
    cases hp
  | succ n ih =>
    intro G H locs ls x1 x2 x3 V hl hp
    have hp : pX7_expire_4_b N a0 (pX7_expire_4 N a0 kx n) kx G x1 x2 x3 = some res := hp
    unfold pX7_expire_4_b at hp
    refine x_iload_n X dX7_expire_4 hl 3 rfl rfl ?_
    refine x_aload_n X dX7_expire_5 hl 0 rfl rfl ?_
    refine q_getR (ci := 7) X V inX7 rfl (by decide) rfl 11 (by decide) rfl (tw_3 40 rfl rfl) rfl dX7_expire_6 hp (fun r6_1 hp => ?_)
    refine x_iload_n X dX7_expire_9 hl 1 rfl rfl ?_
    obtain ⟨b10_2, e0, hp2⟩ := q_nn_of hp
    clear hp; subst e0; have hp := hp2; clear hp2
    refine q_iald X V dX7_expire_10 hp (fun v10_3 hp => ?_)
    refine q_if hp (lv_icmp_ge (tgt := 107) hx hb dX7_expire_11 (by decide)) (fun hp => ?_) (fun hp => ?_)
    · exact hkx _ _ _ _ _ _ V (lx_sub hl [0, 1, 2] rfl) hp
    · refine x_aload_n X dX7_expire_14 hl 0 rfl rfl ?_
      refine q_getR (ci := 7) X V inX7 rfl (by decide) rfl 14 (by decide) rfl (tw_3 43 rfl rfl) rfl dX7_expire_15 hp (fun r15_4 hp => ?_)
      refine lv_bipush (v := (6 : Int32)) hx hb dX7_expire_18 (by decide) ?_
      refine x_iload_n X dX7_expire_20 hl 1 rfl rfl ?_
      refine lv_imul hx hb dX7_expire_21 ?_
      refine x_iload_n X dX7_expire_22 hl 3 rfl rfl ?_
      refine lv_iadd hx hb dX7_expire_23 ?_
      obtain ⟨b24_5, e0, hp2⟩ := q_nn_of hp
      clear hp; subst e0; have hp := hp2; clear hp2
      refine q_iald X V dX7_expire_24 hp (fun v24_6 hp => ?_)
      refine x_aload_n X dX7_expire_25 hl 0 rfl rfl ?_
      refine q_getI (ci := 7) X V inX7 rfl (by decide) rfl 0 (by decide) rfl (tw_3 29 rfl rfl) rfl dX7_expire_26 hp (fun v26_7 hp => ?_)
      refine q_if hp (lv_icmp_eq (tgt := 101) hx hb dX7_expire_29 (by decide)) (fun hp => ?_) (fun hp => ?_)
      · refine x_iinc (v := (1 : Int32)) (lst' := [(3, .inl (x3 + (1 : Int32))), (0, .inr (some a0)), (1, .inl x1), (2, .inl x2)]) X dX7_expire_101 hl 3 rfl (by decide) (by decide) rfl (fun ls hl => ?_)
        refine lv_goto (tgt := 4) hx hb dX7_expire_104 (by decide) ?_
        exact ih _ _ _ _ _ _ _ V (lx_sub hl [1, 2, 3, 0] rfl) hp
      · refine x_aload_n X dX7_expire_32 hl 0 rfl rfl ?_
        refine q_getR (ci := 7) X V inX7 rfl (by decide) rfl 12 (by decide) rfl (tw_3 41 rfl rfl) rfl dX7_expire_33 hp (fun r33_8 hp => ?_)
        refine lv_bipush (v := (6 : Int32)) hx hb dX7_expire_36 (by decide) ?_
        refine x_iload_n X dX7_expire_38 hl 1 rfl rfl ?_
        refine lv_imul hx hb dX7_expire_39 ?_
        refine x_iload_n X dX7_expire_40 hl 2 rfl rfl ?_
        refine lv_iadd hx hb dX7_expire_41 ?_
        refine x_aload_n X dX7_expire_42 hl 0 rfl rfl ?_
        refine q_getR (ci := 7) X V inX7 rfl (by decide) rfl 12 (by decide) rfl (tw_3 41 rfl rfl) rfl dX7_expire_43 hp (fun r43_9 hp => ?_)
        refine lv_bipush (v := (6 : Int32)) hx hb dX7_expire_46 (by decide) ?_
        refine x_iload_n X dX7_expire_48 hl 1 rfl rfl ?_
        refine lv_imul hx hb dX7_expire_49 ?_
        refine x_iload_n X dX7_expire_50 hl 3 rfl rfl ?_
        refine lv_iadd hx hb dX7_expire_51 ?_
        obtain ⟨b52_10, e0, hp2⟩ := q_nn_of hp
        clear hp; subst e0; have hp := hp2; clear hp2
        refine q_iald X V dX7_expire_52 hp (fun v52_11 hp => ?_)
        obtain ⟨b53_12, e0, hp2⟩ := q_nn_of hp
        clear hp; subst e0; have hp := hp2; clear hp2
        refine q_iast X V dX7_expire_53 hp (fun G H locs V hp => ?_)
        refine x_aload_n X dX7_expire_54 hl 0 rfl rfl ?_
        refine q_getR (ci := 7) X V inX7 rfl (by decide) rfl 13 (by decide) rfl (tw_3 42 rfl rfl) rfl dX7_expire_55 hp (fun r55_13 hp => ?_)
        refine lv_bipush (v := (6 : Int32)) hx hb dX7_expire_58 (by decide) ?_
        refine x_iload_n X dX7_expire_60 hl 1 rfl rfl ?_
        refine lv_imul hx hb dX7_expire_61 ?_
        refine x_iload_n X dX7_expire_62 hl 2 rfl rfl ?_
        refine lv_iadd hx hb dX7_expire_63 ?_
        refine x_aload_n X dX7_expire_64 hl 0 rfl rfl ?_
        refine q_getR (ci := 7) X V inX7 rfl (by decide) rfl 13 (by decide) rfl (tw_3 42 rfl rfl) rfl dX7_expire_65 hp (fun r65_14 hp => ?_)
        refine lv_bipush (v := (6 : Int32)) hx hb dX7_expire_68 (by decide) ?_
        refine x_iload_n X dX7_expire_70 hl 1 rfl rfl ?_
        refine lv_imul hx hb dX7_expire_71 ?_
        refine x_iload_n X dX7_expire_72 hl 3 rfl rfl ?_
        refine lv_iadd hx hb dX7_expire_73 ?_
        obtain ⟨b74_15, e0, hp2⟩ := q_nn_of hp
        clear hp; subst e0; have hp := hp2; clear hp2
        refine q_iald X V dX7_expire_74 hp (fun v74_16 hp => ?_)
        obtain ⟨b75_17, e0, hp2⟩ := q_nn_of hp
        clear hp; subst e0; have hp := hp2; clear hp2
        refine q_iast X V dX7_expire_75 hp (fun G H locs V hp => ?_)
        refine x_aload_n X dX7_expire_76 hl 0 rfl rfl ?_
        refine q_getR (ci := 7) X V inX7 rfl (by decide) rfl 14 (by decide) rfl (tw_3 43 rfl rfl) rfl dX7_expire_77 hp (fun r77_18 hp => ?_)
        refine lv_bipush (v := (6 : Int32)) hx hb dX7_expire_80 (by decide) ?_
        refine x_iload_n X dX7_expire_82 hl 1 rfl rfl ?_
        refine lv_imul hx hb dX7_expire_83 ?_
        refine x_iload_n X dX7_expire_84 hl 2 rfl rfl ?_
        refine lv_iadd hx hb dX7_expire_85 ?_
        refine x_aload_n X dX7_expire_86 hl 0 rfl rfl ?_
        refine q_getR (ci := 7) X V inX7 rfl (by decide) rfl 14 (by decide) rfl (tw_3 43 rfl rfl) rfl dX7_expire_87 hp (fun r87_19 hp => ?_)
        refine lv_bipush (v := (6 : Int32)) hx hb dX7_expire_90 (by decide) ?_
        refine x_iload_n X dX7_expire_92 hl 1 rfl rfl ?_
        refine lv_imul hx hb dX7_expire_93 ?_
        refine x_iload_n X dX7_expire_94 hl 3 rfl rfl ?_
        refine lv_iadd hx hb dX7_expire_95 ?_
        obtain ⟨b96_20, e0, hp2⟩ := q_nn_of hp
        clear hp; subst e0; have hp := hp2; clear hp2
        refine q_iald X V dX7_expire_96 hp (fun v96_21 hp => ?_)
        obtain ⟨b97_22, e0, hp2⟩ := q_nn_of hp
        clear hp; subst e0; have hp := hp2; clear hp2
        refine q_iast X V dX7_expire_97 hp (fun G H locs V hp => ?_)
        refine x_iinc (v := (1 : Int32)) (lst' := [(2, .inl (x2 + (1 : Int32))), (0, .inr (some a0)), (1, .inl x1), (3, .inl x3)]) X dX7_expire_98 hl 2 rfl (by decide) (by decide) rfl (fun ls hl => ?_)
        refine x_iinc (v := (1 : Int32)) (lst' := [(3, .inl (x3 + (1 : Int32))), (2, .inl (x2 + (1 : Int32))), (0, .inr (some a0)), (1, .inl x1)]) X dX7_expire_101 hl 3 rfl (by decide) (by decide) rfl (fun ls hl => ?_)
        refine lv_goto (tgt := 4) hx hb dX7_expire_104 (by decide) ?_
        exact ih _ _ _ _ _ _ _ V (lx_sub hl [2, 3, 1, 0] rfl) hp
def pX7_expire_0 (N a0 : Nat) (G : mm_M) (x1 : Int32) : Option (mm_M × Unit) :=
  pX7_expire_4 N a0 (fun (G : mm_M) (x1 : Int32) (x2 : Int32) =>
    q_gR G a0 8 11 fun r108_23 =>
    q_nn r108_23 fun b113_24 =>
    q_sI G b113_24 101 x1 x2 fun G =>
    some (G, ())) N G x1 (0 : Int32) (0 : Int32)
set_option maxRecDepth 100000 in
set_option maxHeartbeats 4000000 in
theorem bX7_expire_0 {p : Program} {l : Launch} {e : Env} {s : State} {m : MethodId} {args : Array Value} {below : List Frame} {meth : Method} {c : Code} {E : mm_E} {N a0 : Nat} {res : mm_M × Unit} (X : mm_X p s m args meth c prog_9_method_33_code 4 "XorOverlayModel" tw_T E) (hr : meth.sig.returnType = none) {G : mm_M} {H : Heap} {locs : List Loc} {ls : Array Slot} {x1 : Int32} (V : mm_V E s G H locs) (hl : lx_has ls 4 [(0, .inr (some a0)), (1, .inl x1)]) (hp : pX7_expire_0 N a0 G x1 = some res) : W p l e rX7_expire s m args below meth c H locs 0 0 (MQ below (mm_Qv E res.1) args s 0 0 (mm_A E)) (F0 m 0 ls []) := by
  have hx := X.1.1
  have hb := X.1.2.1
  unfold pX7_expire_0 at hp
  refine lv_iconst (v := (0 : Int32)) hx hb dX7_expire_0 (by decide) ?_
  refine x_istore_n (lst' := [(2, .inl (0 : Int32)), (0, .inr (some a0)), (1, .inl x1)]) X dX7_expire_1 hl rfl (by decide) rfl (fun ls hl => ?_)
  refine lv_iconst (v := (0 : Int32)) hx hb dX7_expire_2 (by decide) ?_
  refine x_istore_n (lst' := [(3, .inl (0 : Int32)), (2, .inl (0 : Int32)), (0, .inr (some a0)), (1, .inl x1)]) X dX7_expire_3 hl rfl (by decide) rfl (fun ls hl => ?_)
  refine bX7_expire_4 X hr (fun G H locs ls x1 x2 V hl hp => ?_) _ _ _ _ _ _ _ _ V (lx_sub hl [2, 3, 1, 0] rfl) hp
  refine x_aload_n X dX7_expire_107 hl 0 rfl rfl ?_
  refine q_getR (ci := 7) X V inX7 rfl (by decide) rfl 11 (by decide) rfl (tw_3 40 rfl rfl) rfl dX7_expire_108 hp (fun r108_23 hp => ?_)
  refine x_iload_n X dX7_expire_111 hl 1 rfl rfl ?_
  refine x_iload_n X dX7_expire_112 hl 2 rfl rfl ?_
  obtain ⟨b113_24, e0, hp2⟩ := q_nn_of hp
  clear hp; subst e0; have hp := hp2; clear hp2
  refine q_iast X V dX7_expire_113 hp (fun G H locs V hp => ?_)
  exact q_vret X V hr ⟨by decide, by decide⟩ dX7_expire_114 hp
theorem cX7_expire (l : Launch) (E : mm_E) {N a0 : Nat} {G : mm_M} {x1 : Int32} {res : mm_M × Unit} (hp : pX7_expire_0 N a0 G x1 = some res) : Met l yX7_expire (Cond.code yX7_expire prog_9_method_33_code 4 none :: tw_T) rX7_expire (mm_Pc E G [.ref a0, .int x1]) (mm_Qv E res.1) 0 0 (mm_A E) :=
  mm_met (own := "XorOverlayModel") E G [.inr (some a0), .inl x1] (by decide) rfl rfl (Nat.le_of_ble_eq_true rfl) (fun p e s m args below meth c ls X hr hi V hl => bX7_expire_0 X hr V hl hp)
abbrev yX7_fail : MethodName := ⟨"XorOverlayModel", "fail", "(I)I"⟩
abbrev rX7_fail : Room := { frames := 0, cells := 0, slots := 0, locals := 0 }
theorem kX7_fail : Cond.code yX7_fail prog_9_method_34_code 4 (Option.some .int) ∈ tw_T ∧ Cond.instanceMethod yX7_fail ∈ tw_T ∧ Cond.selects "XorOverlayModel" yX7_fail yX7_fail ∈ tw_T ∧ Cond.initialized "XorOverlayModel" ∈ tw_T := ⟨(tw_3 219 rfl rfl), (tw_3 218 rfl rfl), (tw_s 39 rfl rfl), (tw_1 3 rfl rfl)⟩
theorem hX7_fail : yX7_fail.cls = "XorOverlayModel" ∧ yX7_fail.cls ≠ "java/lang/invoke/MethodHandle" ∧ yX7_fail.cls ≠ "java/lang/invoke/VarHandle" ∧ (parseMethodDescriptor yX7_fail.desc).map (fun d => d.parameters.length) = some 1 := by decide +kernel
theorem dX7_fail_0 : decode prog_9_method_34_code 0 = .ok (.iconst 0, 1) := by decide +kernel
theorem dX7_fail_1 : decode prog_9_method_34_code 1 = .ok (.istore_n 2, 1) := by decide +kernel
theorem dX7_fail_2 : decode prog_9_method_34_code 2 = .ok (.iconst 0, 1) := by decide +kernel
theorem dX7_fail_3 : decode prog_9_method_34_code 3 = .ok (.istore_n 3, 1) := by decide +kernel
theorem dX7_fail_4 : decode prog_9_method_34_code 4 = .ok (.iload_n 3, 1) := by decide +kernel
theorem dX7_fail_5 : decode prog_9_method_34_code 5 = .ok (.aload_n 0, 1) := by decide +kernel
theorem dX7_fail_6 : decode prog_9_method_34_code 6 = .ok (.getfield 77, 3) := by decide +kernel
theorem dX7_fail_9 : decode prog_9_method_34_code 9 = .ok (.if_icmp .ge 101, 3) := by decide +kernel
theorem dX7_fail_12 : decode prog_9_method_34_code 12 = .ok (.aload_n 0, 1) := by decide +kernel
theorem dX7_fail_13 : decode prog_9_method_34_code 13 = .ok (.getfield 56, 3) := by decide +kernel
theorem dX7_fail_16 : decode prog_9_method_34_code 16 = .ok (.bipush 12, 2) := by decide +kernel
theorem dX7_fail_18 : decode prog_9_method_34_code 18 = .ok (.iload_n 1, 1) := by decide +kernel
theorem dX7_fail_19 : decode prog_9_method_34_code 19 = .ok (.imul, 1) := by decide +kernel
theorem dX7_fail_20 : decode prog_9_method_34_code 20 = .ok (.iload_n 3, 1) := by decide +kernel
theorem dX7_fail_21 : decode prog_9_method_34_code 21 = .ok (.iadd, 1) := by decide +kernel
theorem dX7_fail_22 : decode prog_9_method_34_code 22 = .ok (.iaload, 1) := by decide +kernel
theorem dX7_fail_23 : decode prog_9_method_34_code 23 = .ok (.iconst 2, 1) := by decide +kernel
theorem dX7_fail_24 : decode prog_9_method_34_code 24 = .ok (.if_icmp .ne 80, 3) := by decide +kernel
theorem dX7_fail_27 : decode prog_9_method_34_code 27 = .ok (.aload_n 0, 1) := by decide +kernel
theorem dX7_fail_28 : decode prog_9_method_34_code 28 = .ok (.getfield 99, 3) := by decide +kernel
theorem dX7_fail_31 : decode prog_9_method_34_code 31 = .ok (.aload_n 0, 1) := by decide +kernel
theorem dX7_fail_32 : decode prog_9_method_34_code 32 = .ok (.getfield 59, 3) := by decide +kernel
theorem dX7_fail_35 : decode prog_9_method_34_code 35 = .ok (.bipush 12, 2) := by decide +kernel
theorem dX7_fail_37 : decode prog_9_method_34_code 37 = .ok (.iload_n 1, 1) := by decide +kernel
theorem dX7_fail_38 : decode prog_9_method_34_code 38 = .ok (.imul, 1) := by decide +kernel
theorem dX7_fail_39 : decode prog_9_method_34_code 39 = .ok (.iload_n 3, 1) := by decide +kernel
theorem dX7_fail_40 : decode prog_9_method_34_code 40 = .ok (.iadd, 1) := by decide +kernel
theorem dX7_fail_41 : decode prog_9_method_34_code 41 = .ok (.iaload, 1) := by decide +kernel
theorem dX7_fail_42 : decode prog_9_method_34_code 42 = .ok (.isub, 1) := by decide +kernel
theorem dX7_fail_43 : decode prog_9_method_34_code 43 = .ok (.iconst 4, 1) := by decide +kernel
theorem dX7_fail_44 : decode prog_9_method_34_code 44 = .ok (.if_icmp .lt 60, 3) := by decide +kernel
theorem dX7_fail_47 : decode prog_9_method_34_code 47 = .ok (.aload_n 0, 1) := by decide +kernel
theorem dX7_fail_48 : decode prog_9_method_34_code 48 = .ok (.getfield 56, 3) := by decide +kernel
theorem dX7_fail_51 : decode prog_9_method_34_code 51 = .ok (.bipush 12, 2) := by decide +kernel
theorem dX7_fail_53 : decode prog_9_method_34_code 53 = .ok (.iload_n 1, 1) := by decide +kernel
theorem dX7_fail_54 : decode prog_9_method_34_code 54 = .ok (.imul, 1) := by decide +kernel
theorem dX7_fail_55 : decode prog_9_method_34_code 55 = .ok (.iload_n 3, 1) := by decide +kernel
theorem dX7_fail_56 : decode prog_9_method_34_code 56 = .ok (.iadd, 1) := by decide +kernel
theorem dX7_fail_57 : decode prog_9_method_34_code 57 = .ok (.iconst 4, 1) := by decide +kernel
theorem dX7_fail_58 : decode prog_9_method_34_code 58 = .ok (.iastore, 1) := by decide +kernel
theorem dX7_fail_59 : decode prog_9_method_34_code 59 = .ok (.aload_n 0, 1) := by decide +kernel
theorem dX7_fail_60 : decode prog_9_method_34_code 60 = .ok (.getfield 23, 3) := by decide +kernel
theorem dX7_fail_63 : decode prog_9_method_34_code 63 = .ok (.bipush 12, 2) := by decide +kernel
theorem dX7_fail_65 : decode prog_9_method_34_code 65 = .ok (.iload_n 1, 1) := by decide +kernel
theorem dX7_fail_66 : decode prog_9_method_34_code 66 = .ok (.imul, 1) := by decide +kernel
theorem dX7_fail_67 : decode prog_9_method_34_code 67 = .ok (.iload_n 3, 1) := by decide +kernel
theorem dX7_fail_68 : decode prog_9_method_34_code 68 = .ok (.iadd, 1) := by decide +kernel
theorem dX7_fail_69 : decode prog_9_method_34_code 69 = .ok (.aload_n 0, 1) := by decide +kernel
theorem dX7_fail_70 : decode prog_9_method_34_code 70 = .ok (.getfield 17, 3) := by decide +kernel
theorem dX7_fail_73 : decode prog_9_method_34_code 73 = .ok (.bipush 12, 2) := by decide +kernel
theorem dX7_fail_75 : decode prog_9_method_34_code 75 = .ok (.iload_n 1, 1) := by decide +kernel
theorem dX7_fail_76 : decode prog_9_method_34_code 76 = .ok (.imul, 1) := by decide +kernel
theorem dX7_fail_77 : decode prog_9_method_34_code 77 = .ok (.iload_n 3, 1) := by decide +kernel
theorem dX7_fail_78 : decode prog_9_method_34_code 78 = .ok (.iadd, 1) := by decide +kernel
theorem dX7_fail_79 : decode prog_9_method_34_code 79 = .ok (.baload, 1) := by decide +kernel
theorem dX7_fail_80 : decode prog_9_method_34_code 80 = .ok (.ifCond .eq 19, 3) := by decide +kernel
theorem dX7_fail_83 : decode prog_9_method_34_code 83 = .ok (.aload_n 0, 1) := by decide +kernel
theorem dX7_fail_84 : decode prog_9_method_34_code 84 = .ok (.getfield 23, 3) := by decide +kernel
theorem dX7_fail_87 : decode prog_9_method_34_code 87 = .ok (.bipush 12, 2) := by decide +kernel
theorem dX7_fail_89 : decode prog_9_method_34_code 89 = .ok (.iload_n 1, 1) := by decide +kernel
theorem dX7_fail_90 : decode prog_9_method_34_code 90 = .ok (.imul, 1) := by decide +kernel
theorem dX7_fail_91 : decode prog_9_method_34_code 91 = .ok (.iload_n 3, 1) := by decide +kernel
theorem dX7_fail_92 : decode prog_9_method_34_code 92 = .ok (.iadd, 1) := by decide +kernel
theorem dX7_fail_93 : decode prog_9_method_34_code 93 = .ok (.iaload, 1) := by decide +kernel
theorem dX7_fail_94 : decode prog_9_method_34_code 94 = .ok (.iconst 1, 1) := by decide +kernel
theorem dX7_fail_95 : decode prog_9_method_34_code 95 = .ok (.iadd, 1) := by decide +kernel
theorem dX7_fail_96 : decode prog_9_method_34_code 96 = .ok (.goto 4, 3) := by decide +kernel
theorem dX7_fail_99 : decode prog_9_method_34_code 99 = .ok (.iconst 0, 1) := by decide +kernel
theorem dX7_fail_100 : decode prog_9_method_34_code 100 = .ok (.iastore, 1) := by decide +kernel
theorem dX7_fail_101 : decode prog_9_method_34_code 101 = .ok (.iinc 2 1, 3) := by decide +kernel
theorem dX7_fail_104 : decode prog_9_method_34_code 104 = .ok (.iinc 3 1, 3) := by decide +kernel
theorem dX7_fail_107 : decode prog_9_method_34_code 107 = .ok (.goto (-103), 3) := by decide +kernel
theorem dX7_fail_110 : decode prog_9_method_34_code 110 = .ok (.iload_n 2, 1) := by decide +kernel
theorem dX7_fail_111 : decode prog_9_method_34_code 111 = .ok (.ireturn, 1) := by decide +kernel
def pX7_fail_4_b (N a0 : Nat) (kb : mm_M → Int32 → Int32 → Int32 → Option (mm_M × Int32)) (kx : mm_M → Int32 → Option (mm_M × Int32)) (G : mm_M) (x1 : Int32) (x2 : Int32) (x3 : Int32) : Option (mm_M × Int32) :=
  q_gI G a0 8 3 fun v6_1 =>
  if v6_1 ≤ x3 then
    kx G x2
  else
    q_gR G a0 8 19 fun r13_2 =>
    q_nn r13_2 fun b22_3 =>
    q_aI G b22_3 101 (((12 : Int32) * x1) + x3) fun v22_4 =>
    if v22_4 = (2 : Int32) then
      q_gI G a0 8 0 fun v28_5 =>
      q_gR G a0 8 20 fun r32_6 =>
      q_nn r32_6 fun b41_7 =>
      q_aI G b41_7 101 (((12 : Int32) * x1) + x3) fun v41_8 =>
      if (v28_5 - v41_8) < (4 : Int32) then
        kb G x1 x2 (x3 + (1 : Int32))
      else
        q_gR G a0 8 19 fun r48_9 =>
        q_nn r48_9 fun b58_10 =>
        q_sI G b58_10 101 (((12 : Int32) * x1) + x3) (4 : Int32) fun G =>
        q_gR G a0 8 8 fun r60_11 =>
        q_gR G a0 8 6 fun r70_12 =>
        q_nn r70_12 fun b79_13 =>
        q_aI G b79_13 102 (((12 : Int32) * x1) + x3) fun v79_14 =>
        if v79_14 = 0 then
          q_nn r60_11 fun b100_15 =>
          q_sI G b100_15 101 (((12 : Int32) * x1) + x3) (0 : Int32) fun G =>
          kb G x1 (x2 + (1 : Int32)) (x3 + (1 : Int32))
        else
          q_gR G a0 8 8 fun r84_16 =>
          q_nn r84_16 fun b93_17 =>
          q_aI G b93_17 101 (((12 : Int32) * x1) + x3) fun v93_18 =>
          q_nn r60_11 fun b100_19 =>
          q_sI G b100_19 101 (((12 : Int32) * x1) + x3) (v93_18 + (1 : Int32)) fun G =>
          kb G x1 (x2 + (1 : Int32)) (x3 + (1 : Int32))
    else
      kb G x1 x2 (x3 + (1 : Int32))
def pX7_fail_4 (N a0 : Nat) (kx : mm_M → Int32 → Option (mm_M × Int32)) : Nat → mm_M → Int32 → Int32 → Int32 → Option (mm_M × Int32)
  | 0 => fun _ _ _ _ => none
  | n + 1 => pX7_fail_4_b N a0 (pX7_fail_4 N a0 kx n) kx
set_option maxRecDepth 100000 in
set_option maxHeartbeats 4000000 in
theorem bX7_fail_4 {p : Program} {l : Launch} {e : Env} {s : State} {m : MethodId} {args : Array Value} {below : List Frame} {meth : Method} {c : Code} {E : mm_E} {N a0 : Nat} {res : mm_M × Int32} (X : mm_X p s m args meth c prog_9_method_34_code 4 "XorOverlayModel" tw_T E) (hr : meth.sig.returnType = (Option.some .int)) {kx : mm_M → Int32 → Option (mm_M × Int32)} (hkx : ∀ (G : mm_M) (H : Heap) (locs : List Loc) (ls : Array Slot) (x2 : Int32), mm_V E s G H locs → lx_has ls 4 [(0, .inr (some a0)), (2, .inl x2)] → kx G x2 = some res → W p l e rX7_fail s m args below meth c H locs 0 0 (MQ below (mm_Qi E res.1 res.2) args s 0 0 (mm_A E)) (F0 m 110 ls [])) :
    ∀ (n : Nat) (G : mm_M) (H : Heap) (locs : List Loc) (ls : Array Slot) (x1 : Int32) (x2 : Int32) (x3 : Int32), mm_V E s G H locs → lx_has ls 4 [(0, .inr (some a0)), (1, .inl x1), (2, .inl x2), (3, .inl x3)] → pX7_fail_4 N a0 kx n G x1 x2 x3 = some res → W p l e rX7_fail s m args below meth c H locs 0 0 (MQ below (mm_Qi E res.1 res.2) args s 0 0 (mm_A E)) (F0 m 4 ls []) := by
  have hx := X.1.1
  have hb := X.1.2.1
  intro n
  induction n with
  | zero =>
    intro G H locs ls x1 x2 x3 V hl hp
    cases hp
  | succ n ih =>
    intro G H locs ls x1 x2 x3 V hl hp
    have hp : pX7_fail_4_b N a0 (pX7_fail_4 N a0 kx n) kx G x1 x2 x3 = some res := hp
    unfold pX7_fail_4_b at hp
    refine x_iload_n X dX7_fail_4 hl 3 rfl rfl ?_
    refine x_aload_n X dX7_fail_5 hl 0 rfl rfl ?_
    refine q_getI (ci := 7) X V inX7 rfl (by decide) rfl 3 (by decide) rfl (tw_3 32 rfl rfl) rfl dX7_fail_6 hp (fun v6_1 hp => ?_)
    refine q_if hp (lv_icmp_ge (tgt := 110) hx hb dX7_fail_9 (by decide)) (fun hp => ?_) (fun hp => ?_)
    · exact hkx _ _ _ _ _ V (lx_sub hl [0, 2] rfl) hp
    · refine x_aload_n X dX7_fail_12 hl 0 rfl rfl ?_
      refine q_getR (ci := 7) X V inX7 rfl (by decide) rfl 19 (by decide) rfl (tw_3 48 rfl rfl) rfl dX7_fail_13 hp (fun r13_2 hp => ?_)
      refine lv_bipush (v := (12 : Int32)) hx hb dX7_fail_16 (by decide) ?_
      refine x_iload_n X dX7_fail_18 hl 1 rfl rfl ?_
      refine lv_imul hx hb dX7_fail_19 ?_
      refine x_iload_n X dX7_fail_20 hl 3 rfl rfl ?_
      refine lv_iadd hx hb dX7_fail_21 ?_
      obtain ⟨b22_3, e0, hp2⟩ := q_nn_of hp
      clear hp; subst e0; have hp := hp2; clear hp2
      refine q_iald X V dX7_fail_22 hp (fun v22_4 hp => ?_)
      refine lv_iconst (v := (2 : Int32)) hx hb dX7_fail_23 (by decide) ?_
      refine q_ifn hp (lv_icmp_ne (tgt := 104) hx hb dX7_fail_24 (by decide)) (fun hp => ?_) (fun hp => ?_)
      · refine x_iinc (v := (1 : Int32)) (lst' := [(3, .inl (x3 + (1 : Int32))), (0, .inr (some a0)), (1, .inl x1), (2, .inl x2)]) X dX7_fail_104 hl 3 rfl (by decide) (by decide) rfl (fun ls hl => ?_)
        refine lv_goto (tgt := 4) hx hb dX7_fail_107 (by decide) ?_
        exact ih _ _ _ _ _ _ _ V (lx_sub hl [1, 2, 3, 0] rfl) hp
      · refine x_aload_n X dX7_fail_27 hl 0 rfl rfl ?_
        refine q_getI (ci := 7) X V inX7 rfl (by decide) rfl 0 (by decide) rfl (tw_3 29 rfl rfl) rfl dX7_fail_28 hp (fun v28_5 hp => ?_)
        refine x_aload_n X dX7_fail_31 hl 0 rfl rfl ?_
        refine q_getR (ci := 7) X V inX7 rfl (by decide) rfl 20 (by decide) rfl (tw_3 49 rfl rfl) rfl dX7_fail_32 hp (fun r32_6 hp => ?_)
        refine lv_bipush (v := (12 : Int32)) hx hb dX7_fail_35 (by decide) ?_
        refine x_iload_n X dX7_fail_37 hl 1 rfl rfl ?_
        refine lv_imul hx hb dX7_fail_38 ?_
        refine x_iload_n X dX7_fail_39 hl 3 rfl rfl ?_
        refine lv_iadd hx hb dX7_fail_40 ?_
        obtain ⟨b41_7, e0, hp2⟩ := q_nn_of hp
        clear hp; subst e0; have hp := hp2; clear hp2
        refine q_iald X V dX7_fail_41 hp (fun v41_8 hp => ?_)
        refine lv_isub hx hb dX7_fail_42 ?_
        refine lv_iconst (v := (4 : Int32)) hx hb dX7_fail_43 (by decide) ?_
        refine q_if hp (lv_icmp_lt (tgt := 104) hx hb dX7_fail_44 (by decide)) (fun hp => ?_) (fun hp => ?_)
        · refine x_iinc (v := (1 : Int32)) (lst' := [(3, .inl (x3 + (1 : Int32))), (0, .inr (some a0)), (1, .inl x1), (2, .inl x2)]) X dX7_fail_104 hl 3 rfl (by decide) (by decide) rfl (fun ls hl => ?_)
          refine lv_goto (tgt := 4) hx hb dX7_fail_107 (by decide) ?_
          exact ih _ _ _ _ _ _ _ V (lx_sub hl [1, 2, 3, 0] rfl) hp
        · refine x_aload_n X dX7_fail_47 hl 0 rfl rfl ?_
          refine q_getR (ci := 7) X V inX7 rfl (by decide) rfl 19 (by decide) rfl (tw_3 48 rfl rfl) rfl dX7_fail_48 hp (fun r48_9 hp => ?_)
          refine lv_bipush (v := (12 : Int32)) hx hb dX7_fail_51 (by decide) ?_
          refine x_iload_n X dX7_fail_53 hl 1 rfl rfl ?_
          refine lv_imul hx hb dX7_fail_54 ?_
          refine x_iload_n X dX7_fail_55 hl 3 rfl rfl ?_
          refine lv_iadd hx hb dX7_fail_56 ?_
          refine lv_iconst (v := (4 : Int32)) hx hb dX7_fail_57 (by decide) ?_
          obtain ⟨b58_10, e0, hp2⟩ := q_nn_of hp
          clear hp; subst e0; have hp := hp2; clear hp2
          refine q_iast X V dX7_fail_58 hp (fun G H locs V hp => ?_)
          refine x_aload_n X dX7_fail_59 hl 0 rfl rfl ?_
          refine q_getR (ci := 7) X V inX7 rfl (by decide) rfl 8 (by decide) rfl (tw_3 37 rfl rfl) rfl dX7_fail_60 hp (fun r60_11 hp => ?_)
          refine lv_bipush (v := (12 : Int32)) hx hb dX7_fail_63 (by decide) ?_
          refine x_iload_n X dX7_fail_65 hl 1 rfl rfl ?_
          refine lv_imul hx hb dX7_fail_66 ?_
          refine x_iload_n X dX7_fail_67 hl 3 rfl rfl ?_
          refine lv_iadd hx hb dX7_fail_68 ?_
          refine x_aload_n X dX7_fail_69 hl 0 rfl rfl ?_
          refine q_getR (ci := 7) X V inX7 rfl (by decide) rfl 6 (by decide) rfl (tw_3 35 rfl rfl) rfl dX7_fail_70 hp (fun r70_12 hp => ?_)
          refine lv_bipush (v := (12 : Int32)) hx hb dX7_fail_73 (by decide) ?_
          refine x_iload_n X dX7_fail_75 hl 1 rfl rfl ?_
          refine lv_imul hx hb dX7_fail_76 ?_
          refine x_iload_n X dX7_fail_77 hl 3 rfl rfl ?_
          refine lv_iadd hx hb dX7_fail_78 ?_
          obtain ⟨b79_13, e0, hp2⟩ := q_nn_of hp
          clear hp; subst e0; have hp := hp2; clear hp2
          refine q_zald X V dX7_fail_79 hp (fun v79_14 hp => ?_)
          refine q_if hp (lv_if_eq (tgt := 99) hx hb dX7_fail_80 (by decide)) (fun hp => ?_) (fun hp => ?_)
          · refine lv_iconst (v := (0 : Int32)) hx hb dX7_fail_99 (by decide) ?_
            obtain ⟨b100_15, e0, hp2⟩ := q_nn_of hp
            clear hp; subst e0; have hp := hp2; clear hp2
            refine q_iast X V dX7_fail_100 hp (fun G H locs V hp => ?_)
            refine x_iinc (v := (1 : Int32)) (lst' := [(2, .inl (x2 + (1 : Int32))), (0, .inr (some a0)), (1, .inl x1), (3, .inl x3)]) X dX7_fail_101 hl 2 rfl (by decide) (by decide) rfl (fun ls hl => ?_)
            refine x_iinc (v := (1 : Int32)) (lst' := [(3, .inl (x3 + (1 : Int32))), (2, .inl (x2 + (1 : Int32))), (0, .inr (some a0)), (1, .inl x1)]) X dX7_fail_104 hl 3 rfl (by decide) (by decide) rfl (fun ls hl => ?_)
            refine lv_goto (tgt := 4) hx hb dX7_fail_107 (by decide) ?_
            exact ih _ _ _ _ _ _ _ V (lx_sub hl [2, 3, 1, 0] rfl) hp
          · refine x_aload_n X dX7_fail_83 hl 0 rfl rfl ?_
            refine q_getR (ci := 7) X V inX7 rfl (by decide) rfl 8 (by decide) rfl (tw_3 37 rfl rfl) rfl dX7_fail_84 hp (fun r84_16 hp => ?_)
            refine lv_bipush (v := (12 : Int32)) hx hb dX7_fail_87 (by decide) ?_
            refine x_iload_n X dX7_fail_89 hl 1 rfl rfl ?_
            refine lv_imul hx hb dX7_fail_90 ?_
            refine x_iload_n X dX7_fail_91 hl 3 rfl rfl ?_
            refine lv_iadd hx hb dX7_fail_92 ?_
            obtain ⟨b93_17, e0, hp2⟩ := q_nn_of hp
            clear hp; subst e0; have hp := hp2; clear hp2
            refine q_iald X V dX7_fail_93 hp (fun v93_18 hp => ?_)
            refine lv_iconst (v := (1 : Int32)) hx hb dX7_fail_94 (by decide) ?_
            refine lv_iadd hx hb dX7_fail_95 ?_
            refine lv_goto (tgt := 100) hx hb dX7_fail_96 (by decide) ?_
            obtain ⟨b100_19, e0, hp2⟩ := q_nn_of hp
            clear hp; subst e0; have hp := hp2; clear hp2
            refine q_iast X V dX7_fail_100 hp (fun G H locs V hp => ?_)
            refine x_iinc (v := (1 : Int32)) (lst' := [(2, .inl (x2 + (1 : Int32))), (0, .inr (some a0)), (1, .inl x1), (3, .inl x3)]) X dX7_fail_101 hl 2 rfl (by decide) (by decide) rfl (fun ls hl => ?_)
            refine x_iinc (v := (1 : Int32)) (lst' := [(3, .inl (x3 + (1 : Int32))), (2, .inl (x2 + (1 : Int32))), (0, .inr (some a0)), (1, .inl x1)]) X dX7_fail_104 hl 3 rfl (by decide) (by decide) rfl (fun ls hl => ?_)
            refine lv_goto (tgt := 4) hx hb dX7_fail_107 (by decide) ?_
            exact ih _ _ _ _ _ _ _ V (lx_sub hl [2, 3, 1, 0] rfl) hp
def pX7_fail_0 (N a0 : Nat) (G : mm_M) (x1 : Int32) : Option (mm_M × Int32) :=
  pX7_fail_4 N a0 (fun (G : mm_M) (x2 : Int32) =>
    some (G, x2)) N G x1 (0 : Int32) (0 : Int32)
set_option maxRecDepth 100000 in
set_option maxHeartbeats 4000000 in
theorem bX7_fail_0 {p : Program} {l : Launch} {e : Env} {s : State} {m : MethodId} {args : Array Value} {below : List Frame} {meth : Method} {c : Code} {E : mm_E} {N a0 : Nat} {res : mm_M × Int32} (X : mm_X p s m args meth c prog_9_method_34_code 4 "XorOverlayModel" tw_T E) (hr : meth.sig.returnType = (Option.some .int)) {G : mm_M} {H : Heap} {locs : List Loc} {ls : Array Slot} {x1 : Int32} (V : mm_V E s G H locs) (hl : lx_has ls 4 [(0, .inr (some a0)), (1, .inl x1)]) (hp : pX7_fail_0 N a0 G x1 = some res) : W p l e rX7_fail s m args below meth c H locs 0 0 (MQ below (mm_Qi E res.1 res.2) args s 0 0 (mm_A E)) (F0 m 0 ls []) := by
  have hx := X.1.1
  have hb := X.1.2.1
  unfold pX7_fail_0 at hp
  refine lv_iconst (v := (0 : Int32)) hx hb dX7_fail_0 (by decide) ?_
  refine x_istore_n (lst' := [(2, .inl (0 : Int32)), (0, .inr (some a0)), (1, .inl x1)]) X dX7_fail_1 hl rfl (by decide) rfl (fun ls hl => ?_)
  refine lv_iconst (v := (0 : Int32)) hx hb dX7_fail_2 (by decide) ?_
  refine x_istore_n (lst' := [(3, .inl (0 : Int32)), (2, .inl (0 : Int32)), (0, .inr (some a0)), (1, .inl x1)]) X dX7_fail_3 hl rfl (by decide) rfl (fun ls hl => ?_)
  refine bX7_fail_4 X hr (fun G H locs ls x2 V hl hp => ?_) _ _ _ _ _ _ _ _ V (lx_sub hl [2, 3, 1, 0] rfl) hp
  refine x_iload_n X dX7_fail_110 hl 1 rfl rfl ?_
  exact q_iret X V hr ⟨by decide, by decide⟩ dX7_fail_111 hp
theorem cX7_fail (l : Launch) (E : mm_E) {N a0 : Nat} {G : mm_M} {x1 : Int32} {res : mm_M × Int32} (hp : pX7_fail_0 N a0 G x1 = some res) : Met l yX7_fail (Cond.code yX7_fail prog_9_method_34_code 4 (Option.some .int) :: tw_T) rX7_fail (mm_Pc E G [.ref a0, .int x1]) (mm_Qi E res.1 res.2) 0 0 (mm_A E) :=
  mm_met (own := "XorOverlayModel") E G [.inr (some a0), .inl x1] (by decide) rfl rfl (Nat.le_of_ble_eq_true rfl) (fun p e s m args below meth c ls X hr hi V hl => bX7_fail_0 X hr V hl hp)
abbrev yX7_tick : MethodName := ⟨"XorOverlayModel", "tick", "()I"⟩
abbrev rX7_tick : Room := { frames := 4, cells := 0, slots := 0, locals := 98 }
theorem kX7_tick : Cond.code yX7_tick prog_9_method_35_code 4 (Option.some .int) ∈ tw_T ∧ Cond.instanceMethod yX7_tick ∈ tw_T ∧ Cond.selects "XorOverlayModel" yX7_tick yX7_tick ∈ tw_T ∧ Cond.initialized "XorOverlayModel" ∈ tw_T := ⟨(tw_3 211 rfl rfl), (tw_3 209 rfl rfl), (tw_3 210 rfl rfl), (tw_1 3 rfl rfl)⟩
theorem hX7_tick : yX7_tick.cls = "XorOverlayModel" ∧ yX7_tick.cls ≠ "java/lang/invoke/MethodHandle" ∧ yX7_tick.cls ≠ "java/lang/invoke/VarHandle" ∧ (parseMethodDescriptor yX7_tick.desc).map (fun d => d.parameters.length) = some 0 := by decide +kernel
theorem dX7_tick_0 : decode prog_9_method_35_code 0 = .ok (.aload_n 0, 1) := by decide +kernel
theorem dX7_tick_1 : decode prog_9_method_35_code 1 = .ok (.dup, 1) := by decide +kernel
theorem dX7_tick_2 : decode prog_9_method_35_code 2 = .ok (.getfield 99, 3) := by decide +kernel
theorem dX7_tick_5 : decode prog_9_method_35_code 5 = .ok (.iconst 1, 1) := by decide +kernel
theorem dX7_tick_6 : decode prog_9_method_35_code 6 = .ok (.iadd, 1) := by decide +kernel
theorem dX7_tick_7 : decode prog_9_method_35_code 7 = .ok (.putfield 99, 3) := by decide +kernel
theorem dX7_tick_10 : decode prog_9_method_35_code 10 = .ok (.iconst 0, 1) := by decide +kernel
theorem dX7_tick_11 : decode prog_9_method_35_code 11 = .ok (.istore_n 1, 1) := by decide +kernel
theorem dX7_tick_12 : decode prog_9_method_35_code 12 = .ok (.iload_n 1, 1) := by decide +kernel
theorem dX7_tick_13 : decode prog_9_method_35_code 13 = .ok (.aload_n 0, 1) := by decide +kernel
theorem dX7_tick_14 : decode prog_9_method_35_code 14 = .ok (.getfield 77, 3) := by decide +kernel
theorem dX7_tick_17 : decode prog_9_method_35_code 17 = .ok (.if_icmp .ge 23, 3) := by decide +kernel
theorem dX7_tick_20 : decode prog_9_method_35_code 20 = .ok (.aload_n 0, 1) := by decide +kernel
theorem dX7_tick_21 : decode prog_9_method_35_code 21 = .ok (.getfield 13, 3) := by decide +kernel
theorem dX7_tick_24 : decode prog_9_method_35_code 24 = .ok (.iload_n 1, 1) := by decide +kernel
theorem dX7_tick_25 : decode prog_9_method_35_code 25 = .ok (.baload, 1) := by decide +kernel
theorem dX7_tick_26 : decode prog_9_method_35_code 26 = .ok (.ifCond .eq 8, 3) := by decide +kernel
theorem dX7_tick_29 : decode prog_9_method_35_code 29 = .ok (.aload_n 0, 1) := by decide +kernel
theorem dX7_tick_30 : decode prog_9_method_35_code 30 = .ok (.iload_n 1, 1) := by decide +kernel
theorem dX7_tick_31 : decode prog_9_method_35_code 31 = .ok (.invokevirtual 172, 3) := by decide +kernel
theorem dX7_tick_34 : decode prog_9_method_35_code 34 = .ok (.iinc 1 1, 3) := by decide +kernel
theorem dX7_tick_37 : decode prog_9_method_35_code 37 = .ok (.goto (-25), 3) := by decide +kernel
theorem dX7_tick_40 : decode prog_9_method_35_code 40 = .ok (.iconst 0, 1) := by decide +kernel
theorem dX7_tick_41 : decode prog_9_method_35_code 41 = .ok (.istore_n 1, 1) := by decide +kernel
theorem dX7_tick_42 : decode prog_9_method_35_code 42 = .ok (.iconst 0, 1) := by decide +kernel
theorem dX7_tick_43 : decode prog_9_method_35_code 43 = .ok (.istore_n 2, 1) := by decide +kernel
theorem dX7_tick_44 : decode prog_9_method_35_code 44 = .ok (.iload_n 2, 1) := by decide +kernel
theorem dX7_tick_45 : decode prog_9_method_35_code 45 = .ok (.sipush 256, 3) := by decide +kernel
theorem dX7_tick_48 : decode prog_9_method_35_code 48 = .ok (.if_icmp .ge 42, 3) := by decide +kernel
theorem dX7_tick_51 : decode prog_9_method_35_code 51 = .ok (.aload_n 0, 1) := by decide +kernel
theorem dX7_tick_52 : decode prog_9_method_35_code 52 = .ok (.iload_n 2, 1) := by decide +kernel
theorem dX7_tick_53 : decode prog_9_method_35_code 53 = .ok (.invokevirtual 152, 3) := by decide +kernel
theorem dX7_tick_56 : decode prog_9_method_35_code 56 = .ok (.istore_n 3, 1) := by decide +kernel
theorem dX7_tick_57 : decode prog_9_method_35_code 57 = .ok (.iload_n 3, 1) := by decide +kernel
theorem dX7_tick_58 : decode prog_9_method_35_code 58 = .ok (.ifCond .lt 26, 3) := by decide +kernel
theorem dX7_tick_61 : decode prog_9_method_35_code 61 = .ok (.aload_n 0, 1) := by decide +kernel
theorem dX7_tick_62 : decode prog_9_method_35_code 62 = .ok (.getfield 44, 3) := by decide +kernel
theorem dX7_tick_65 : decode prog_9_method_35_code 65 = .ok (.iload_n 3, 1) := by decide +kernel
theorem dX7_tick_66 : decode prog_9_method_35_code 66 = .ok (.iaload, 1) := by decide +kernel
theorem dX7_tick_67 : decode prog_9_method_35_code 67 = .ok (.iconst 1, 1) := by decide +kernel
theorem dX7_tick_68 : decode prog_9_method_35_code 68 = .ok (.if_icmp .ne 16, 3) := by decide +kernel
theorem dX7_tick_71 : decode prog_9_method_35_code 71 = .ok (.iload_n 1, 1) := by decide +kernel
theorem dX7_tick_72 : decode prog_9_method_35_code 72 = .ok (.aload_n 0, 1) := by decide +kernel
theorem dX7_tick_73 : decode prog_9_method_35_code 73 = .ok (.iload_n 3, 1) := by decide +kernel
theorem dX7_tick_74 : decode prog_9_method_35_code 74 = .ok (.invokevirtual 175, 3) := by decide +kernel
theorem dX7_tick_77 : decode prog_9_method_35_code 77 = .ok (.iadd, 1) := by decide +kernel
theorem dX7_tick_78 : decode prog_9_method_35_code 78 = .ok (.istore_n 1, 1) := by decide +kernel
theorem dX7_tick_79 : decode prog_9_method_35_code 79 = .ok (.aload_n 0, 1) := by decide +kernel
theorem dX7_tick_80 : decode prog_9_method_35_code 80 = .ok (.iload_n 3, 1) := by decide +kernel
theorem dX7_tick_81 : decode prog_9_method_35_code 81 = .ok (.invokevirtual 133, 3) := by decide +kernel
theorem dX7_tick_84 : decode prog_9_method_35_code 84 = .ok (.iinc 2 1, 3) := by decide +kernel
theorem dX7_tick_87 : decode prog_9_method_35_code 87 = .ok (.goto (-43), 3) := by decide +kernel
theorem dX7_tick_90 : decode prog_9_method_35_code 90 = .ok (.iload_n 1, 1) := by decide +kernel
theorem dX7_tick_91 : decode prog_9_method_35_code 91 = .ok (.ireturn, 1) := by decide +kernel
def pX7_tick_12_b (N a0 : Nat) (kb : mm_M → Int32 → Option (mm_M × Int32)) (kx : mm_M → Option (mm_M × Int32)) (G : mm_M) (x1 : Int32) : Option (mm_M × Int32) :=
  q_gI G a0 8 3 fun v14_2 =>
  if v14_2 ≤ x1 then
    kx G
  else
    q_gR G a0 8 5 fun r21_3 =>
    q_nn r21_3 fun b25_4 =>
    q_aI G b25_4 102 x1 fun v25_5 =>
    if v25_5 = 0 then
      kb G (x1 + (1 : Int32))
    else
      q_is G a0 8 <|
      q_cl (pX7_expire_0 N a0 G x1) fun G _ =>
      kb G (x1 + (1 : Int32))
def pX7_tick_12 (N a0 : Nat) (kx : mm_M → Option (mm_M × Int32)) : Nat → mm_M → Int32 → Option (mm_M × Int32)
  | 0 => fun _ _ => none
  | n + 1 => pX7_tick_12_b N a0 (pX7_tick_12 N a0 kx n) kx
set_option maxRecDepth 100000 in
set_option maxHeartbeats 4000000 in
theorem bX7_tick_12 {p : Program} {l : Launch} {e : Env} {s : State} {m : MethodId} {args : Array Value} {below : List Frame} {meth : Method} {c : Code} {E : mm_E} {N a0 : Nat} {res : mm_M × Int32} (X : mm_X p s m args meth c prog_9_method_35_code 4 "XorOverlayModel" tw_T E) (hr : meth.sig.returnType = (Option.some .int)) {kx : mm_M → Option (mm_M × Int32)} (hkx : ∀ (G : mm_M) (H : Heap) (locs : List Loc) (ls : Array Slot), mm_V E s G H locs → lx_has ls 4 [(0, .inr (some a0))] → kx G = some res → W p l e rX7_tick s m args below meth c H locs 0 0 (MQ below (mm_Qi E res.1 res.2) args s 0 0 (mm_A E)) (F0 m 40 ls [])) :
    ∀ (n : Nat) (G : mm_M) (H : Heap) (locs : List Loc) (ls : Array Slot) (x1 : Int32), mm_V E s G H locs → lx_has ls 4 [(0, .inr (some a0)), (1, .inl x1)] → pX7_tick_12 N a0 kx n G x1 = some res → W p l e rX7_tick s m args below meth c H locs 0 0 (MQ below (mm_Qi E res.1 res.2) args s 0 0 (mm_A E)) (F0 m 12 ls []) := by
  have hx := X.1.1
  have hb := X.1.2.1
  intro n
  induction n with
  | zero =>
    intro G H locs ls x1 V hl hp
    cases hp
  | succ n ih =>
    intro G H locs ls x1 V hl hp
    have hp : pX7_tick_12_b N a0 (pX7_tick_12 N a0 kx n) kx G x1 = some res := hp
    unfold pX7_tick_12_b at hp
    refine x_iload_n X dX7_tick_12 hl 1 rfl rfl ?_
    refine x_aload_n X dX7_tick_13 hl 0 rfl rfl ?_
    refine q_getI (ci := 7) X V inX7 rfl (by decide) rfl 3 (by decide) rfl (tw_3 32 rfl rfl) rfl dX7_tick_14 hp (fun v14_2 hp => ?_)
    refine q_if hp (lv_icmp_ge (tgt := 40) hx hb dX7_tick_17 (by decide)) (fun hp => ?_) (fun hp => ?_)
    · exact hkx _ _ _ _ V (lx_sub hl [0] rfl) hp
    · refine x_aload_n X dX7_tick_20 hl 0 rfl rfl ?_
      refine q_getR (ci := 7) X V inX7 rfl (by decide) rfl 5 (by decide) rfl (tw_3 34 rfl rfl) rfl dX7_tick_21 hp (fun r21_3 hp => ?_)
      refine x_iload_n X dX7_tick_24 hl 1 rfl rfl ?_
      obtain ⟨b25_4, e0, hp2⟩ := q_nn_of hp
      clear hp; subst e0; have hp := hp2; clear hp2
      refine q_zald X V dX7_tick_25 hp (fun v25_5 hp => ?_)
      refine q_if hp (lv_if_eq (tgt := 34) hx hb dX7_tick_26 (by decide)) (fun hp => ?_) (fun hp => ?_)
      · refine x_iinc (v := (1 : Int32)) (lst' := [(1, .inl (x1 + (1 : Int32))), (0, .inr (some a0))]) X dX7_tick_34 hl 1 rfl (by decide) (by decide) rfl (fun ls hl => ?_)
        refine lv_goto (tgt := 12) hx hb dX7_tick_37 (by decide) ?_
        exact ih _ _ _ _ _ V (lx_sub hl [1, 0] rfl) hp
      · refine x_aload_n X dX7_tick_29 hl 0 rfl rfl ?_
        refine x_iload_n X dX7_tick_30 hl 1 rfl rfl ?_
        obtain ⟨hk, hp⟩ := q_is_of hp
        obtain ⟨⟨G, u⟩, hq, hp⟩ := q_cl_of hp
        dsimp only at hp
        refine q_gov (cells' := 0) (slots' := 0) (va_runV (As := [.int x1]) (rest := []) X.1 (cX7_expire l E hq) (tw_cwV 1 X.1.2.2.2.2 (tw_3 212 rfl rfl) kX7_expire.2.1 kX7_expire.2.2.1 kX7_expire.2.2.2 kX7_expire.1 rfl rfl hX7_expire ⟨Nat.le_of_ble_eq_true rfl, Nat.le_of_ble_eq_true rfl⟩) (mm_preV X V rfl (by decide) rfl hk) rfl rfl hl.1 rfl (lv_room (Nat.le_of_ble_eq_true rfl)) dX7_tick_31 ⟨by decide, by decide⟩) V ⟨rfl, rfl⟩ (fun H locs V => ?_)
        refine x_iinc (v := (1 : Int32)) (lst' := [(1, .inl (x1 + (1 : Int32))), (0, .inr (some a0))]) X dX7_tick_34 hl 1 rfl (by decide) (by decide) rfl (fun ls hl => ?_)
        refine lv_goto (tgt := 12) hx hb dX7_tick_37 (by decide) ?_
        exact ih _ _ _ _ _ V (lx_sub hl [1, 0] rfl) hp
def pX7_tick_44_b (N a0 : Nat) (kb : mm_M → Int32 → Int32 → Option (mm_M × Int32)) (kx : mm_M → Int32 → Option (mm_M × Int32)) (G : mm_M) (x1 : Int32) (x2 : Int32) : Option (mm_M × Int32) :=
  if (256 : Int32) ≤ x2 then
    kx G x1
  else
    q_is G a0 8 <|
    q_cl (pX7_at_0 N a0 G x2) fun G v53_8 =>
    if v53_8 < 0 then
      kb G x1 (x2 + (1 : Int32))
    else
      q_gR G a0 8 15 fun r62_9 =>
      q_nn r62_9 fun b66_10 =>
      q_aI G b66_10 101 v53_8 fun v66_11 =>
      if v66_11 = (1 : Int32) then
        q_is G a0 8 <|
        q_cl (pX7_fail_0 N a0 G v53_8) fun G v74_13 =>
        q_is G a0 8 <|
        q_cl (pX7_goOn_0 N a0 G v53_8) fun G _ =>
        kb G (x1 + v74_13) (x2 + (1 : Int32))
      else
        kb G x1 (x2 + (1 : Int32))
def pX7_tick_44 (N a0 : Nat) (kx : mm_M → Int32 → Option (mm_M × Int32)) : Nat → mm_M → Int32 → Int32 → Option (mm_M × Int32)
  | 0 => fun _ _ _ => none
  | n + 1 => pX7_tick_44_b N a0 (pX7_tick_44 N a0 kx n) kx
set_option maxRecDepth 100000 in
set_option maxHeartbeats 4000000 in
theorem bX7_tick_44 {p : Program} {l : Launch} {e : Env} {s : State} {m : MethodId} {args : Array Value} {below : List Frame} {meth : Method} {c : Code} {E : mm_E} {N a0 : Nat} {res : mm_M × Int32} (X : mm_X p s m args meth c prog_9_method_35_code 4 "XorOverlayModel" tw_T E) (hr : meth.sig.returnType = (Option.some .int)) {kx : mm_M → Int32 → Option (mm_M × Int32)} (hkx : ∀ (G : mm_M) (H : Heap) (locs : List Loc) (ls : Array Slot) (x1 : Int32), mm_V E s G H locs → lx_has ls 4 [(0, .inr (some a0)), (1, .inl x1)] → kx G x1 = some res → W p l e rX7_tick s m args below meth c H locs 0 0 (MQ below (mm_Qi E res.1 res.2) args s 0 0 (mm_A E)) (F0 m 90 ls [])) :
    ∀ (n : Nat) (G : mm_M) (H : Heap) (locs : List Loc) (ls : Array Slot) (x1 : Int32) (x2 : Int32), mm_V E s G H locs → lx_has ls 4 [(0, .inr (some a0)), (1, .inl x1), (2, .inl x2)] → pX7_tick_44 N a0 kx n G x1 x2 = some res → W p l e rX7_tick s m args below meth c H locs 0 0 (MQ below (mm_Qi E res.1 res.2) args s 0 0 (mm_A E)) (F0 m 44 ls []) := by
  have hx := X.1.1
  have hb := X.1.2.1
  intro n
  induction n with
  | zero =>
    intro G H locs ls x1 x2 V hl hp
    cases hp
  | succ n ih =>
    intro G H locs ls x1 x2 V hl hp
    have hp : pX7_tick_44_b N a0 (pX7_tick_44 N a0 kx n) kx G x1 x2 = some res := hp
    unfold pX7_tick_44_b at hp
    refine x_iload_n X dX7_tick_44 hl 2 rfl rfl ?_
    refine lv_sipush (v := (256 : Int32)) hx hb dX7_tick_45 (by decide) ?_
    refine q_if hp (lv_icmp_ge (tgt := 90) hx hb dX7_tick_48 (by decide)) (fun hp => ?_) (fun hp => ?_)
    · exact hkx _ _ _ _ _ V (lx_sub hl [0, 1] rfl) hp
    · refine x_aload_n X dX7_tick_51 hl 0 rfl rfl ?_
      refine x_iload_n X dX7_tick_52 hl 2 rfl rfl ?_
      obtain ⟨hk, hp⟩ := q_is_of hp
      obtain ⟨⟨G, v53_8⟩, hq, hp⟩ := q_cl_of hp
      dsimp only at hp
      refine q_goi (cells' := 0) (slots' := 0) (va_runV (As := [.int x2]) (rest := []) X.1 (cX7_at l E hq) (tw_cwV 1 X.1.2.2.2.2 (tw_3 116 rfl rfl) kX7_at.2.1 kX7_at.2.2.1 kX7_at.2.2.2 kX7_at.1 rfl rfl hX7_at ⟨Nat.le_of_ble_eq_true rfl, Nat.le_of_ble_eq_true rfl⟩) (mm_preV X V rfl (by decide) rfl hk) rfl rfl hl.1 rfl (lv_room (Nat.le_of_ble_eq_true rfl)) dX7_tick_53 ⟨by decide, by decide⟩) V ⟨rfl, rfl⟩ (fun H locs V => ?_)
      refine x_istore_n (lst' := [(3, .inl v53_8), (0, .inr (some a0)), (1, .inl x1), (2, .inl x2)]) X dX7_tick_56 hl rfl (by decide) rfl (fun ls hl => ?_)
      refine x_iload_n X dX7_tick_57 hl 0 rfl rfl ?_
      refine q_if hp (lv_if_lt (tgt := 84) hx hb dX7_tick_58 (by decide)) (fun hp => ?_) (fun hp => ?_)
      · refine x_iinc (v := (1 : Int32)) (lst' := [(2, .inl (x2 + (1 : Int32))), (3, .inl v53_8), (0, .inr (some a0)), (1, .inl x1)]) X dX7_tick_84 hl 3 rfl (by decide) (by decide) rfl (fun ls hl => ?_)
        refine lv_goto (tgt := 44) hx hb dX7_tick_87 (by decide) ?_
        exact ih _ _ _ _ _ _ V (lx_sub hl [2, 3, 0] rfl) hp
      · refine x_aload_n X dX7_tick_61 hl 1 rfl rfl ?_
        refine q_getR (ci := 7) X V inX7 rfl (by decide) rfl 15 (by decide) rfl (tw_3 44 rfl rfl) rfl dX7_tick_62 hp (fun r62_9 hp => ?_)
        refine x_iload_n X dX7_tick_65 hl 0 rfl rfl ?_
        obtain ⟨b66_10, e0, hp2⟩ := q_nn_of hp
        clear hp; subst e0; have hp := hp2; clear hp2
        refine q_iald X V dX7_tick_66 hp (fun v66_11 hp => ?_)
        refine lv_iconst (v := (1 : Int32)) hx hb dX7_tick_67 (by decide) ?_
        refine q_ifn hp (lv_icmp_ne (tgt := 84) hx hb dX7_tick_68 (by decide)) (fun hp => ?_) (fun hp => ?_)
        · refine x_iinc (v := (1 : Int32)) (lst' := [(2, .inl (x2 + (1 : Int32))), (3, .inl v53_8), (0, .inr (some a0)), (1, .inl x1)]) X dX7_tick_84 hl 3 rfl (by decide) (by decide) rfl (fun ls hl => ?_)
          refine lv_goto (tgt := 44) hx hb dX7_tick_87 (by decide) ?_
          exact ih _ _ _ _ _ _ V (lx_sub hl [2, 3, 0] rfl) hp
        · refine x_iload_n X dX7_tick_71 hl 2 rfl rfl ?_
          refine x_aload_n X dX7_tick_72 hl 1 rfl rfl ?_
          refine x_iload_n X dX7_tick_73 hl 0 rfl rfl ?_
          obtain ⟨hk, hp⟩ := q_is_of hp
          obtain ⟨⟨G, v74_13⟩, hq, hp⟩ := q_cl_of hp
          dsimp only at hp
          refine q_goi (cells' := 0) (slots' := 0) (va_runV (As := [.int v53_8]) (rest := [.int x1]) X.1 (cX7_fail l E hq) (tw_cwV 1 X.1.2.2.2.2 (tw_3 216 rfl rfl) kX7_fail.2.1 kX7_fail.2.2.1 kX7_fail.2.2.2 kX7_fail.1 rfl rfl hX7_fail ⟨Nat.le_of_ble_eq_true rfl, Nat.le_of_ble_eq_true rfl⟩) (mm_preV X V rfl (by decide) rfl hk) rfl rfl hl.1 rfl (lv_room (Nat.le_of_ble_eq_true rfl)) dX7_tick_74 ⟨by decide, by decide⟩) V ⟨rfl, rfl⟩ (fun H locs V => ?_)
          refine lv_iadd hx hb dX7_tick_77 ?_
          refine x_istore_n (lst' := [(1, .inl (x1 + v74_13)), (3, .inl v53_8), (0, .inr (some a0)), (2, .inl x2)]) X dX7_tick_78 hl rfl (by decide) rfl (fun ls hl => ?_)
          refine x_aload_n X dX7_tick_79 hl 2 rfl rfl ?_
          refine x_iload_n X dX7_tick_80 hl 1 rfl rfl ?_
          obtain ⟨hk, hp⟩ := q_is_of hp
          obtain ⟨⟨G, u⟩, hq, hp⟩ := q_cl_of hp
          dsimp only at hp
          refine q_gov (cells' := 0) (slots' := 0) (va_runV (As := [.int v53_8]) (rest := []) X.1 (cX7_goOn l E hq) (tw_cwV 1 X.1.2.2.2.2 (tw_3 160 rfl rfl) kX7_goOn.2.1 kX7_goOn.2.2.1 kX7_goOn.2.2.2 kX7_goOn.1 rfl rfl hX7_goOn ⟨Nat.le_of_ble_eq_true rfl, Nat.le_of_ble_eq_true rfl⟩) (mm_preV X V rfl (by decide) rfl hk) rfl rfl hl.1 rfl (lv_room (Nat.le_of_ble_eq_true rfl)) dX7_tick_81 ⟨by decide, by decide⟩) V ⟨rfl, rfl⟩ (fun H locs V => ?_)
          refine x_iinc (v := (1 : Int32)) (lst' := [(2, .inl (x2 + (1 : Int32))), (1, .inl (x1 + v74_13)), (3, .inl v53_8), (0, .inr (some a0))]) X dX7_tick_84 hl 3 rfl (by decide) (by decide) rfl (fun ls hl => ?_)
          refine lv_goto (tgt := 44) hx hb dX7_tick_87 (by decide) ?_
          exact ih _ _ _ _ _ _ V (lx_sub hl [3, 1, 0] rfl) hp
def pX7_tick_0 (N a0 : Nat) (G : mm_M) : Option (mm_M × Int32) :=
  q_gI G a0 8 0 fun v2_1 =>
  q_pI G a0 8 0 (v2_1 + (1 : Int32)) fun G =>
  pX7_tick_12 N a0 (fun (G : mm_M) =>
    pX7_tick_44 N a0 (fun (G : mm_M) (x1 : Int32) =>
      some (G, x1)) N G (0 : Int32) (0 : Int32)) N G (0 : Int32)
set_option maxRecDepth 100000 in
set_option maxHeartbeats 4000000 in
theorem bX7_tick_0 {p : Program} {l : Launch} {e : Env} {s : State} {m : MethodId} {args : Array Value} {below : List Frame} {meth : Method} {c : Code} {E : mm_E} {N a0 : Nat} {res : mm_M × Int32} (X : mm_X p s m args meth c prog_9_method_35_code 4 "XorOverlayModel" tw_T E) (hr : meth.sig.returnType = (Option.some .int)) {G : mm_M} {H : Heap} {locs : List Loc} {ls : Array Slot} (V : mm_V E s G H locs) (hl : lx_has ls 4 [(0, .inr (some a0))]) (hp : pX7_tick_0 N a0 G = some res) : W p l e rX7_tick s m args below meth c H locs 0 0 (MQ below (mm_Qi E res.1 res.2) args s 0 0 (mm_A E)) (F0 m 0 ls []) := by
  have hx := X.1.1
  have hb := X.1.2.1
  unfold pX7_tick_0 at hp
  refine x_aload_n X dX7_tick_0 hl 0 rfl rfl ?_
  refine lv_dup hx hb dX7_tick_1 (va_rf_cat _) ?_
  refine q_getI (ci := 7) X V inX7 rfl (by decide) rfl 0 (by decide) rfl (tw_3 29 rfl rfl) rfl dX7_tick_2 hp (fun v2_1 hp => ?_)
  refine lv_iconst (v := (1 : Int32)) hx hb dX7_tick_5 (by decide) ?_
  refine lv_iadd hx hb dX7_tick_6 ?_
  refine q_putI (ci := 7) X V inX7 rfl tyX7 tyX7_ok nmX7 (by decide) rfl 0 (by decide) rfl (tw_3 29 rfl rfl) rfl (Or.inl rfl) .int rfl rfl rfl dX7_tick_7 hp (fun G H locs V hp => ?_)
  refine lv_iconst (v := (0 : Int32)) hx hb dX7_tick_10 (by decide) ?_
  refine x_istore_n (lst' := [(1, .inl (0 : Int32)), (0, .inr (some a0))]) X dX7_tick_11 hl rfl (by decide) rfl (fun ls hl => ?_)
  refine bX7_tick_12 X hr (fun G H locs ls V hl hp => ?_) _ _ _ _ _ _ V (lx_sub hl [1, 0] rfl) hp
  refine lv_iconst (v := (0 : Int32)) hx hb dX7_tick_40 (by decide) ?_
  refine x_istore_n (lst' := [(1, .inl (0 : Int32)), (0, .inr (some a0))]) X dX7_tick_41 hl rfl (by decide) rfl (fun ls hl => ?_)
  refine lv_iconst (v := (0 : Int32)) hx hb dX7_tick_42 (by decide) ?_
  refine x_istore_n (lst' := [(2, .inl (0 : Int32)), (1, .inl (0 : Int32)), (0, .inr (some a0))]) X dX7_tick_43 hl rfl (by decide) rfl (fun ls hl => ?_)
  refine bX7_tick_44 X hr (fun G H locs ls x1 V hl hp => ?_) _ _ _ _ _ _ _ V (lx_sub hl [2, 1, 0] rfl) hp
  refine x_iload_n X dX7_tick_90 hl 1 rfl rfl ?_
  exact q_iret X V hr ⟨by decide, by decide⟩ dX7_tick_91 hp
theorem cX7_tick (l : Launch) (E : mm_E) {N a0 : Nat} {G : mm_M} {res : mm_M × Int32} (hp : pX7_tick_0 N a0 G = some res) : Met l yX7_tick (Cond.code yX7_tick prog_9_method_35_code 4 (Option.some .int) :: tw_T) rX7_tick (mm_Pc E G [.ref a0]) (mm_Qi E res.1 res.2) 0 0 (mm_A E) :=
  mm_met (own := "XorOverlayModel") E G [.inr (some a0)] (by decide) rfl rfl (Nat.le_of_ble_eq_true rfl) (fun p e s m args below meth c ls X hr hi V hl => bX7_tick_0 X hr V hl hp)
abbrev yX7_deliver : MethodName := ⟨"XorOverlayModel", "deliver", "(I)I"⟩
abbrev rX7_deliver : Room := { frames := 5, cells := 0, slots := 0, locals := 122 }
theorem kX7_deliver : Cond.code yX7_deliver prog_9_method_36_code 4 (Option.some .int) ∈ tw_T ∧ Cond.instanceMethod yX7_deliver ∈ tw_T ∧ Cond.selects "XorOverlayModel" yX7_deliver yX7_deliver ∈ tw_T ∧ Cond.initialized "XorOverlayModel" ∈ tw_T := ⟨(tw_3 223 rfl rfl), (tw_3 221 rfl rfl), (tw_3 222 rfl rfl), (tw_1 3 rfl rfl)⟩
theorem hX7_deliver : yX7_deliver.cls = "XorOverlayModel" ∧ yX7_deliver.cls ≠ "java/lang/invoke/MethodHandle" ∧ yX7_deliver.cls ≠ "java/lang/invoke/VarHandle" ∧ (parseMethodDescriptor yX7_deliver.desc).map (fun d => d.parameters.length) = some 1 := by decide +kernel
theorem dX7_deliver_0 : decode prog_9_method_36_code 0 = .ok (.aload_n 0, 1) := by decide +kernel
theorem dX7_deliver_1 : decode prog_9_method_36_code 1 = .ok (.iload_n 1, 1) := by decide +kernel
theorem dX7_deliver_2 : decode prog_9_method_36_code 2 = .ok (.invokevirtual 178, 3) := by decide +kernel
theorem dX7_deliver_5 : decode prog_9_method_36_code 5 = .ok (.ifCond .ne 5, 3) := by decide +kernel
theorem dX7_deliver_8 : decode prog_9_method_36_code 8 = .ok (.iconst (-1), 1) := by decide +kernel
theorem dX7_deliver_9 : decode prog_9_method_36_code 9 = .ok (.ireturn, 1) := by decide +kernel
theorem dX7_deliver_10 : decode prog_9_method_36_code 10 = .ok (.aload_n 0, 1) := by decide +kernel
theorem dX7_deliver_11 : decode prog_9_method_36_code 11 = .ok (.iload_n 1, 1) := by decide +kernel
theorem dX7_deliver_12 : decode prog_9_method_36_code 12 = .ok (.invokevirtual 181, 3) := by decide +kernel
theorem dX7_deliver_15 : decode prog_9_method_36_code 15 = .ok (.aload_n 0, 1) := by decide +kernel
theorem dX7_deliver_16 : decode prog_9_method_36_code 16 = .ok (.aload_n 0, 1) := by decide +kernel
theorem dX7_deliver_17 : decode prog_9_method_36_code 17 = .ok (.getfield 74, 3) := by decide +kernel
theorem dX7_deliver_20 : decode prog_9_method_36_code 20 = .ok (.iconst 2, 1) := by decide +kernel
theorem dX7_deliver_21 : decode prog_9_method_36_code 21 = .ok (.iaload, 1) := by decide +kernel
theorem dX7_deliver_22 : decode prog_9_method_36_code 22 = .ok (.invokevirtual 152, 3) := by decide +kernel
theorem dX7_deliver_25 : decode prog_9_method_36_code 25 = .ok (.istore_n 2, 1) := by decide +kernel
theorem dX7_deliver_26 : decode prog_9_method_36_code 26 = .ok (.iload_n 2, 1) := by decide +kernel
theorem dX7_deliver_27 : decode prog_9_method_36_code 27 = .ok (.ifCond .ge 5, 3) := by decide +kernel
theorem dX7_deliver_30 : decode prog_9_method_36_code 30 = .ok (.iconst 0, 1) := by decide +kernel
theorem dX7_deliver_31 : decode prog_9_method_36_code 31 = .ok (.ireturn, 1) := by decide +kernel
theorem dX7_deliver_32 : decode prog_9_method_36_code 32 = .ok (.aload_n 0, 1) := by decide +kernel
theorem dX7_deliver_33 : decode prog_9_method_36_code 33 = .ok (.aload_n 0, 1) := by decide +kernel
theorem dX7_deliver_34 : decode prog_9_method_36_code 34 = .ok (.getfield 74, 3) := by decide +kernel
theorem dX7_deliver_37 : decode prog_9_method_36_code 37 = .ok (.iconst 1, 1) := by decide +kernel
theorem dX7_deliver_38 : decode prog_9_method_36_code 38 = .ok (.iaload, 1) := by decide +kernel
theorem dX7_deliver_39 : decode prog_9_method_36_code 39 = .ok (.invokevirtual 81, 3) := by decide +kernel
theorem dX7_deliver_42 : decode prog_9_method_36_code 42 = .ok (.istore_n 3, 1) := by decide +kernel
theorem dX7_deliver_43 : decode prog_9_method_36_code 43 = .ok (.aload_n 0, 1) := by decide +kernel
theorem dX7_deliver_44 : decode prog_9_method_36_code 44 = .ok (.iload_n 2, 1) := by decide +kernel
theorem dX7_deliver_45 : decode prog_9_method_36_code 45 = .ok (.iload_n 3, 1) := by decide +kernel
theorem dX7_deliver_46 : decode prog_9_method_36_code 46 = .ok (.invokevirtual 159, 3) := by decide +kernel
theorem dX7_deliver_49 : decode prog_9_method_36_code 49 = .ok (.aload_n 0, 1) := by decide +kernel
theorem dX7_deliver_50 : decode prog_9_method_36_code 50 = .ok (.getfield 74, 3) := by decide +kernel
theorem dX7_deliver_53 : decode prog_9_method_36_code 53 = .ok (.iconst 0, 1) := by decide +kernel
theorem dX7_deliver_54 : decode prog_9_method_36_code 54 = .ok (.iaload, 1) := by decide +kernel
theorem dX7_deliver_55 : decode prog_9_method_36_code 55 = .ok (.iconst 2, 1) := by decide +kernel
theorem dX7_deliver_56 : decode prog_9_method_36_code 56 = .ok (.if_icmp .ge 12, 3) := by decide +kernel
theorem dX7_deliver_59 : decode prog_9_method_36_code 59 = .ok (.aload_n 0, 1) := by decide +kernel
theorem dX7_deliver_60 : decode prog_9_method_36_code 60 = .ok (.iload_n 2, 1) := by decide +kernel
theorem dX7_deliver_61 : decode prog_9_method_36_code 61 = .ok (.iload_n 3, 1) := by decide +kernel
theorem dX7_deliver_62 : decode prog_9_method_36_code 62 = .ok (.invokevirtual 184, 3) := by decide +kernel
theorem dX7_deliver_65 : decode prog_9_method_36_code 65 = .ok (.goto 28, 3) := by decide +kernel
theorem dX7_deliver_68 : decode prog_9_method_36_code 68 = .ok (.aload_n 0, 1) := by decide +kernel
theorem dX7_deliver_69 : decode prog_9_method_36_code 69 = .ok (.getfield 74, 3) := by decide +kernel
theorem dX7_deliver_72 : decode prog_9_method_36_code 72 = .ok (.iconst 0, 1) := by decide +kernel
theorem dX7_deliver_73 : decode prog_9_method_36_code 73 = .ok (.iaload, 1) := by decide +kernel
theorem dX7_deliver_74 : decode prog_9_method_36_code 74 = .ok (.iconst 2, 1) := by decide +kernel
theorem dX7_deliver_75 : decode prog_9_method_36_code 75 = .ok (.if_icmp .ne 12, 3) := by decide +kernel
theorem dX7_deliver_78 : decode prog_9_method_36_code 78 = .ok (.aload_n 0, 1) := by decide +kernel
theorem dX7_deliver_79 : decode prog_9_method_36_code 79 = .ok (.iload_n 2, 1) := by decide +kernel
theorem dX7_deliver_80 : decode prog_9_method_36_code 80 = .ok (.iload_n 3, 1) := by decide +kernel
theorem dX7_deliver_81 : decode prog_9_method_36_code 81 = .ok (.invokevirtual 187, 3) := by decide +kernel
theorem dX7_deliver_84 : decode prog_9_method_36_code 84 = .ok (.goto 9, 3) := by decide +kernel
theorem dX7_deliver_87 : decode prog_9_method_36_code 87 = .ok (.aload_n 0, 1) := by decide +kernel
theorem dX7_deliver_88 : decode prog_9_method_36_code 88 = .ok (.iload_n 2, 1) := by decide +kernel
theorem dX7_deliver_89 : decode prog_9_method_36_code 89 = .ok (.iload_n 3, 1) := by decide +kernel
theorem dX7_deliver_90 : decode prog_9_method_36_code 90 = .ok (.invokevirtual 190, 3) := by decide +kernel
theorem dX7_deliver_93 : decode prog_9_method_36_code 93 = .ok (.iconst 1, 1) := by decide +kernel
theorem dX7_deliver_94 : decode prog_9_method_36_code 94 = .ok (.ireturn, 1) := by decide +kernel
def pX7_deliver_0 (N a0 : Nat) (G : mm_M) (x1 : Int32) : Option (mm_M × Int32) :=
  q_is G a0 8 <|
  q_cl (pX7_inLine_0 N a0 G x1) fun G v2_2 =>
  if v2_2 = 0 then
    some (G, (-1 : Int32))
  else
    q_is G a0 8 <|
    q_cl (pX7_takeOut_0 N a0 G x1) fun G _ =>
    q_gR G a0 8 26 fun r17_4 =>
    q_nn r17_4 fun b21_5 =>
    q_aI G b21_5 101 (2 : Int32) fun v21_6 =>
    q_is G a0 8 <|
    q_cl (pX7_at_0 N a0 G v21_6) fun G v22_8 =>
    if 0 ≤ v22_8 then
      q_gR G a0 8 26 fun r34_9 =>
      q_nn r34_9 fun b38_10 =>
      q_aI G b38_10 101 (1 : Int32) fun v38_11 =>
      q_is G a0 8 <|
      q_cl (pX7_known_0 N a0 G v38_11) fun G v39_13 =>
      q_is G a0 8 <|
      q_cl (pX7_see_0 N a0 G v22_8 v39_13) fun G _ =>
      q_gR G a0 8 26 fun r50_15 =>
      q_nn r50_15 fun b54_16 =>
      q_aI G b54_16 101 (0 : Int32) fun v54_17 =>
      if (2 : Int32) ≤ v54_17 then
        q_gR G a0 8 26 fun r69_18 =>
        q_nn r69_18 fun b73_19 =>
        q_aI G b73_19 101 (0 : Int32) fun v73_20 =>
        if v73_20 = (2 : Int32) then
          q_is G a0 8 <|
          q_cl (pX7_collect_0 N a0 G v22_8 v39_13) fun G _ =>
          some (G, (1 : Int32))
        else
          q_is G a0 8 <|
          q_cl (pX7_store_0 N a0 G v22_8 v39_13) fun G _ =>
          some (G, (1 : Int32))
      else
        q_is G a0 8 <|
        q_cl (pX7_answer_0 N a0 G v22_8 v39_13) fun G _ =>
        some (G, (1 : Int32))
    else
      some (G, (0 : Int32))
set_option maxRecDepth 100000 in
set_option maxHeartbeats 4000000 in
theorem bX7_deliver_0 {p : Program} {l : Launch} {e : Env} {s : State} {m : MethodId} {args : Array Value} {below : List Frame} {meth : Method} {c : Code} {E : mm_E} {N a0 : Nat} {res : mm_M × Int32} (X : mm_X p s m args meth c prog_9_method_36_code 4 "XorOverlayModel" tw_T E) (hr : meth.sig.returnType = (Option.some .int)) {G : mm_M} {H : Heap} {locs : List Loc} {ls : Array Slot} {x1 : Int32} (V : mm_V E s G H locs) (hl : lx_has ls 4 [(0, .inr (some a0)), (1, .inl x1)]) (hp : pX7_deliver_0 N a0 G x1 = some res) : W p l e rX7_deliver s m args below meth c H locs 0 0 (MQ below (mm_Qi E res.1 res.2) args s 0 0 (mm_A E)) (F0 m 0 ls []) := by
  have hx := X.1.1
  have hb := X.1.2.1
  unfold pX7_deliver_0 at hp
  refine x_aload_n X dX7_deliver_0 hl 0 rfl rfl ?_
  refine x_iload_n X dX7_deliver_1 hl 1 rfl rfl ?_
  obtain ⟨hk, hp⟩ := q_is_of hp
  obtain ⟨⟨G, v2_2⟩, hq, hp⟩ := q_cl_of hp
  dsimp only at hp
  refine q_goi (cells' := 0) (slots' := 0) (va_runV (As := [.int x1]) (rest := []) X.1 (cX7_inLine l E hq) (tw_cwV 1 X.1.2.2.2.2 (tw_3 224 rfl rfl) kX7_inLine.2.1 kX7_inLine.2.2.1 kX7_inLine.2.2.2 kX7_inLine.1 rfl rfl hX7_inLine ⟨Nat.le_of_ble_eq_true rfl, Nat.le_of_ble_eq_true rfl⟩) (mm_preV X V rfl (by decide) rfl hk) rfl rfl hl.1 rfl (lv_room (Nat.le_of_ble_eq_true rfl)) dX7_deliver_2 ⟨by decide, by decide⟩) V ⟨rfl, rfl⟩ (fun H locs V => ?_)
  refine q_ifn hp (lv_if_ne (tgt := 10) hx hb dX7_deliver_5 (by decide)) (fun hp => ?_) (fun hp => ?_)
  · refine x_aload_n X dX7_deliver_10 hl 0 rfl rfl ?_
    refine x_iload_n X dX7_deliver_11 hl 1 rfl rfl ?_
    obtain ⟨hk, hp⟩ := q_is_of hp
    obtain ⟨⟨G, u⟩, hq, hp⟩ := q_cl_of hp
    dsimp only at hp
    refine q_gov (cells' := 0) (slots' := 0) (va_runV (As := [.int x1]) (rest := []) X.1 (cX7_takeOut l E hq) (tw_cwV 1 X.1.2.2.2.2 (tw_3 228 rfl rfl) kX7_takeOut.2.1 kX7_takeOut.2.2.1 kX7_takeOut.2.2.2 kX7_takeOut.1 rfl rfl hX7_takeOut ⟨Nat.le_of_ble_eq_true rfl, Nat.le_of_ble_eq_true rfl⟩) (mm_preV X V rfl (by decide) rfl hk) rfl rfl hl.1 rfl (lv_room (Nat.le_of_ble_eq_true rfl)) dX7_deliver_12 ⟨by decide, by decide⟩) V ⟨rfl, rfl⟩ (fun H locs V => ?_)
    refine x_aload_n X dX7_deliver_15 hl 0 rfl rfl ?_
    refine x_aload_n X dX7_deliver_16 hl 0 rfl rfl ?_
    refine q_getR (ci := 7) X V inX7 rfl (by decide) rfl 26 (by decide) rfl (tw_3 55 rfl rfl) rfl dX7_deliver_17 hp (fun r17_4 hp => ?_)
    refine lv_iconst (v := (2 : Int32)) hx hb dX7_deliver_20 (by decide) ?_
    obtain ⟨b21_5, e0, hp2⟩ := q_nn_of hp
    clear hp; subst e0; have hp := hp2; clear hp2
    refine q_iald X V dX7_deliver_21 hp (fun v21_6 hp => ?_)
    obtain ⟨hk, hp⟩ := q_is_of hp
    obtain ⟨⟨G, v22_8⟩, hq, hp⟩ := q_cl_of hp
    dsimp only at hp
    refine q_goi (cells' := 0) (slots' := 0) (va_runV (As := [.int v21_6]) (rest := []) X.1 (cX7_at l E hq) (tw_cwV 1 X.1.2.2.2.2 (tw_3 116 rfl rfl) kX7_at.2.1 kX7_at.2.2.1 kX7_at.2.2.2 kX7_at.1 rfl rfl hX7_at ⟨Nat.le_of_ble_eq_true rfl, Nat.le_of_ble_eq_true rfl⟩) (mm_preV X V rfl (by decide) rfl hk) rfl rfl hl.1 rfl (lv_room (Nat.le_of_ble_eq_true rfl)) dX7_deliver_22 ⟨by decide, by decide⟩) V ⟨rfl, rfl⟩ (fun H locs V => ?_)
    refine x_istore_n (lst' := [(2, .inl v22_8), (0, .inr (some a0)), (1, .inl x1)]) X dX7_deliver_25 hl rfl (by decide) rfl (fun ls hl => ?_)
    refine x_iload_n X dX7_deliver_26 hl 0 rfl rfl ?_
    refine q_if hp (lv_if_ge (tgt := 32) hx hb dX7_deliver_27 (by decide)) (fun hp => ?_) (fun hp => ?_)
    · refine x_aload_n X dX7_deliver_32 hl 1 rfl rfl ?_
      refine x_aload_n X dX7_deliver_33 hl 1 rfl rfl ?_
      refine q_getR (ci := 7) X V inX7 rfl (by decide) rfl 26 (by decide) rfl (tw_3 55 rfl rfl) rfl dX7_deliver_34 hp (fun r34_9 hp => ?_)
      refine lv_iconst (v := (1 : Int32)) hx hb dX7_deliver_37 (by decide) ?_
      obtain ⟨b38_10, e0, hp2⟩ := q_nn_of hp
      clear hp; subst e0; have hp := hp2; clear hp2
      refine q_iald X V dX7_deliver_38 hp (fun v38_11 hp => ?_)
      obtain ⟨hk, hp⟩ := q_is_of hp
      obtain ⟨⟨G, v39_13⟩, hq, hp⟩ := q_cl_of hp
      dsimp only at hp
      refine q_goi (cells' := 0) (slots' := 0) (va_runV (As := [.int v38_11]) (rest := []) X.1 (cX7_known l E hq) (tw_cwV 1 X.1.2.2.2.2 (tw_3 120 rfl rfl) kX7_known.2.1 kX7_known.2.2.1 kX7_known.2.2.2 kX7_known.1 rfl rfl hX7_known ⟨Nat.le_of_ble_eq_true rfl, Nat.le_of_ble_eq_true rfl⟩) (mm_preV X V rfl (by decide) rfl hk) rfl rfl hl.1 rfl (lv_room (Nat.le_of_ble_eq_true rfl)) dX7_deliver_39 ⟨by decide, by decide⟩) V ⟨rfl, rfl⟩ (fun H locs V => ?_)
      refine x_istore_n (lst' := [(3, .inl v39_13), (2, .inl v22_8), (0, .inr (some a0)), (1, .inl x1)]) X dX7_deliver_42 hl rfl (by decide) rfl (fun ls hl => ?_)
      refine x_aload_n X dX7_deliver_43 hl 2 rfl rfl ?_
      refine x_iload_n X dX7_deliver_44 hl 1 rfl rfl ?_
      refine x_iload_n X dX7_deliver_45 hl 0 rfl rfl ?_
      obtain ⟨hk, hp⟩ := q_is_of hp
      obtain ⟨⟨G, u⟩, hq, hp⟩ := q_cl_of hp
      dsimp only at hp
      refine q_gov (cells' := 0) (slots' := 0) (va_runV (As := [.int v22_8, .int v39_13]) (rest := []) X.1 (cX7_see l E hq) (tw_cwV 2 X.1.2.2.2.2 (tw_3 128 rfl rfl) kX7_see.2.1 kX7_see.2.2.1 kX7_see.2.2.2 kX7_see.1 rfl rfl hX7_see ⟨Nat.le_of_ble_eq_true rfl, Nat.le_of_ble_eq_true rfl⟩) (mm_preV X V rfl (by decide) rfl hk) rfl rfl hl.1 rfl (lv_room (Nat.le_of_ble_eq_true rfl)) dX7_deliver_46 ⟨by decide, by decide⟩) V ⟨rfl, rfl⟩ (fun H locs V => ?_)
      refine x_aload_n X dX7_deliver_49 hl 2 rfl rfl ?_
      refine q_getR (ci := 7) X V inX7 rfl (by decide) rfl 26 (by decide) rfl (tw_3 55 rfl rfl) rfl dX7_deliver_50 hp (fun r50_15 hp => ?_)
      refine lv_iconst (v := (0 : Int32)) hx hb dX7_deliver_53 (by decide) ?_
      obtain ⟨b54_16, e0, hp2⟩ := q_nn_of hp
      clear hp; subst e0; have hp := hp2; clear hp2
      refine q_iald X V dX7_deliver_54 hp (fun v54_17 hp => ?_)
      refine lv_iconst (v := (2 : Int32)) hx hb dX7_deliver_55 (by decide) ?_
      refine q_if hp (lv_icmp_ge (tgt := 68) hx hb dX7_deliver_56 (by decide)) (fun hp => ?_) (fun hp => ?_)
      · refine x_aload_n X dX7_deliver_68 hl 2 rfl rfl ?_
        refine q_getR (ci := 7) X V inX7 rfl (by decide) rfl 26 (by decide) rfl (tw_3 55 rfl rfl) rfl dX7_deliver_69 hp (fun r69_18 hp => ?_)
        refine lv_iconst (v := (0 : Int32)) hx hb dX7_deliver_72 (by decide) ?_
        obtain ⟨b73_19, e0, hp2⟩ := q_nn_of hp
        clear hp; subst e0; have hp := hp2; clear hp2
        refine q_iald X V dX7_deliver_73 hp (fun v73_20 hp => ?_)
        refine lv_iconst (v := (2 : Int32)) hx hb dX7_deliver_74 (by decide) ?_
        refine q_ifn hp (lv_icmp_ne (tgt := 87) hx hb dX7_deliver_75 (by decide)) (fun hp => ?_) (fun hp => ?_)
        · refine x_aload_n X dX7_deliver_87 hl 2 rfl rfl ?_
          refine x_iload_n X dX7_deliver_88 hl 1 rfl rfl ?_
          refine x_iload_n X dX7_deliver_89 hl 0 rfl rfl ?_
          obtain ⟨hk, hp⟩ := q_is_of hp
          obtain ⟨⟨G, u⟩, hq, hp⟩ := q_cl_of hp
          dsimp only at hp
          refine q_gov (cells' := 0) (slots' := 0) (va_runV (As := [.int v22_8, .int v39_13]) (rest := []) X.1 (cX7_store l E hq) (tw_cwV 2 X.1.2.2.2.2 (tw_4 10 rfl rfl) kX7_store.2.1 kX7_store.2.2.1 kX7_store.2.2.2 kX7_store.1 rfl rfl hX7_store ⟨Nat.le_of_ble_eq_true rfl, Nat.le_of_ble_eq_true rfl⟩) (mm_preV X V rfl (by decide) rfl hk) rfl rfl hl.1 rfl (lv_room (Nat.le_of_ble_eq_true rfl)) dX7_deliver_90 ⟨by decide, by decide⟩) V ⟨rfl, rfl⟩ (fun H locs V => ?_)
          refine lv_iconst (v := (1 : Int32)) hx hb dX7_deliver_93 (by decide) ?_
          exact q_iret X V hr ⟨by decide, by decide⟩ dX7_deliver_94 hp
        · refine x_aload_n X dX7_deliver_78 hl 2 rfl rfl ?_
          refine x_iload_n X dX7_deliver_79 hl 1 rfl rfl ?_
          refine x_iload_n X dX7_deliver_80 hl 0 rfl rfl ?_
          obtain ⟨hk, hp⟩ := q_is_of hp
          obtain ⟨⟨G, u⟩, hq, hp⟩ := q_cl_of hp
          dsimp only at hp
          refine q_gov (cells' := 0) (slots' := 0) (va_runV (As := [.int v22_8, .int v39_13]) (rest := []) X.1 (cX7_collect l E hq) (tw_cwV 2 X.1.2.2.2.2 (tw_4 2 rfl rfl) kX7_collect.2.1 kX7_collect.2.2.1 kX7_collect.2.2.2 kX7_collect.1 rfl rfl hX7_collect ⟨Nat.le_of_ble_eq_true rfl, Nat.le_of_ble_eq_true rfl⟩) (mm_preV X V rfl (by decide) rfl hk) rfl rfl hl.1 rfl (lv_room (Nat.le_of_ble_eq_true rfl)) dX7_deliver_81 ⟨by decide, by decide⟩) V ⟨rfl, rfl⟩ (fun H locs V => ?_)
          refine lv_goto (tgt := 93) hx hb dX7_deliver_84 (by decide) ?_
          refine lv_iconst (v := (1 : Int32)) hx hb dX7_deliver_93 (by decide) ?_
          exact q_iret X V hr ⟨by decide, by decide⟩ dX7_deliver_94 hp
      · refine x_aload_n X dX7_deliver_59 hl 2 rfl rfl ?_
        refine x_iload_n X dX7_deliver_60 hl 1 rfl rfl ?_
        refine x_iload_n X dX7_deliver_61 hl 0 rfl rfl ?_
        obtain ⟨hk, hp⟩ := q_is_of hp
        obtain ⟨⟨G, u⟩, hq, hp⟩ := q_cl_of hp
        dsimp only at hp
        refine q_gov (cells' := 0) (slots' := 0) (va_runV (As := [.int v22_8, .int v39_13]) (rest := []) X.1 (cX7_answer l E hq) (tw_cwV 2 X.1.2.2.2.2 (tw_3 232 rfl rfl) kX7_answer.2.1 kX7_answer.2.2.1 kX7_answer.2.2.2 kX7_answer.1 rfl rfl hX7_answer ⟨Nat.le_of_ble_eq_true rfl, Nat.le_of_ble_eq_true rfl⟩) (mm_preV X V rfl (by decide) rfl hk) rfl rfl hl.1 rfl (lv_room (Nat.le_of_ble_eq_true rfl)) dX7_deliver_62 ⟨by decide, by decide⟩) V ⟨rfl, rfl⟩ (fun H locs V => ?_)
        refine lv_goto (tgt := 93) hx hb dX7_deliver_65 (by decide) ?_
        refine lv_iconst (v := (1 : Int32)) hx hb dX7_deliver_93 (by decide) ?_
        exact q_iret X V hr ⟨by decide, by decide⟩ dX7_deliver_94 hp
    · refine lv_iconst (v := (0 : Int32)) hx hb dX7_deliver_30 (by decide) ?_
      exact q_iret X V hr ⟨by decide, by decide⟩ dX7_deliver_31 hp
  · refine lv_iconst (v := (-1 : Int32)) hx hb dX7_deliver_8 (by decide) ?_
    exact q_iret X V hr ⟨by decide, by decide⟩ dX7_deliver_9 hp
theorem cX7_deliver (l : Launch) (E : mm_E) {N a0 : Nat} {G : mm_M} {x1 : Int32} {res : mm_M × Int32} (hp : pX7_deliver_0 N a0 G x1 = some res) : Met l yX7_deliver (Cond.code yX7_deliver prog_9_method_36_code 4 (Option.some .int) :: tw_T) rX7_deliver (mm_Pc E G [.ref a0, .int x1]) (mm_Qi E res.1 res.2) 0 0 (mm_A E) :=
  mm_met (own := "XorOverlayModel") E G [.inr (some a0), .inl x1] (by decide) rfl rfl (Nat.le_of_ble_eq_true rfl) (fun p e s m args below meth c ls X hr hi V hl => bX7_deliver_0 X hr V hl hp)
abbrev yX7_drop : MethodName := ⟨"XorOverlayModel", "drop", "(I)Z"⟩
abbrev rX7_drop : Room := { frames := 1, cells := 0, slots := 0, locals := 22 }
theorem kX7_drop : Cond.code yX7_drop prog_9_method_37_code 2 (Option.some .boolean) ∈ tw_T ∧ Cond.instanceMethod yX7_drop ∈ tw_T ∧ Cond.selects "XorOverlayModel" yX7_drop yX7_drop ∈ tw_T ∧ Cond.initialized "XorOverlayModel" ∈ tw_T := ⟨(tw_4 17 rfl rfl), (tw_4 15 rfl rfl), (tw_4 16 rfl rfl), (tw_1 3 rfl rfl)⟩
theorem hX7_drop : yX7_drop.cls = "XorOverlayModel" ∧ yX7_drop.cls ≠ "java/lang/invoke/MethodHandle" ∧ yX7_drop.cls ≠ "java/lang/invoke/VarHandle" ∧ (parseMethodDescriptor yX7_drop.desc).map (fun d => d.parameters.length) = some 1 := by decide +kernel
theorem dX7_drop_0 : decode prog_9_method_37_code 0 = .ok (.aload_n 0, 1) := by decide +kernel
theorem dX7_drop_1 : decode prog_9_method_37_code 1 = .ok (.iload_n 1, 1) := by decide +kernel
theorem dX7_drop_2 : decode prog_9_method_37_code 2 = .ok (.invokevirtual 178, 3) := by decide +kernel
theorem dX7_drop_5 : decode prog_9_method_37_code 5 = .ok (.ifCond .ne 5, 3) := by decide +kernel
theorem dX7_drop_8 : decode prog_9_method_37_code 8 = .ok (.iconst 0, 1) := by decide +kernel
theorem dX7_drop_9 : decode prog_9_method_37_code 9 = .ok (.ireturn, 1) := by decide +kernel
theorem dX7_drop_10 : decode prog_9_method_37_code 10 = .ok (.aload_n 0, 1) := by decide +kernel
theorem dX7_drop_11 : decode prog_9_method_37_code 11 = .ok (.iload_n 1, 1) := by decide +kernel
theorem dX7_drop_12 : decode prog_9_method_37_code 12 = .ok (.invokevirtual 181, 3) := by decide +kernel
theorem dX7_drop_15 : decode prog_9_method_37_code 15 = .ok (.iconst 1, 1) := by decide +kernel
theorem dX7_drop_16 : decode prog_9_method_37_code 16 = .ok (.ireturn, 1) := by decide +kernel
def pX7_drop_0 (N a0 : Nat) (G : mm_M) (x1 : Int32) : Option (mm_M × Int32) :=
  q_is G a0 8 <|
  q_cl (pX7_inLine_0 N a0 G x1) fun G v2_2 =>
  if v2_2 = 0 then
    some (G, (0 : Int32))
  else
    q_is G a0 8 <|
    q_cl (pX7_takeOut_0 N a0 G x1) fun G _ =>
    some (G, (1 : Int32))
set_option maxRecDepth 100000 in
set_option maxHeartbeats 4000000 in
theorem bX7_drop_0 {p : Program} {l : Launch} {e : Env} {s : State} {m : MethodId} {args : Array Value} {below : List Frame} {meth : Method} {c : Code} {E : mm_E} {N a0 : Nat} {res : mm_M × Int32} (X : mm_X p s m args meth c prog_9_method_37_code 2 "XorOverlayModel" tw_T E) (hr : meth.sig.returnType = (Option.some .boolean)) {G : mm_M} {H : Heap} {locs : List Loc} {ls : Array Slot} {x1 : Int32} (V : mm_V E s G H locs) (hl : lx_has ls 2 [(0, .inr (some a0)), (1, .inl x1)]) (hp : pX7_drop_0 N a0 G x1 = some res) : W p l e rX7_drop s m args below meth c H locs 0 0 (MQ below (mm_Qi E res.1 res.2) args s 0 0 (mm_A E)) (F0 m 0 ls []) := by
  have hx := X.1.1
  have hb := X.1.2.1
  unfold pX7_drop_0 at hp
  refine x_aload_n X dX7_drop_0 hl 0 rfl rfl ?_
  refine x_iload_n X dX7_drop_1 hl 1 rfl rfl ?_
  obtain ⟨hk, hp⟩ := q_is_of hp
  obtain ⟨⟨G, v2_2⟩, hq, hp⟩ := q_cl_of hp
  dsimp only at hp
  refine q_goi (cells' := 0) (slots' := 0) (va_runV (As := [.int x1]) (rest := []) X.1 (cX7_inLine l E hq) (tw_cwV 1 X.1.2.2.2.2 (tw_3 224 rfl rfl) kX7_inLine.2.1 kX7_inLine.2.2.1 kX7_inLine.2.2.2 kX7_inLine.1 rfl rfl hX7_inLine ⟨Nat.le_of_ble_eq_true rfl, Nat.le_of_ble_eq_true rfl⟩) (mm_preV X V rfl (by decide) rfl hk) rfl rfl hl.1 rfl (lv_room (Nat.le_of_ble_eq_true rfl)) dX7_drop_2 ⟨by decide, by decide⟩) V ⟨rfl, rfl⟩ (fun H locs V => ?_)
  refine q_ifn hp (lv_if_ne (tgt := 10) hx hb dX7_drop_5 (by decide)) (fun hp => ?_) (fun hp => ?_)
  · refine x_aload_n X dX7_drop_10 hl 0 rfl rfl ?_
    refine x_iload_n X dX7_drop_11 hl 1 rfl rfl ?_
    obtain ⟨hk, hp⟩ := q_is_of hp
    obtain ⟨⟨G, u⟩, hq, hp⟩ := q_cl_of hp
    dsimp only at hp
    refine q_gov (cells' := 0) (slots' := 0) (va_runV (As := [.int x1]) (rest := []) X.1 (cX7_takeOut l E hq) (tw_cwV 1 X.1.2.2.2.2 (tw_3 228 rfl rfl) kX7_takeOut.2.1 kX7_takeOut.2.2.1 kX7_takeOut.2.2.2 kX7_takeOut.1 rfl rfl hX7_takeOut ⟨Nat.le_of_ble_eq_true rfl, Nat.le_of_ble_eq_true rfl⟩) (mm_preV X V rfl (by decide) rfl hk) rfl rfl hl.1 rfl (lv_room (Nat.le_of_ble_eq_true rfl)) dX7_drop_12 ⟨by decide, by decide⟩) V ⟨rfl, rfl⟩ (fun H locs V => ?_)
    refine lv_iconst (v := (1 : Int32)) hx hb dX7_drop_15 (by decide) ?_
    exact q_zret X V hr rfl ⟨by decide, by decide⟩ dX7_drop_16 hp
  · refine lv_iconst (v := (0 : Int32)) hx hb dX7_drop_8 (by decide) ?_
    exact q_zret X V hr rfl ⟨by decide, by decide⟩ dX7_drop_9 hp
theorem cX7_drop (l : Launch) (E : mm_E) {N a0 : Nat} {G : mm_M} {x1 : Int32} {res : mm_M × Int32} (hp : pX7_drop_0 N a0 G x1 = some res) : Met l yX7_drop (Cond.code yX7_drop prog_9_method_37_code 2 (Option.some .boolean) :: tw_T) rX7_drop (mm_Pc E G [.ref a0, .int x1]) (mm_Qi E res.1 res.2) 0 0 (mm_A E) :=
  mm_met (own := "XorOverlayModel") E G [.inr (some a0), .inl x1] (by decide) rfl rfl (Nat.le_of_ble_eq_true rfl) (fun p e s m args below meth c ls X hr hi V hl => bX7_drop_0 X hr V hl hp)
abbrev yX7_clock : MethodName := ⟨"XorOverlayModel", "clock", "()I"⟩
abbrev rX7_clock : Room := { frames := 0, cells := 0, slots := 0, locals := 0 }
theorem kX7_clock : Cond.code yX7_clock prog_9_method_38_code 1 (Option.some .int) ∈ tw_T ∧ Cond.instanceMethod yX7_clock ∈ tw_T ∧ Cond.selects "XorOverlayModel" yX7_clock yX7_clock ∈ tw_T ∧ Cond.initialized "XorOverlayModel" ∈ tw_T := ⟨(tw_4 21 rfl rfl), (tw_4 19 rfl rfl), (tw_4 20 rfl rfl), (tw_1 3 rfl rfl)⟩
theorem hX7_clock : yX7_clock.cls = "XorOverlayModel" ∧ yX7_clock.cls ≠ "java/lang/invoke/MethodHandle" ∧ yX7_clock.cls ≠ "java/lang/invoke/VarHandle" ∧ (parseMethodDescriptor yX7_clock.desc).map (fun d => d.parameters.length) = some 0 := by decide +kernel
theorem dX7_clock_0 : decode prog_9_method_38_code 0 = .ok (.aload_n 0, 1) := by decide +kernel
theorem dX7_clock_1 : decode prog_9_method_38_code 1 = .ok (.getfield 99, 3) := by decide +kernel
theorem dX7_clock_4 : decode prog_9_method_38_code 4 = .ok (.ireturn, 1) := by decide +kernel
def pX7_clock_0 (N a0 : Nat) (G : mm_M) : Option (mm_M × Int32) :=
  q_gI G a0 8 0 fun v1_1 =>
  some (G, v1_1)
set_option maxRecDepth 100000 in
set_option maxHeartbeats 4000000 in
theorem bX7_clock_0 {p : Program} {l : Launch} {e : Env} {s : State} {m : MethodId} {args : Array Value} {below : List Frame} {meth : Method} {c : Code} {E : mm_E} {N a0 : Nat} {res : mm_M × Int32} (X : mm_X p s m args meth c prog_9_method_38_code 1 "XorOverlayModel" tw_T E) (hr : meth.sig.returnType = (Option.some .int)) {G : mm_M} {H : Heap} {locs : List Loc} {ls : Array Slot} (V : mm_V E s G H locs) (hl : lx_has ls 1 [(0, .inr (some a0))]) (hp : pX7_clock_0 N a0 G = some res) : W p l e rX7_clock s m args below meth c H locs 0 0 (MQ below (mm_Qi E res.1 res.2) args s 0 0 (mm_A E)) (F0 m 0 ls []) := by
  have hx := X.1.1
  have hb := X.1.2.1
  unfold pX7_clock_0 at hp
  refine x_aload_n X dX7_clock_0 hl 0 rfl rfl ?_
  refine q_getI (ci := 7) X V inX7 rfl (by decide) rfl 0 (by decide) rfl (tw_3 29 rfl rfl) rfl dX7_clock_1 hp (fun v1_1 hp => ?_)
  exact q_iret X V hr ⟨by decide, by decide⟩ dX7_clock_4 hp
theorem cX7_clock (l : Launch) (E : mm_E) {N a0 : Nat} {G : mm_M} {res : mm_M × Int32} (hp : pX7_clock_0 N a0 G = some res) : Met l yX7_clock (Cond.code yX7_clock prog_9_method_38_code 1 (Option.some .int) :: tw_T) rX7_clock (mm_Pc E G [.ref a0]) (mm_Qi E res.1 res.2) 0 0 (mm_A E) :=
  mm_met (own := "XorOverlayModel") E G [.inr (some a0)] (by decide) rfl rfl (Nat.le_of_ble_eq_true rfl) (fun p e s m args below meth c ls X hr hi V hl => bX7_clock_0 X hr V hl hp)
abbrev yX7_waiting : MethodName := ⟨"XorOverlayModel", "waiting", "()I"⟩
abbrev rX7_waiting : Room := { frames := 0, cells := 0, slots := 0, locals := 0 }
theorem kX7_waiting : Cond.code yX7_waiting prog_9_method_39_code 1 (Option.some .int) ∈ tw_T ∧ Cond.instanceMethod yX7_waiting ∈ tw_T ∧ Cond.selects "XorOverlayModel" yX7_waiting yX7_waiting ∈ tw_T ∧ Cond.initialized "XorOverlayModel" ∈ tw_T := ⟨(tw_4 25 rfl rfl), (tw_4 23 rfl rfl), (tw_4 24 rfl rfl), (tw_1 3 rfl rfl)⟩
theorem hX7_waiting : yX7_waiting.cls = "XorOverlayModel" ∧ yX7_waiting.cls ≠ "java/lang/invoke/MethodHandle" ∧ yX7_waiting.cls ≠ "java/lang/invoke/VarHandle" ∧ (parseMethodDescriptor yX7_waiting.desc).map (fun d => d.parameters.length) = some 0 := by decide +kernel
theorem dX7_waiting_0 : decode prog_9_method_39_code 0 = .ok (.aload_n 0, 1) := by decide +kernel
theorem dX7_waiting_1 : decode prog_9_method_39_code 1 = .ok (.getfield 115, 3) := by decide +kernel
theorem dX7_waiting_4 : decode prog_9_method_39_code 4 = .ok (.ireturn, 1) := by decide +kernel
def pX7_waiting_0 (N a0 : Nat) (G : mm_M) : Option (mm_M × Int32) :=
  q_gI G a0 8 24 fun v1_1 =>
  some (G, v1_1)
set_option maxRecDepth 100000 in
set_option maxHeartbeats 4000000 in
theorem bX7_waiting_0 {p : Program} {l : Launch} {e : Env} {s : State} {m : MethodId} {args : Array Value} {below : List Frame} {meth : Method} {c : Code} {E : mm_E} {N a0 : Nat} {res : mm_M × Int32} (X : mm_X p s m args meth c prog_9_method_39_code 1 "XorOverlayModel" tw_T E) (hr : meth.sig.returnType = (Option.some .int)) {G : mm_M} {H : Heap} {locs : List Loc} {ls : Array Slot} (V : mm_V E s G H locs) (hl : lx_has ls 1 [(0, .inr (some a0))]) (hp : pX7_waiting_0 N a0 G = some res) : W p l e rX7_waiting s m args below meth c H locs 0 0 (MQ below (mm_Qi E res.1 res.2) args s 0 0 (mm_A E)) (F0 m 0 ls []) := by
  have hx := X.1.1
  have hb := X.1.2.1
  unfold pX7_waiting_0 at hp
  refine x_aload_n X dX7_waiting_0 hl 0 rfl rfl ?_
  refine q_getI (ci := 7) X V inX7 rfl (by decide) rfl 24 (by decide) rfl (tw_3 53 rfl rfl) rfl dX7_waiting_1 hp (fun v1_1 hp => ?_)
  exact q_iret X V hr ⟨by decide, by decide⟩ dX7_waiting_4 hp
theorem cX7_waiting (l : Launch) (E : mm_E) {N a0 : Nat} {G : mm_M} {res : mm_M × Int32} (hp : pX7_waiting_0 N a0 G = some res) : Met l yX7_waiting (Cond.code yX7_waiting prog_9_method_39_code 1 (Option.some .int) :: tw_T) rX7_waiting (mm_Pc E G [.ref a0]) (mm_Qi E res.1 res.2) 0 0 (mm_A E) :=
  mm_met (own := "XorOverlayModel") E G [.inr (some a0)] (by decide) rfl rfl (Nat.le_of_ble_eq_true rfl) (fun p e s m args below meth c ls X hr hi V hl => bX7_waiting_0 X hr V hl hp)
abbrev yX7_datagram : MethodName := ⟨"XorOverlayModel", "datagram", "(II)I"⟩
abbrev rX7_datagram : Room := { frames := 1, cells := 0, slots := 0, locals := 21 }
theorem kX7_datagram : Cond.code yX7_datagram prog_9_method_40_code 3 (Option.some .int) ∈ tw_T ∧ Cond.instanceMethod yX7_datagram ∈ tw_T ∧ Cond.selects "XorOverlayModel" yX7_datagram yX7_datagram ∈ tw_T ∧ Cond.initialized "XorOverlayModel" ∈ tw_T := ⟨(tw_4 29 rfl rfl), (tw_4 27 rfl rfl), (tw_4 28 rfl rfl), (tw_1 3 rfl rfl)⟩
theorem hX7_datagram : yX7_datagram.cls = "XorOverlayModel" ∧ yX7_datagram.cls ≠ "java/lang/invoke/MethodHandle" ∧ yX7_datagram.cls ≠ "java/lang/invoke/VarHandle" ∧ (parseMethodDescriptor yX7_datagram.desc).map (fun d => d.parameters.length) = some 2 := by decide +kernel
theorem dX7_datagram_0 : decode prog_9_method_40_code 0 = .ok (.aload_n 0, 1) := by decide +kernel
theorem dX7_datagram_1 : decode prog_9_method_40_code 1 = .ok (.iload_n 1, 1) := by decide +kernel
theorem dX7_datagram_2 : decode prog_9_method_40_code 2 = .ok (.invokevirtual 178, 3) := by decide +kernel
theorem dX7_datagram_5 : decode prog_9_method_40_code 5 = .ok (.ifCond .eq 27, 3) := by decide +kernel
theorem dX7_datagram_8 : decode prog_9_method_40_code 8 = .ok (.iload_n 2, 1) := by decide +kernel
theorem dX7_datagram_9 : decode prog_9_method_40_code 9 = .ok (.ifCond .lt 23, 3) := by decide +kernel
theorem dX7_datagram_12 : decode prog_9_method_40_code 12 = .ok (.iload_n 2, 1) := by decide +kernel
theorem dX7_datagram_13 : decode prog_9_method_40_code 13 = .ok (.bipush 11, 2) := by decide +kernel
theorem dX7_datagram_15 : decode prog_9_method_40_code 15 = .ok (.if_icmp .gt 17, 3) := by decide +kernel
theorem dX7_datagram_18 : decode prog_9_method_40_code 18 = .ok (.aload_n 0, 1) := by decide +kernel
theorem dX7_datagram_19 : decode prog_9_method_40_code 19 = .ok (.getfield 71, 3) := by decide +kernel
theorem dX7_datagram_22 : decode prog_9_method_40_code 22 = .ok (.bipush 12, 2) := by decide +kernel
theorem dX7_datagram_24 : decode prog_9_method_40_code 24 = .ok (.iload_n 1, 1) := by decide +kernel
theorem dX7_datagram_25 : decode prog_9_method_40_code 25 = .ok (.imul, 1) := by decide +kernel
theorem dX7_datagram_26 : decode prog_9_method_40_code 26 = .ok (.iload_n 2, 1) := by decide +kernel
theorem dX7_datagram_27 : decode prog_9_method_40_code 27 = .ok (.iadd, 1) := by decide +kernel
theorem dX7_datagram_28 : decode prog_9_method_40_code 28 = .ok (.iaload, 1) := by decide +kernel
theorem dX7_datagram_29 : decode prog_9_method_40_code 29 = .ok (.goto 4, 3) := by decide +kernel
theorem dX7_datagram_32 : decode prog_9_method_40_code 32 = .ok (.iconst (-1), 1) := by decide +kernel
theorem dX7_datagram_33 : decode prog_9_method_40_code 33 = .ok (.ireturn, 1) := by decide +kernel
def pX7_datagram_0 (N a0 : Nat) (G : mm_M) (x1 : Int32) (x2 : Int32) : Option (mm_M × Int32) :=
  q_is G a0 8 <|
  q_cl (pX7_inLine_0 N a0 G x1) fun G v2_2 =>
  if v2_2 = 0 then
    some (G, (-1 : Int32))
  else
    if x2 < 0 then
      some (G, (-1 : Int32))
    else
      if (11 : Int32) < x2 then
        some (G, (-1 : Int32))
      else
        q_gR G a0 8 25 fun r19_3 =>
        q_nn r19_3 fun b28_4 =>
        q_aI G b28_4 101 (((12 : Int32) * x1) + x2) fun v28_5 =>
        some (G, v28_5)
set_option maxRecDepth 100000 in
set_option maxHeartbeats 4000000 in
theorem bX7_datagram_0 {p : Program} {l : Launch} {e : Env} {s : State} {m : MethodId} {args : Array Value} {below : List Frame} {meth : Method} {c : Code} {E : mm_E} {N a0 : Nat} {res : mm_M × Int32} (X : mm_X p s m args meth c prog_9_method_40_code 3 "XorOverlayModel" tw_T E) (hr : meth.sig.returnType = (Option.some .int)) {G : mm_M} {H : Heap} {locs : List Loc} {ls : Array Slot} {x1 : Int32} {x2 : Int32} (V : mm_V E s G H locs) (hl : lx_has ls 3 [(0, .inr (some a0)), (1, .inl x1), (2, .inl x2)]) (hp : pX7_datagram_0 N a0 G x1 x2 = some res) : W p l e rX7_datagram s m args below meth c H locs 0 0 (MQ below (mm_Qi E res.1 res.2) args s 0 0 (mm_A E)) (F0 m 0 ls []) := by
  have hx := X.1.1
  have hb := X.1.2.1
  unfold pX7_datagram_0 at hp
  refine x_aload_n X dX7_datagram_0 hl 0 rfl rfl ?_
  refine x_iload_n X dX7_datagram_1 hl 1 rfl rfl ?_
  obtain ⟨hk, hp⟩ := q_is_of hp
  obtain ⟨⟨G, v2_2⟩, hq, hp⟩ := q_cl_of hp
  dsimp only at hp
  refine q_goi (cells' := 0) (slots' := 0) (va_runV (As := [.int x1]) (rest := []) X.1 (cX7_inLine l E hq) (tw_cwV 1 X.1.2.2.2.2 (tw_3 224 rfl rfl) kX7_inLine.2.1 kX7_inLine.2.2.1 kX7_inLine.2.2.2 kX7_inLine.1 rfl rfl hX7_inLine ⟨Nat.le_of_ble_eq_true rfl, Nat.le_of_ble_eq_true rfl⟩) (mm_preV X V rfl (by decide) rfl hk) rfl rfl hl.1 rfl (lv_room (Nat.le_of_ble_eq_true rfl)) dX7_datagram_2 ⟨by decide, by decide⟩) V ⟨rfl, rfl⟩ (fun H locs V => ?_)
  refine q_if hp (lv_if_eq (tgt := 32) hx hb dX7_datagram_5 (by decide)) (fun hp => ?_) (fun hp => ?_)
  · refine lv_iconst (v := (-1 : Int32)) hx hb dX7_datagram_32 (by decide) ?_
    exact q_iret X V hr ⟨by decide, by decide⟩ dX7_datagram_33 hp
  · refine x_iload_n X dX7_datagram_8 hl 2 rfl rfl ?_
    refine q_if hp (lv_if_lt (tgt := 32) hx hb dX7_datagram_9 (by decide)) (fun hp => ?_) (fun hp => ?_)
    · refine lv_iconst (v := (-1 : Int32)) hx hb dX7_datagram_32 (by decide) ?_
      exact q_iret X V hr ⟨by decide, by decide⟩ dX7_datagram_33 hp
    · refine x_iload_n X dX7_datagram_12 hl 2 rfl rfl ?_
      refine lv_bipush (v := (11 : Int32)) hx hb dX7_datagram_13 (by decide) ?_
      refine q_if hp (lv_icmp_gt (tgt := 32) hx hb dX7_datagram_15 (by decide)) (fun hp => ?_) (fun hp => ?_)
      · refine lv_iconst (v := (-1 : Int32)) hx hb dX7_datagram_32 (by decide) ?_
        exact q_iret X V hr ⟨by decide, by decide⟩ dX7_datagram_33 hp
      · refine x_aload_n X dX7_datagram_18 hl 0 rfl rfl ?_
        refine q_getR (ci := 7) X V inX7 rfl (by decide) rfl 25 (by decide) rfl (tw_3 54 rfl rfl) rfl dX7_datagram_19 hp (fun r19_3 hp => ?_)
        refine lv_bipush (v := (12 : Int32)) hx hb dX7_datagram_22 (by decide) ?_
        refine x_iload_n X dX7_datagram_24 hl 1 rfl rfl ?_
        refine lv_imul hx hb dX7_datagram_25 ?_
        refine x_iload_n X dX7_datagram_26 hl 2 rfl rfl ?_
        refine lv_iadd hx hb dX7_datagram_27 ?_
        obtain ⟨b28_4, e0, hp2⟩ := q_nn_of hp
        clear hp; subst e0; have hp := hp2; clear hp2
        refine q_iald X V dX7_datagram_28 hp (fun v28_5 hp => ?_)
        refine lv_goto (tgt := 33) hx hb dX7_datagram_29 (by decide) ?_
        exact q_iret X V hr ⟨by decide, by decide⟩ dX7_datagram_33 hp
theorem cX7_datagram (l : Launch) (E : mm_E) {N a0 : Nat} {G : mm_M} {x1 : Int32} {x2 : Int32} {res : mm_M × Int32} (hp : pX7_datagram_0 N a0 G x1 x2 = some res) : Met l yX7_datagram (Cond.code yX7_datagram prog_9_method_40_code 3 (Option.some .int) :: tw_T) rX7_datagram (mm_Pc E G [.ref a0, .int x1, .int x2]) (mm_Qi E res.1 res.2) 0 0 (mm_A E) :=
  mm_met (own := "XorOverlayModel") E G [.inr (some a0), .inl x1, .inl x2] (by decide) rfl rfl (Nat.le_of_ble_eq_true rfl) (fun p e s m args below meth c ls X hr hi V hl => bX7_datagram_0 X hr V hl hp)
abbrev yX7_lookup : MethodName := ⟨"XorOverlayModel", "lookup", "(I)I"⟩
abbrev rX7_lookup : Room := { frames := 2, cells := 0, slots := 0, locals := 44 }
theorem kX7_lookup : Cond.code yX7_lookup prog_9_method_41_code 3 (Option.some .int) ∈ tw_T ∧ Cond.instanceMethod yX7_lookup ∈ tw_T ∧ Cond.selects "XorOverlayModel" yX7_lookup yX7_lookup ∈ tw_T ∧ Cond.initialized "XorOverlayModel" ∈ tw_T := ⟨(tw_4 33 rfl rfl), (tw_4 31 rfl rfl), (tw_4 32 rfl rfl), (tw_1 3 rfl rfl)⟩
theorem hX7_lookup : yX7_lookup.cls = "XorOverlayModel" ∧ yX7_lookup.cls ≠ "java/lang/invoke/MethodHandle" ∧ yX7_lookup.cls ≠ "java/lang/invoke/VarHandle" ∧ (parseMethodDescriptor yX7_lookup.desc).map (fun d => d.parameters.length) = some 1 := by decide +kernel
theorem dX7_lookup_0 : decode prog_9_method_41_code 0 = .ok (.aload_n 0, 1) := by decide +kernel
theorem dX7_lookup_1 : decode prog_9_method_41_code 1 = .ok (.iload_n 1, 1) := by decide +kernel
theorem dX7_lookup_2 : decode prog_9_method_41_code 2 = .ok (.invokevirtual 152, 3) := by decide +kernel
theorem dX7_lookup_5 : decode prog_9_method_41_code 5 = .ok (.istore_n 2, 1) := by decide +kernel
theorem dX7_lookup_6 : decode prog_9_method_41_code 6 = .ok (.iload_n 2, 1) := by decide +kernel
theorem dX7_lookup_7 : decode prog_9_method_41_code 7 = .ok (.ifCond .ge 7, 3) := by decide +kernel
theorem dX7_lookup_10 : decode prog_9_method_41_code 10 = .ok (.iconst (-1), 1) := by decide +kernel
theorem dX7_lookup_11 : decode prog_9_method_41_code 11 = .ok (.goto 9, 3) := by decide +kernel
theorem dX7_lookup_14 : decode prog_9_method_41_code 14 = .ok (.aload_n 0, 1) := by decide +kernel
theorem dX7_lookup_15 : decode prog_9_method_41_code 15 = .ok (.getfield 44, 3) := by decide +kernel
theorem dX7_lookup_18 : decode prog_9_method_41_code 18 = .ok (.iload_n 2, 1) := by decide +kernel
theorem dX7_lookup_19 : decode prog_9_method_41_code 19 = .ok (.iaload, 1) := by decide +kernel
theorem dX7_lookup_20 : decode prog_9_method_41_code 20 = .ok (.ireturn, 1) := by decide +kernel
def pX7_lookup_0 (N a0 : Nat) (G : mm_M) (x1 : Int32) : Option (mm_M × Int32) :=
  q_is G a0 8 <|
  q_cl (pX7_at_0 N a0 G x1) fun G v2_2 =>
  if 0 ≤ v2_2 then
    q_gR G a0 8 15 fun r15_3 =>
    q_nn r15_3 fun b19_4 =>
    q_aI G b19_4 101 v2_2 fun v19_5 =>
    some (G, v19_5)
  else
    some (G, (-1 : Int32))
set_option maxRecDepth 100000 in
set_option maxHeartbeats 4000000 in
theorem bX7_lookup_0 {p : Program} {l : Launch} {e : Env} {s : State} {m : MethodId} {args : Array Value} {below : List Frame} {meth : Method} {c : Code} {E : mm_E} {N a0 : Nat} {res : mm_M × Int32} (X : mm_X p s m args meth c prog_9_method_41_code 3 "XorOverlayModel" tw_T E) (hr : meth.sig.returnType = (Option.some .int)) {G : mm_M} {H : Heap} {locs : List Loc} {ls : Array Slot} {x1 : Int32} (V : mm_V E s G H locs) (hl : lx_has ls 3 [(0, .inr (some a0)), (1, .inl x1)]) (hp : pX7_lookup_0 N a0 G x1 = some res) : W p l e rX7_lookup s m args below meth c H locs 0 0 (MQ below (mm_Qi E res.1 res.2) args s 0 0 (mm_A E)) (F0 m 0 ls []) := by
  have hx := X.1.1
  have hb := X.1.2.1
  unfold pX7_lookup_0 at hp
  refine x_aload_n X dX7_lookup_0 hl 0 rfl rfl ?_
  refine x_iload_n X dX7_lookup_1 hl 1 rfl rfl ?_
  obtain ⟨hk, hp⟩ := q_is_of hp
  obtain ⟨⟨G, v2_2⟩, hq, hp⟩ := q_cl_of hp
  dsimp only at hp
  refine q_goi (cells' := 0) (slots' := 0) (va_runV (As := [.int x1]) (rest := []) X.1 (cX7_at l E hq) (tw_cwV 1 X.1.2.2.2.2 (tw_3 116 rfl rfl) kX7_at.2.1 kX7_at.2.2.1 kX7_at.2.2.2 kX7_at.1 rfl rfl hX7_at ⟨Nat.le_of_ble_eq_true rfl, Nat.le_of_ble_eq_true rfl⟩) (mm_preV X V rfl (by decide) rfl hk) rfl rfl hl.1 rfl (lv_room (Nat.le_of_ble_eq_true rfl)) dX7_lookup_2 ⟨by decide, by decide⟩) V ⟨rfl, rfl⟩ (fun H locs V => ?_)
  refine x_istore_n (lst' := [(2, .inl v2_2), (0, .inr (some a0)), (1, .inl x1)]) X dX7_lookup_5 hl rfl (by decide) rfl (fun ls hl => ?_)
  refine x_iload_n X dX7_lookup_6 hl 0 rfl rfl ?_
  refine q_if hp (lv_if_ge (tgt := 14) hx hb dX7_lookup_7 (by decide)) (fun hp => ?_) (fun hp => ?_)
  · refine x_aload_n X dX7_lookup_14 hl 1 rfl rfl ?_
    refine q_getR (ci := 7) X V inX7 rfl (by decide) rfl 15 (by decide) rfl (tw_3 44 rfl rfl) rfl dX7_lookup_15 hp (fun r15_3 hp => ?_)
    refine x_iload_n X dX7_lookup_18 hl 0 rfl rfl ?_
    obtain ⟨b19_4, e0, hp2⟩ := q_nn_of hp
    clear hp; subst e0; have hp := hp2; clear hp2
    refine q_iald X V dX7_lookup_19 hp (fun v19_5 hp => ?_)
    exact q_iret X V hr ⟨by decide, by decide⟩ dX7_lookup_20 hp
  · refine lv_iconst (v := (-1 : Int32)) hx hb dX7_lookup_10 (by decide) ?_
    refine lv_goto (tgt := 20) hx hb dX7_lookup_11 (by decide) ?_
    exact q_iret X V hr ⟨by decide, by decide⟩ dX7_lookup_20 hp
theorem cX7_lookup (l : Launch) (E : mm_E) {N a0 : Nat} {G : mm_M} {x1 : Int32} {res : mm_M × Int32} (hp : pX7_lookup_0 N a0 G x1 = some res) : Met l yX7_lookup (Cond.code yX7_lookup prog_9_method_41_code 3 (Option.some .int) :: tw_T) rX7_lookup (mm_Pc E G [.ref a0, .int x1]) (mm_Qi E res.1 res.2) 0 0 (mm_A E) :=
  mm_met (own := "XorOverlayModel") E G [.inr (some a0), .inl x1] (by decide) rfl rfl (Nat.le_of_ble_eq_true rfl) (fun p e s m args below meth c ls X hr hi V hl => bX7_lookup_0 X hr V hl hp)
