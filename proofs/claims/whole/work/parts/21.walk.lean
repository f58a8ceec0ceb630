abbrev yX7_candidate : MethodName := ⟨"XorOverlayModel", "candidate", "(II)I"⟩
abbrev rX7_candidate : Room := { frames := 2, cells := 0, slots := 0, locals := 44 }
theorem kX7_candidate : Cond.code yX7_candidate prog_9_method_42_code 5 (Option.some .int) ∈ tw_T ∧ Cond.instanceMethod yX7_candidate ∈ tw_T ∧ Cond.selects "XorOverlayModel" yX7_candidate yX7_candidate ∈ tw_T ∧ Cond.initialized "XorOverlayModel" ∈ tw_T := ⟨(tw_4 37 rfl rfl), (tw_4 35 rfl rfl), (tw_4 36 rfl rfl), (tw_1 3 rfl rfl)⟩
theorem hX7_candidate : yX7_candidate.cls = "XorOverlayModel" ∧ yX7_candidate.cls ≠ "java/lang/invoke/MethodHandle" ∧ yX7_candidate.cls ≠ "java/lang/invoke/VarHandle" ∧ (parseMethodDescriptor yX7_candidate.desc).map (fun d => d.parameters.length) = some 2 := by decide +kernel
theorem dX7_candidate_0 : decode prog_9_method_42_code 0 = .ok (.aload_n 0, 1) := by decide +kernel
theorem dX7_candidate_1 : decode prog_9_method_42_code 1 = .ok (.iload_n 1, 1) := by decide +kernel
theorem dX7_candidate_2 : decode prog_9_method_42_code 2 = .ok (.invokevirtual 152, 3) := by decide +kernel
theorem dX7_candidate_5 : decode prog_9_method_42_code 5 = .ok (.istore_n 3, 1) := by decide +kernel
theorem dX7_candidate_6 : decode prog_9_method_42_code 6 = .ok (.iload_n 3, 1) := by decide +kernel
theorem dX7_candidate_7 : decode prog_9_method_42_code 7 = .ok (.ifCond .lt 22, 3) := by decide +kernel
theorem dX7_candidate_10 : decode prog_9_method_42_code 10 = .ok (.aload_n 0, 1) := by decide +kernel
theorem dX7_candidate_11 : decode prog_9_method_42_code 11 = .ok (.getfield 44, 3) := by decide +kernel
theorem dX7_candidate_14 : decode prog_9_method_42_code 14 = .ok (.iload_n 3, 1) := by decide +kernel
theorem dX7_candidate_15 : decode prog_9_method_42_code 15 = .ok (.iaload, 1) := by decide +kernel
theorem dX7_candidate_16 : decode prog_9_method_42_code 16 = .ok (.ifCond .eq 13, 3) := by decide +kernel
theorem dX7_candidate_19 : decode prog_9_method_42_code 19 = .ok (.iload_n 2, 1) := by decide +kernel
theorem dX7_candidate_20 : decode prog_9_method_42_code 20 = .ok (.ifCond .lt 9, 3) := by decide +kernel
theorem dX7_candidate_23 : decode prog_9_method_42_code 23 = .ok (.iload_n 2, 1) := by decide +kernel
theorem dX7_candidate_24 : decode prog_9_method_42_code 24 = .ok (.bipush 11, 2) := by decide +kernel
theorem dX7_candidate_26 : decode prog_9_method_42_code 26 = .ok (.if_icmp .le 5, 3) := by decide +kernel
theorem dX7_candidate_29 : decode prog_9_method_42_code 29 = .ok (.iconst (-1), 1) := by decide +kernel
theorem dX7_candidate_30 : decode prog_9_method_42_code 30 = .ok (.ireturn, 1) := by decide +kernel
theorem dX7_candidate_31 : decode prog_9_method_42_code 31 = .ok (.aload_n 0, 1) := by decide +kernel
theorem dX7_candidate_32 : decode prog_9_method_42_code 32 = .ok (.iload_n 3, 1) := by decide +kernel
theorem dX7_candidate_33 : decode prog_9_method_42_code 33 = .ok (.iload_n 2, 1) := by decide +kernel
theorem dX7_candidate_34 : decode prog_9_method_42_code 34 = .ok (.invokevirtual 137, 3) := by decide +kernel
theorem dX7_candidate_37 : decode prog_9_method_42_code 37 = .ok (.istore 4, 2) := by decide +kernel
theorem dX7_candidate_39 : decode prog_9_method_42_code 39 = .ok (.iload 4, 2) := by decide +kernel
theorem dX7_candidate_41 : decode prog_9_method_42_code 41 = .ok (.ifCond .ge 7, 3) := by decide +kernel
theorem dX7_candidate_44 : decode prog_9_method_42_code 44 = .ok (.iconst (-1), 1) := by decide +kernel
theorem dX7_candidate_45 : decode prog_9_method_42_code 45 = .ok (.goto 29, 3) := by decide +kernel
theorem dX7_candidate_48 : decode prog_9_method_42_code 48 = .ok (.aload_n 0, 1) := by decide +kernel
theorem dX7_candidate_49 : decode prog_9_method_42_code 49 = .ok (.getfield 7, 3) := by decide +kernel
theorem dX7_candidate_52 : decode prog_9_method_42_code 52 = .ok (.iload 4, 2) := by decide +kernel
theorem dX7_candidate_54 : decode prog_9_method_42_code 54 = .ok (.iaload, 1) := by decide +kernel
theorem dX7_candidate_55 : decode prog_9_method_42_code 55 = .ok (.sipush 256, 3) := by decide +kernel
theorem dX7_candidate_58 : decode prog_9_method_42_code 58 = .ok (.aload_n 0, 1) := by decide +kernel
theorem dX7_candidate_59 : decode prog_9_method_42_code 59 = .ok (.getfield 56, 3) := by decide +kernel
theorem dX7_candidate_62 : decode prog_9_method_42_code 62 = .ok (.bipush 12, 2) := by decide +kernel
theorem dX7_candidate_64 : decode prog_9_method_42_code 64 = .ok (.iload_n 3, 1) := by decide +kernel
theorem dX7_candidate_65 : decode prog_9_method_42_code 65 = .ok (.imul, 1) := by decide +kernel
theorem dX7_candidate_66 : decode prog_9_method_42_code 66 = .ok (.iload 4, 2) := by decide +kernel
theorem dX7_candidate_68 : decode prog_9_method_42_code 68 = .ok (.iadd, 1) := by decide +kernel
theorem dX7_candidate_69 : decode prog_9_method_42_code 69 = .ok (.iaload, 1) := by decide +kernel
theorem dX7_candidate_70 : decode prog_9_method_42_code 70 = .ok (.iconst 1, 1) := by decide +kernel
theorem dX7_candidate_71 : decode prog_9_method_42_code 71 = .ok (.isub, 1) := by decide +kernel
theorem dX7_candidate_72 : decode prog_9_method_42_code 72 = .ok (.imul, 1) := by decide +kernel
theorem dX7_candidate_73 : decode prog_9_method_42_code 73 = .ok (.iadd, 1) := by decide +kernel
theorem dX7_candidate_74 : decode prog_9_method_42_code 74 = .ok (.ireturn, 1) := by decide +kernel
def pX7_candidate_0 (N a0 : Nat) (G : mm_M) (x1 : Int32) (x2 : Int32) : Option (mm_M × Int32) :=
  q_is G a0 8 <|
  q_cl (pX7_at_0 N a0 G x1) fun G v2_2 =>
  if v2_2 < 0 then
    some (G, (-1 : Int32))
  else
    q_gR G a0 8 15 fun r11_3 =>
    q_nn r11_3 fun b15_4 =>
    q_aI G b15_4 101 v2_2 fun v15_5 =>
    if v15_5 = 0 then
      some (G, (-1 : Int32))
    else
      if x2 < 0 then
        some (G, (-1 : Int32))
      else
        if x2 ≤ (11 : Int32) then
          q_is G a0 8 <|
          q_cl (pX7_inRank_0 N a0 G v2_2 x2) fun G v34_7 =>
          if 0 ≤ v34_7 then
            q_gR G a0 8 4 fun r49_8 =>
            q_nn r49_8 fun b54_9 =>
            q_aI G b54_9 101 v34_7 fun v54_10 =>
            q_gR G a0 8 19 fun r59_11 =>
            q_nn r59_11 fun b69_12 =>
            q_aI G b69_12 101 (((12 : Int32) * v2_2) + v34_7) fun v69_13 =>
            some (G, (v54_10 + ((256 : Int32) * (v69_13 - (1 : Int32)))))
          else
            some (G, (-1 : Int32))
        else
          some (G, (-1 : Int32))
set_option maxRecDepth 100000 in
set_option maxHeartbeats 4000000 in
theorem bX7_candidate_0 {p : Program} {l : Launch} {e : Env} {s : State} {m : MethodId} {args : Array Value} {below : List Frame} {meth : Method} {c : Code} {E : mm_E} {N a0 : Nat} {res : mm_M × Int32} (X : mm_X p s m args meth c prog_9_method_42_code 5 "XorOverlayModel" tw_T E) (hr : meth.sig.returnType = (Option.some .int)) {G : mm_M} {H : Heap} {locs : List Loc} {ls : Array Slot} {x1 : Int32} {x2 : Int32} (V : mm_V E s G H locs) (hl : lx_has ls 5 [(0, .inr (some a0)), (1, .inl x1), (2, .inl x2)]) (hp : pX7_candidate_0 N a0 G x1 x2 = some res) : W p l e rX7_candidate s m args below meth c H locs 0 0 (MQ below (mm_Qi E res.1 res.2) args s 0 0 (mm_A E)) (F0 m 0 ls []) := by
  have hx := X.1.1
  have hb := X.1.2.1
  unfold pX7_candidate_0 at hp
  refine x_aload_n X dX7_candidate_0 hl 0 rfl rfl ?_
  refine x_iload_n X dX7_candidate_1 hl 1 rfl rfl ?_
  obtain ⟨hk, hp⟩ := q_is_of hp
  obtain ⟨⟨G, v2_2⟩, hq, hp⟩ := q_cl_of hp
  dsimp only at hp
  refine q_goi (cells' := 0) (slots' := 0) (va_runV (As := [.int x1]) (rest := []) X.1 (cX7_at l E hq) (tw_cwV 1 X.1.2.2.2.2 (tw_3 116 rfl rfl) kX7_at.2.1 kX7_at.2.2.1 kX7_at.2.2.2 kX7_at.1 rfl rfl hX7_at ⟨Nat.le_of_ble_eq_true rfl, Nat.le_of_ble_eq_true rfl⟩) (mm_preV X V rfl (by decide) rfl hk) rfl rfl hl.1 rfl (lv_room (Nat.le_of_ble_eq_true rfl)) dX7_candidate_2 ⟨by decide, by decide⟩) V ⟨rfl, rfl⟩ (fun H locs V => ?_)
  refine x_istore_n (lst' := [(3, .inl v2_2), (0, .inr (some a0)), (1, .inl x1), (2, .inl x2)]) X dX7_candidate_5 hl rfl (by decide) rfl (fun ls hl => ?_)
  refine x_iload_n X dX7_candidate_6 hl 0 rfl rfl ?_
  refine q_if hp (lv_if_lt (tgt := 29) hx hb dX7_candidate_7 (by decide)) (fun hp => ?_) (fun hp => ?_)
  · refine lv_iconst (v := (-1 : Int32)) hx hb dX7_candidate_29 (by decide) ?_
    exact q_iret X V hr ⟨by decide, by decide⟩ dX7_candidate_30 hp
  · refine x_aload_n X dX7_candidate_10 hl 1 rfl rfl ?_
    refine q_getR (ci := 7) X V inX7 rfl (by decide) rfl 15 (by decide) rfl (tw_3 44 rfl rfl) rfl dX7_candidate_11 hp (fun r11_3 hp => ?_)
    refine x_iload_n X dX7_candidate_14 hl 0 rfl rfl ?_
    obtain ⟨b15_4, e0, hp2⟩ := q_nn_of hp
    clear hp; subst e0; have hp := hp2; clear hp2
    refine q_iald X V dX7_candidate_15 hp (fun v15_5 hp => ?_)
    refine q_if hp (lv_if_eq (tgt := 29) hx hb dX7_candidate_16 (by decide)) (fun hp => ?_) (fun hp => ?_)
    · refine lv_iconst (v := (-1 : Int32)) hx hb dX7_candidate_29 (by decide) ?_
      exact q_iret X V hr ⟨by decide, by decide⟩ dX7_candidate_30 hp
    · refine x_iload_n X dX7_candidate_19 hl 3 rfl rfl ?_
      refine q_if hp (lv_if_lt (tgt := 29) hx hb dX7_candidate_20 (by decide)) (fun hp => ?_) (fun hp => ?_)
      · refine lv_iconst (v := (-1 : Int32)) hx hb dX7_candidate_29 (by decide) ?_
        exact q_iret X V hr ⟨by decide, by decide⟩ dX7_candidate_30 hp
      · refine x_iload_n X dX7_candidate_23 hl 3 rfl rfl ?_
        refine lv_bipush (v := (11 : Int32)) hx hb dX7_candidate_24 (by decide) ?_
        refine q_if hp (lv_icmp_le (tgt := 31) hx hb dX7_candidate_26 (by decide)) (fun hp => ?_) (fun hp => ?_)
        · refine x_aload_n X dX7_candidate_31 hl 1 rfl rfl ?_
          refine x_iload_n X dX7_candidate_32 hl 0 rfl rfl ?_
          refine x_iload_n X dX7_candidate_33 hl 3 rfl rfl ?_
          obtain ⟨hk, hp⟩ := q_is_of hp
          obtain ⟨⟨G, v34_7⟩, hq, hp⟩ := q_cl_of hp
          dsimp only at hp
          refine q_goi (cells' := 0) (slots' := 0) (va_runV (As := [.int v2_2, .int x2]) (rest := []) X.1 (cX7_inRank l E hq) (tw_cwV 2 X.1.2.2.2.2 (tw_3 172 rfl rfl) kX7_inRank.2.1 kX7_inRank.2.2.1 kX7_inRank.2.2.2 kX7_inRank.1 rfl rfl hX7_inRank ⟨Nat.le_of_ble_eq_true rfl, Nat.le_of_ble_eq_true rfl⟩) (mm_preV X V rfl (by decide) rfl hk) rfl rfl hl.1 rfl (lv_room (Nat.le_of_ble_eq_true rfl)) dX7_candidate_34 ⟨by decide, by decide⟩) V ⟨rfl, rfl⟩ (fun H locs V => ?_)
          refine x_istore (lst' := [(4, .inl v34_7), (3, .inl v2_2), (0, .inr (some a0)), (1, .inl x1), (2, .inl x2)]) X dX7_candidate_37 hl (by decide) rfl (fun ls hl => ?_)
          refine x_iload X dX7_candidate_39 hl 0 rfl ?_
          refine q_if hp (lv_if_ge (tgt := 48) hx hb dX7_candidate_41 (by decide)) (fun hp => ?_) (fun hp => ?_)
          · refine x_aload_n X dX7_candidate_48 hl 2 rfl rfl ?_
            refine q_getR (ci := 7) X V inX7 rfl (by decide) rfl 4 (by decide) rfl (tw_3 33 rfl rfl) rfl dX7_candidate_49 hp (fun r49_8 hp => ?_)
            refine x_iload X dX7_candidate_52 hl 0 rfl ?_
            obtain ⟨b54_9, e0, hp2⟩ := q_nn_of hp
            clear hp; subst e0; have hp := hp2; clear hp2
            refine q_iald X V dX7_candidate_54 hp (fun v54_10 hp => ?_)
            refine lv_sipush (v := (256 : Int32)) hx hb dX7_candidate_55 (by decide) ?_
            refine x_aload_n X dX7_candidate_58 hl 2 rfl rfl ?_
            refine q_getR (ci := 7) X V inX7 rfl (by decide) rfl 19 (by decide) rfl (tw_3 48 rfl rfl) rfl dX7_candidate_59 hp (fun r59_11 hp => ?_)
            refine lv_bipush (v := (12 : Int32)) hx hb dX7_candidate_62 (by decide) ?_
            refine x_iload_n X dX7_candidate_64 hl 1 rfl rfl ?_
            refine lv_imul hx hb dX7_candidate_65 ?_
            refine x_iload X dX7_candidate_66 hl 0 rfl ?_
            refine lv_iadd hx hb dX7_candidate_68 ?_
            obtain ⟨b69_12, e0, hp2⟩ := q_nn_of hp
            clear hp; subst e0; have hp := hp2; clear hp2
            refine q_iald X V dX7_candidate_69 hp (fun v69_13 hp => ?_)
            refine lv_iconst (v := (1 : Int32)) hx hb dX7_candidate_70 (by decide) ?_
            refine lv_isub hx hb dX7_candidate_71 ?_
            refine lv_imul hx hb dX7_candidate_72 ?_
            refine lv_iadd hx hb dX7_candidate_73 ?_
            exact q_iret X V hr ⟨by decide, by decide⟩ dX7_candidate_74 hp
          · refine lv_iconst (v := (-1 : Int32)) hx hb dX7_candidate_44 (by decide) ?_
            refine lv_goto (tgt := 74) hx hb dX7_candidate_45 (by decide) ?_
            exact q_iret X V hr ⟨by decide, by decide⟩ dX7_candidate_74 hp
        · refine lv_iconst (v := (-1 : Int32)) hx hb dX7_candidate_29 (by decide) ?_
          exact q_iret X V hr ⟨by decide, by decide⟩ dX7_candidate_30 hp
theorem cX7_candidate (l : Launch) (E : mm_E) {N a0 : Nat} {G : mm_M} {x1 : Int32} {x2 : Int32} {res : mm_M × Int32} (hp : pX7_candidate_0 N a0 G x1 x2 = some res) : Met l yX7_candidate (Cond.code yX7_candidate prog_9_method_42_code 5 (Option.some .int) :: tw_T) rX7_candidate (mm_Pc E G [.ref a0, .int x1, .int x2]) (mm_Qi E res.1 res.2) 0 0 (mm_A E) :=
  mm_met (own := "XorOverlayModel") E G [.inr (some a0), .inl x1, .inl x2] (by decide) rfl rfl (Nat.le_of_ble_eq_true rfl) (fun p e s m args below meth c ls X hr hi V hl => bX7_candidate_0 X hr V hl hp)
abbrev yX7_found : MethodName := ⟨"XorOverlayModel", "found", "(II)I"⟩
abbrev rX7_found : Room := { frames := 2, cells := 0, slots := 0, locals := 44 }
theorem kX7_found : Cond.code yX7_found prog_9_method_43_code 4 (Option.some .int) ∈ tw_T ∧ Cond.instanceMethod yX7_found ∈ tw_T ∧ Cond.selects "XorOverlayModel" yX7_found yX7_found ∈ tw_T ∧ Cond.initialized "XorOverlayModel" ∈ tw_T := ⟨(tw_4 41 rfl rfl), (tw_4 39 rfl rfl), (tw_4 40 rfl rfl), (tw_1 3 rfl rfl)⟩
theorem hX7_found : yX7_found.cls = "XorOverlayModel" ∧ yX7_found.cls ≠ "java/lang/invoke/MethodHandle" ∧ yX7_found.cls ≠ "java/lang/invoke/VarHandle" ∧ (parseMethodDescriptor yX7_found.desc).map (fun d => d.parameters.length) = some 2 := by decide +kernel
theorem dX7_found_0 : decode prog_9_method_43_code 0 = .ok (.aload_n 0, 1) := by decide +kernel
theorem dX7_found_1 : decode prog_9_method_43_code 1 = .ok (.iload_n 1, 1) := by decide +kernel
theorem dX7_found_2 : decode prog_9_method_43_code 2 = .ok (.invokevirtual 152, 3) := by decide +kernel
theorem dX7_found_5 : decode prog_9_method_43_code 5 = .ok (.istore_n 3, 1) := by decide +kernel
theorem dX7_found_6 : decode prog_9_method_43_code 6 = .ok (.iload_n 3, 1) := by decide +kernel
theorem dX7_found_7 : decode prog_9_method_43_code 7 = .ok (.ifCond .lt 26, 3) := by decide +kernel
theorem dX7_found_10 : decode prog_9_method_43_code 10 = .ok (.aload_n 0, 1) := by decide +kernel
theorem dX7_found_11 : decode prog_9_method_43_code 11 = .ok (.getfield 44, 3) := by decide +kernel
theorem dX7_found_14 : decode prog_9_method_43_code 14 = .ok (.iload_n 3, 1) := by decide +kernel
theorem dX7_found_15 : decode prog_9_method_43_code 15 = .ok (.iaload, 1) := by decide +kernel
theorem dX7_found_16 : decode prog_9_method_43_code 16 = .ok (.ifCond .eq 17, 3) := by decide +kernel
theorem dX7_found_19 : decode prog_9_method_43_code 19 = .ok (.iload_n 2, 1) := by decide +kernel
theorem dX7_found_20 : decode prog_9_method_43_code 20 = .ok (.ifCond .lt 13, 3) := by decide +kernel
theorem dX7_found_23 : decode prog_9_method_43_code 23 = .ok (.iload_n 2, 1) := by decide +kernel
theorem dX7_found_24 : decode prog_9_method_43_code 24 = .ok (.aload_n 0, 1) := by decide +kernel
theorem dX7_found_25 : decode prog_9_method_43_code 25 = .ok (.getfield 65, 3) := by decide +kernel
theorem dX7_found_28 : decode prog_9_method_43_code 28 = .ok (.iload_n 3, 1) := by decide +kernel
theorem dX7_found_29 : decode prog_9_method_43_code 29 = .ok (.iaload, 1) := by decide +kernel
theorem dX7_found_30 : decode prog_9_method_43_code 30 = .ok (.if_icmp .lt 5, 3) := by decide +kernel
theorem dX7_found_33 : decode prog_9_method_43_code 33 = .ok (.iconst (-1), 1) := by decide +kernel
theorem dX7_found_34 : decode prog_9_method_43_code 34 = .ok (.ireturn, 1) := by decide +kernel
theorem dX7_found_35 : decode prog_9_method_43_code 35 = .ok (.aload_n 0, 1) := by decide +kernel
theorem dX7_found_36 : decode prog_9_method_43_code 36 = .ok (.getfield 68, 3) := by decide +kernel
theorem dX7_found_39 : decode prog_9_method_43_code 39 = .ok (.bipush 12, 2) := by decide +kernel
theorem dX7_found_41 : decode prog_9_method_43_code 41 = .ok (.iload_n 3, 1) := by decide +kernel
theorem dX7_found_42 : decode prog_9_method_43_code 42 = .ok (.imul, 1) := by decide +kernel
theorem dX7_found_43 : decode prog_9_method_43_code 43 = .ok (.iload_n 2, 1) := by decide +kernel
theorem dX7_found_44 : decode prog_9_method_43_code 44 = .ok (.iadd, 1) := by decide +kernel
theorem dX7_found_45 : decode prog_9_method_43_code 45 = .ok (.iaload, 1) := by decide +kernel
theorem dX7_found_46 : decode prog_9_method_43_code 46 = .ok (.ireturn, 1) := by decide +kernel
def pX7_found_0 (N a0 : Nat) (G : mm_M) (x1 : Int32) (x2 : Int32) : Option (mm_M × Int32) :=
  q_is G a0 8 <|
  q_cl (pX7_at_0 N a0 G x1) fun G v2_2 =>
  if v2_2 < 0 then
    some (G, (-1 : Int32))
  else
    q_gR G a0 8 15 fun r11_3 =>
    q_nn r11_3 fun b15_4 =>
    q_aI G b15_4 101 v2_2 fun v15_5 =>
    if v15_5 = 0 then
      some (G, (-1 : Int32))
    else
      if x2 < 0 then
        some (G, (-1 : Int32))
      else
        q_gR G a0 8 22 fun r25_6 =>
        q_nn r25_6 fun b29_7 =>
        q_aI G b29_7 101 v2_2 fun v29_8 =>
        if x2 < v29_8 then
          q_gR G a0 8 23 fun r36_9 =>
          q_nn r36_9 fun b45_10 =>
          q_aI G b45_10 101 (((12 : Int32) * v2_2) + x2) fun v45_11 =>
          some (G, v45_11)
        else
          some (G, (-1 : Int32))
set_option maxRecDepth 100000 in
set_option maxHeartbeats 4000000 in
theorem bX7_found_0 {p : Program} {l : Launch} {e : Env} {s : State} {m : MethodId} {args : Array Value} {below : List Frame} {meth : Method} {c : Code} {E : mm_E} {N a0 : Nat} {res : mm_M × Int32} (X : mm_X p s m args meth c prog_9_method_43_code 4 "XorOverlayModel" tw_T E) (hr : meth.sig.returnType = (Option.some .int)) {G : mm_M} {H : Heap} {locs : List Loc} {ls : Array Slot} {x1 : Int32} {x2 : Int32} (V : mm_V E s G H locs) (hl : lx_has ls 4 [(0, .inr (some a0)), (1, .inl x1), (2, .inl x2)]) (hp : pX7_found_0 N a0 G x1 x2 = some res) : W p l e rX7_found s m args below meth c H locs 0 0 (MQ below (mm_Qi E res.1 res.2) args s 0 0 (mm_A E)) (F0 m 0 ls []) := by
  have hx := X.1.1
  have hb := X.1.2.1
  unfold pX7_found_0 at hp
  refine x_aload_n X dX7_found_0 hl 0 rfl rfl ?_
  refine x_iload_n X dX7_found_1 hl 1 rfl rfl ?_
  obtain ⟨hk, hp⟩ := q_is_of hp
  obtain ⟨⟨G, v2_2⟩, hq, hp⟩ := q_cl_of hp
  dsimp only at hp
  refine q_goi (cells' := 0) (slots' := 0) (va_runV (As := [.int x1]) (rest := []) X.1 (cX7_at l E hq) (tw_cwV 1 X.1.2.2.2.2 (tw_3 116 rfl rfl) kX7_at.2.1 kX7_at.2.2.1 kX7_at.2.2.2 kX7_at.1 rfl rfl hX7_at ⟨Nat.le_of_ble_eq_true rfl, Nat.le_of_ble_eq_true rfl⟩) (mm_preV X V rfl (by decide) rfl hk) rfl rfl hl.1 rfl (lv_room (Nat.le_of_ble_eq_true rfl)) dX7_found_2 ⟨by decide, by decide⟩) V ⟨rfl, rfl⟩ (fun H locs V => ?_)
  refine x_istore_n (lst' := [(3, .inl v2_2), (0, .inr (some a0)), (1, .inl x1), (2, .inl x2)]) X dX7_found_5 hl rfl (by decide) rfl (fun ls hl => ?_)
  refine x_iload_n X dX7_found_6 hl 0 rfl rfl ?_
  refine q_if hp (lv_if_lt (tgt := 33) hx hb dX7_found_7 (by decide)) (fun hp => ?_) (fun hp => ?_)
  · refine lv_iconst (v := (-1 : Int32)) hx hb dX7_found_33 (by decide) ?_
    exact q_iret X V hr ⟨by decide, by decide⟩ dX7_found_34 hp
  · refine x_aload_n X dX7_found_10 hl 1 rfl rfl ?_
    refine q_getR (ci := 7) X V inX7 rfl (by decide) rfl 15 (by decide) rfl (tw_3 44 rfl rfl) rfl dX7_found_11 hp (fun r11_3 hp => ?_)
    refine x_iload_n X dX7_found_14 hl 0 rfl rfl ?_
    obtain ⟨b15_4, e0, hp2⟩ := q_nn_of hp
    clear hp; subst e0; have hp := hp2; clear hp2
    refine q_iald X V dX7_found_15 hp (fun v15_5 hp => ?_)
    refine q_if hp (lv_if_eq (tgt := 33) hx hb dX7_found_16 (by decide)) (fun hp => ?_) (fun hp => ?_)
    · refine lv_iconst (v := (-1 : Int32)) hx hb dX7_found_33 (by decide) ?_
      exact q_iret X V hr ⟨by decide, by decide⟩ dX7_found_34 hp
    · refine x_iload_n X dX7_found_19 hl 3 rfl rfl ?_
      refine q_if hp (lv_if_lt (tgt := 33) hx hb dX7_found_20 (by decide)) (fun hp => ?_) (fun hp => ?_)
      · refine lv_iconst (v := (-1 : Int32)) hx hb dX7_found_33 (by decide) ?_
        exact q_iret X V hr ⟨by decide, by decide⟩ dX7_found_34 hp
      · refine x_iload_n X dX7_found_23 hl 3 rfl rfl ?_
        refine x_aload_n X dX7_found_24 hl 1 rfl rfl ?_
        refine q_getR (ci := 7) X V inX7 rfl (by decide) rfl 22 (by decide) rfl (tw_3 51 rfl rfl) rfl dX7_found_25 hp (fun r25_6 hp => ?_)
        refine x_iload_n X dX7_found_28 hl 0 rfl rfl ?_
        obtain ⟨b29_7, e0, hp2⟩ := q_nn_of hp
        clear hp; subst e0; have hp := hp2; clear hp2
        refine q_iald X V dX7_found_29 hp (fun v29_8 hp => ?_)
        refine q_if hp (lv_icmp_lt (tgt := 35) hx hb dX7_found_30 (by decide)) (fun hp => ?_) (fun hp => ?_)
        · refine x_aload_n X dX7_found_35 hl 1 rfl rfl ?_
          refine q_getR (ci := 7) X V inX7 rfl (by decide) rfl 23 (by decide) rfl (tw_3 52 rfl rfl) rfl dX7_found_36 hp (fun r36_9 hp => ?_)
          refine lv_bipush (v := (12 : Int32)) hx hb dX7_found_39 (by decide) ?_
          refine x_iload_n X dX7_found_41 hl 0 rfl rfl ?_
          refine lv_imul hx hb dX7_found_42 ?_
          refine x_iload_n X dX7_found_43 hl 3 rfl rfl ?_
          refine lv_iadd hx hb dX7_found_44 ?_
          obtain ⟨b45_10, e0, hp2⟩ := q_nn_of hp
          clear hp; subst e0; have hp := hp2; clear hp2
          refine q_iald X V dX7_found_45 hp (fun v45_11 hp => ?_)
          exact q_iret X V hr ⟨by decide, by decide⟩ dX7_found_46 hp
        · refine lv_iconst (v := (-1 : Int32)) hx hb dX7_found_33 (by decide) ?_
          exact q_iret X V hr ⟨by decide, by decide⟩ dX7_found_34 hp
theorem cX7_found (l : Launch) (E : mm_E) {N a0 : Nat} {G : mm_M} {x1 : Int32} {x2 : Int32} {res : mm_M × Int32} (hp : pX7_found_0 N a0 G x1 x2 = some res) : Met l yX7_found (Cond.code yX7_found prog_9_method_43_code 4 (Option.some .int) :: tw_T) rX7_found (mm_Pc E G [.ref a0, .int x1, .int x2]) (mm_Qi E res.1 res.2) 0 0 (mm_A E) :=
  mm_met (own := "XorOverlayModel") E G [.inr (some a0), .inl x1, .inl x2] (by decide) rfl rfl (Nat.le_of_ble_eq_true rfl) (fun p e s m args below meth c ls X hr hi V hl => bX7_found_0 X hr V hl hp)
abbrev yX7_buckets : MethodName := ⟨"XorOverlayModel", "buckets", "(I)I"⟩
abbrev rX7_buckets : Room := { frames := 2, cells := 0, slots := 0, locals := 44 }
theorem kX7_buckets : Cond.code yX7_buckets prog_9_method_44_code 3 (Option.some .int) ∈ tw_T ∧ Cond.instanceMethod yX7_buckets ∈ tw_T ∧ Cond.selects "XorOverlayModel" yX7_buckets yX7_buckets ∈ tw_T ∧ Cond.initialized "XorOverlayModel" ∈ tw_T := ⟨(tw_4 45 rfl rfl), (tw_4 43 rfl rfl), (tw_4 44 rfl rfl), (tw_1 3 rfl rfl)⟩
theorem hX7_buckets : yX7_buckets.cls = "XorOverlayModel" ∧ yX7_buckets.cls ≠ "java/lang/invoke/MethodHandle" ∧ yX7_buckets.cls ≠ "java/lang/invoke/VarHandle" ∧ (parseMethodDescriptor yX7_buckets.desc).map (fun d => d.parameters.length) = some 1 := by decide +kernel
theorem dX7_buckets_0 : decode prog_9_method_44_code 0 = .ok (.aload_n 0, 1) := by decide +kernel
theorem dX7_buckets_1 : decode prog_9_method_44_code 1 = .ok (.iload_n 1, 1) := by decide +kernel
theorem dX7_buckets_2 : decode prog_9_method_44_code 2 = .ok (.invokevirtual 152, 3) := by decide +kernel
theorem dX7_buckets_5 : decode prog_9_method_44_code 5 = .ok (.istore_n 2, 1) := by decide +kernel
theorem dX7_buckets_6 : decode prog_9_method_44_code 6 = .ok (.iload_n 2, 1) := by decide +kernel
theorem dX7_buckets_7 : decode prog_9_method_44_code 7 = .ok (.ifCond .ge 7, 3) := by decide +kernel
theorem dX7_buckets_10 : decode prog_9_method_44_code 10 = .ok (.iconst (-1), 1) := by decide +kernel
theorem dX7_buckets_11 : decode prog_9_method_44_code 11 = .ok (.goto 11, 3) := by decide +kernel
theorem dX7_buckets_14 : decode prog_9_method_44_code 14 = .ok (.aload_n 0, 1) := by decide +kernel
theorem dX7_buckets_15 : decode prog_9_method_44_code 15 = .ok (.getfield 26, 3) := by decide +kernel
theorem dX7_buckets_18 : decode prog_9_method_44_code 18 = .ok (.iload_n 2, 1) := by decide +kernel
theorem dX7_buckets_19 : decode prog_9_method_44_code 19 = .ok (.iaload, 1) := by decide +kernel
theorem dX7_buckets_20 : decode prog_9_method_44_code 20 = .ok (.iconst 1, 1) := by decide +kernel
theorem dX7_buckets_21 : decode prog_9_method_44_code 21 = .ok (.iadd, 1) := by decide +kernel
theorem dX7_buckets_22 : decode prog_9_method_44_code 22 = .ok (.ireturn, 1) := by decide +kernel
def pX7_buckets_0 (N a0 : Nat) (G : mm_M) (x1 : Int32) : Option (mm_M × Int32) :=
  q_is G a0 8 <|
  q_cl (pX7_at_0 N a0 G x1) fun G v2_2 =>
  if 0 ≤ v2_2 then
    q_gR G a0 8 9 fun r15_3 =>
    q_nn r15_3 fun b19_4 =>
    q_aI G b19_4 101 v2_2 fun v19_5 =>
    some (G, (v19_5 + (1 : Int32)))
  else
    some (G, (-1 : Int32))
set_option maxRecDepth 100000 in
set_option maxHeartbeats 4000000 in
theorem bX7_buckets_0 {p : Program} {l : Launch} {e : Env} {s : State} {m : MethodId} {args : Array Value} {below : List Frame} {meth : Method} {c : Code} {E : mm_E} {N a0 : Nat} {res : mm_M × Int32} (X : mm_X p s m args meth c prog_9_method_44_code 3 "XorOverlayModel" tw_T E) (hr : meth.sig.returnType = (Option.some .int)) {G : mm_M} {H : Heap} {locs : List Loc} {ls : Array Slot} {x1 : Int32} (V : mm_V E s G H locs) (hl : lx_has ls 3 [(0, .inr (some a0)), (1, .inl x1)]) (hp : pX7_buckets_0 N a0 G x1 = some res) : W p l e rX7_buckets s m args below meth c H locs 0 0 (MQ below (mm_Qi E res.1 res.2) args s 0 0 (mm_A E)) (F0 m 0 ls []) := by
  have hx := X.1.1
  have hb := X.1.2.1
  unfold pX7_buckets_0 at hp
  refine x_aload_n X dX7_buckets_0 hl 0 rfl rfl ?_
  refine x_iload_n X dX7_buckets_1 hl 1 rfl rfl ?_
  obtain ⟨hk, hp⟩ := q_is_of hp
  obtain ⟨⟨G, v2_2⟩, hq, hp⟩ := q_cl_of hp
  dsimp only at hp
  refine q_goi (cells' := 0) (slots' := 0) (va_runV (As := [.int x1]) (rest := []) X.1 (cX7_at l E hq) (tw_cwV 1 X.1.2.2.2.2 (tw_3 116 rfl rfl) kX7_at.2.1 kX7_at.2.2.1 kX7_at.2.2.2 kX7_at.1 rfl rfl hX7_at ⟨Nat.le_of_ble_eq_true rfl, Nat.le_of_ble_eq_true rfl⟩) (mm_preV X V rfl (by decide) rfl hk) rfl rfl hl.1 rfl (lv_room (Nat.le_of_ble_eq_true rfl)) dX7_buckets_2 ⟨by decide, by decide⟩) V ⟨rfl, rfl⟩ (fun H locs V => ?_)
  refine x_istore_n (lst' := [(2, .inl v2_2), (0, .inr (some a0)), (1, .inl x1)]) X dX7_buckets_5 hl rfl (by decide) rfl (fun ls hl => ?_)
  refine x_iload_n X dX7_buckets_6 hl 0 rfl rfl ?_
  refine q_if hp (lv_if_ge (tgt := 14) hx hb dX7_buckets_7 (by decide)) (fun hp => ?_) (fun hp => ?_)
  · refine x_aload_n X dX7_buckets_14 hl 1 rfl rfl ?_
    refine q_getR (ci := 7) X V inX7 rfl (by decide) rfl 9 (by decide) rfl (tw_3 38 rfl rfl) rfl dX7_buckets_15 hp (fun r15_3 hp => ?_)
    refine x_iload_n X dX7_buckets_18 hl 0 rfl rfl ?_
    obtain ⟨b19_4, e0, hp2⟩ := q_nn_of hp
    clear hp; subst e0; have hp := hp2; clear hp2
    refine q_iald X V dX7_buckets_19 hp (fun v19_5 hp => ?_)
    refine lv_iconst (v := (1 : Int32)) hx hb dX7_buckets_20 (by decide) ?_
    refine lv_iadd hx hb dX7_buckets_21 ?_
    exact q_iret X V hr ⟨by decide, by decide⟩ dX7_buckets_22 hp
  · refine lv_iconst (v := (-1 : Int32)) hx hb dX7_buckets_10 (by decide) ?_
    refine lv_goto (tgt := 22) hx hb dX7_buckets_11 (by decide) ?_
    exact q_iret X V hr ⟨by decide, by decide⟩ dX7_buckets_22 hp
theorem cX7_buckets (l : Launch) (E : mm_E) {N a0 : Nat} {G : mm_M} {x1 : Int32} {res : mm_M × Int32} (hp : pX7_buckets_0 N a0 G x1 = some res) : Met l yX7_buckets (Cond.code yX7_buckets prog_9_method_44_code 3 (Option.some .int) :: tw_T) rX7_buckets (mm_Pc E G [.ref a0, .int x1]) (mm_Qi E res.1 res.2) 0 0 (mm_A E) :=
  mm_met (own := "XorOverlayModel") E G [.inr (some a0), .inl x1] (by decide) rfl rfl (Nat.le_of_ble_eq_true rfl) (fun p e s m args below meth c ls X hr hi V hl => bX7_buckets_0 X hr V hl hp)
abbrev yX7_bucket : MethodName := ⟨"XorOverlayModel", "bucket", "(II)I"⟩
abbrev rX7_bucket : Room := { frames := 3, cells := 0, slots := 0, locals := 70 }
theorem kX7_bucket : Cond.code yX7_bucket prog_9_method_45_code 5 (Option.some .int) ∈ tw_T ∧ Cond.instanceMethod yX7_bucket ∈ tw_T ∧ Cond.selects "XorOverlayModel" yX7_bucket yX7_bucket ∈ tw_T ∧ Cond.initialized "XorOverlayModel" ∈ tw_T := ⟨(tw_4 49 rfl rfl), (tw_4 47 rfl rfl), (tw_4 48 rfl rfl), (tw_1 3 rfl rfl)⟩
theorem hX7_bucket : yX7_bucket.cls = "XorOverlayModel" ∧ yX7_bucket.cls ≠ "java/lang/invoke/MethodHandle" ∧ yX7_bucket.cls ≠ "java/lang/invoke/VarHandle" ∧ (parseMethodDescriptor yX7_bucket.desc).map (fun d => d.parameters.length) = some 2 := by decide +kernel
theorem dX7_bucket_0 : decode prog_9_method_45_code 0 = .ok (.aload_n 0, 1) := by decide +kernel
theorem dX7_bucket_1 : decode prog_9_method_45_code 1 = .ok (.iload_n 1, 1) := by decide +kernel
theorem dX7_bucket_2 : decode prog_9_method_45_code 2 = .ok (.invokevirtual 152, 3) := by decide +kernel
theorem dX7_bucket_5 : decode prog_9_method_45_code 5 = .ok (.istore_n 3, 1) := by decide +kernel
theorem dX7_bucket_6 : decode prog_9_method_45_code 6 = .ok (.iload_n 3, 1) := by decide +kernel
theorem dX7_bucket_7 : decode prog_9_method_45_code 7 = .ok (.ifCond .lt 17, 3) := by decide +kernel
theorem dX7_bucket_10 : decode prog_9_method_45_code 10 = .ok (.iload_n 2, 1) := by decide +kernel
theorem dX7_bucket_11 : decode prog_9_method_45_code 11 = .ok (.ifCond .lt 13, 3) := by decide +kernel
theorem dX7_bucket_14 : decode prog_9_method_45_code 14 = .ok (.iload_n 2, 1) := by decide +kernel
theorem dX7_bucket_15 : decode prog_9_method_45_code 15 = .ok (.aload_n 0, 1) := by decide +kernel
theorem dX7_bucket_16 : decode prog_9_method_45_code 16 = .ok (.getfield 26, 3) := by decide +kernel
theorem dX7_bucket_19 : decode prog_9_method_45_code 19 = .ok (.iload_n 3, 1) := by decide +kernel
theorem dX7_bucket_20 : decode prog_9_method_45_code 20 = .ok (.iaload, 1) := by decide +kernel
theorem dX7_bucket_21 : decode prog_9_method_45_code 21 = .ok (.if_icmp .le 5, 3) := by decide +kernel
theorem dX7_bucket_24 : decode prog_9_method_45_code 24 = .ok (.iconst (-1), 1) := by decide +kernel
theorem dX7_bucket_25 : decode prog_9_method_45_code 25 = .ok (.ireturn, 1) := by decide +kernel
theorem dX7_bucket_26 : decode prog_9_method_45_code 26 = .ok (.aload_n 0, 1) := by decide +kernel
theorem dX7_bucket_27 : decode prog_9_method_45_code 27 = .ok (.iload_n 3, 1) := by decide +kernel
theorem dX7_bucket_28 : decode prog_9_method_45_code 28 = .ok (.iload_n 2, 1) := by decide +kernel
theorem dX7_bucket_29 : decode prog_9_method_45_code 29 = .ok (.invokevirtual 166, 3) := by decide +kernel
theorem dX7_bucket_32 : decode prog_9_method_45_code 32 = .ok (.istore 4, 2) := by decide +kernel
theorem dX7_bucket_34 : decode prog_9_method_45_code 34 = .ok (.aload_n 0, 1) := by decide +kernel
theorem dX7_bucket_35 : decode prog_9_method_45_code 35 = .ok (.iload_n 3, 1) := by decide +kernel
theorem dX7_bucket_36 : decode prog_9_method_45_code 36 = .ok (.iload 4, 2) := by decide +kernel
theorem dX7_bucket_38 : decode prog_9_method_45_code 38 = .ok (.invokevirtual 85, 3) := by decide +kernel
theorem dX7_bucket_41 : decode prog_9_method_45_code 41 = .ok (.sipush 256, 3) := by decide +kernel
theorem dX7_bucket_44 : decode prog_9_method_45_code 44 = .ok (.aload_n 0, 1) := by decide +kernel
theorem dX7_bucket_45 : decode prog_9_method_45_code 45 = .ok (.iload_n 3, 1) := by decide +kernel
theorem dX7_bucket_46 : decode prog_9_method_45_code 46 = .ok (.iload 4, 2) := by decide +kernel
theorem dX7_bucket_48 : decode prog_9_method_45_code 48 = .ok (.invokevirtual 106, 3) := by decide +kernel
theorem dX7_bucket_51 : decode prog_9_method_45_code 51 = .ok (.imul, 1) := by decide +kernel
theorem dX7_bucket_52 : decode prog_9_method_45_code 52 = .ok (.iadd, 1) := by decide +kernel
theorem dX7_bucket_53 : decode prog_9_method_45_code 53 = .ok (.sipush 1024, 3) := by decide +kernel
theorem dX7_bucket_56 : decode prog_9_method_45_code 56 = .ok (.aload_n 0, 1) := by decide +kernel
theorem dX7_bucket_57 : decode prog_9_method_45_code 57 = .ok (.getfield 99, 3) := by decide +kernel
theorem dX7_bucket_60 : decode prog_9_method_45_code 60 = .ok (.aload_n 0, 1) := by decide +kernel
theorem dX7_bucket_61 : decode prog_9_method_45_code 61 = .ok (.getfield 29, 3) := by decide +kernel
theorem dX7_bucket_64 : decode prog_9_method_45_code 64 = .ok (.bipush 9, 2) := by decide +kernel
theorem dX7_bucket_66 : decode prog_9_method_45_code 66 = .ok (.iload_n 3, 1) := by decide +kernel
theorem dX7_bucket_67 : decode prog_9_method_45_code 67 = .ok (.imul, 1) := by decide +kernel
theorem dX7_bucket_68 : decode prog_9_method_45_code 68 = .ok (.iload 4, 2) := by decide +kernel
theorem dX7_bucket_70 : decode prog_9_method_45_code 70 = .ok (.iadd, 1) := by decide +kernel
theorem dX7_bucket_71 : decode prog_9_method_45_code 71 = .ok (.iaload, 1) := by decide +kernel
theorem dX7_bucket_72 : decode prog_9_method_45_code 72 = .ok (.isub, 1) := by decide +kernel
theorem dX7_bucket_73 : decode prog_9_method_45_code 73 = .ok (.imul, 1) := by decide +kernel
theorem dX7_bucket_74 : decode prog_9_method_45_code 74 = .ok (.iadd, 1) := by decide +kernel
theorem dX7_bucket_75 : decode prog_9_method_45_code 75 = .ok (.ireturn, 1) := by decide +kernel
def pX7_bucket_0 (N a0 : Nat) (G : mm_M) (x1 : Int32) (x2 : Int32) : Option (mm_M × Int32) :=
  q_is G a0 8 <|
  q_cl (pX7_at_0 N a0 G x1) fun G v2_2 =>
  if v2_2 < 0 then
    some (G, (-1 : Int32))
  else
    if x2 < 0 then
      some (G, (-1 : Int32))
    else
      q_gR G a0 8 9 fun r16_3 =>
      q_nn r16_3 fun b20_4 =>
      q_aI G b20_4 101 v2_2 fun v20_5 =>
      if x2 ≤ v20_5 then
        q_is G a0 8 <|
        q_cl (pX7_bucketAt_0 N a0 G v2_2 x2) fun G v29_7 =>
        q_is G a0 8 <|
        q_cl (pX7_first_0 N a0 G v2_2 v29_7) fun G v38_9 =>
        q_is G a0 8 <|
        q_cl (pX7_held_0 N a0 G v2_2 v29_7) fun G v48_11 =>
        q_gI G a0 8 0 fun v57_12 =>
        q_gR G a0 8 10 fun r61_13 =>
        q_nn r61_13 fun b71_14 =>
        q_aI G b71_14 101 (((9 : Int32) * v2_2) + v29_7) fun v71_15 =>
        some (G, ((v38_9 + ((256 : Int32) * v48_11)) + ((1024 : Int32) * (v57_12 - v71_15))))
      else
        some (G, (-1 : Int32))
set_option maxRecDepth 100000 in
set_option maxHeartbeats 4000000 in
theorem bX7_bucket_0 {p : Program} {l : Launch} {e : Env} {s : State} {m : MethodId} {args : Array Value} {below : List Frame} {meth : Method} {c : Code} {E : mm_E} {N a0 : Nat} {res : mm_M × Int32} (X : mm_X p s m args meth c prog_9_method_45_code 5 "XorOverlayModel" tw_T E) (hr : meth.sig.returnType = (Option.some .int)) {G : mm_M} {H : Heap} {locs : List Loc} {ls : Array Slot} {x1 : Int32} {x2 : Int32} (V : mm_V E s G H locs) (hl : lx_has ls 5 [(0, .inr (some a0)), (1, .inl x1), (2, .inl x2)]) (hp : pX7_bucket_0 N a0 G x1 x2 = some res) : W p l e rX7_bucket s m args below meth c H locs 0 0 (MQ below (mm_Qi E res.1 res.2) args s 0 0 (mm_A E)) (F0 m 0 ls []) := by
  have hx := X.1.1
  have hb := X.1.2.1
  unfold pX7_bucket_0 at hp
  refine x_aload_n X dX7_bucket_0 hl 0 rfl rfl ?_
  refine x_iload_n X dX7_bucket_1 hl 1 rfl rfl ?_
  obtain ⟨hk, hp⟩ := q_is_of hp
  obtain ⟨⟨G, v2_2⟩, hq, hp⟩ := q_cl_of hp
  dsimp only at hp
  refine q_goi (cells' := 0) (slots' := 0) (va_runV (As := [.int x1]) (rest := []) X.1 (cX7_at l E hq) (tw_cwV 1 X.1.2.2.2.2 (tw_3 116 rfl rfl) kX7_at.2.1 kX7_at.2.2.1 kX7_at.2.2.2 kX7_at.1 rfl rfl hX7_at ⟨Nat.le_of_ble_eq_true rfl, Nat.le_of_ble_eq_true rfl⟩) (mm_preV X V rfl (by decide) rfl hk) rfl rfl hl.1 rfl (lv_room (Nat.le_of_ble_eq_true rfl)) dX7_bucket_2 ⟨by decide, by decide⟩) V ⟨rfl, rfl⟩ (fun H locs V => ?_)
  refine x_istore_n (lst' := [(3, .inl v2_2), (0, .inr (some a0)), (1, .inl x1), (2, .inl x2)]) X dX7_bucket_5 hl rfl (by decide) rfl (fun ls hl => ?_)
  refine x_iload_n X dX7_bucket_6 hl 0 rfl rfl ?_
  refine q_if hp (lv_if_lt (tgt := 24) hx hb dX7_bucket_7 (by decide)) (fun hp => ?_) (fun hp => ?_)
  · refine lv_iconst (v := (-1 : Int32)) hx hb dX7_bucket_24 (by decide) ?_
    exact q_iret X V hr ⟨by decide, by decide⟩ dX7_bucket_25 hp
  · refine x_iload_n X dX7_bucket_10 hl 3 rfl rfl ?_
    refine q_if hp (lv_if_lt (tgt := 24) hx hb dX7_bucket_11 (by decide)) (fun hp => ?_) (fun hp => ?_)
    · refine lv_iconst (v := (-1 : Int32)) hx hb dX7_bucket_24 (by decide) ?_
      exact q_iret X V hr ⟨by decide, by decide⟩ dX7_bucket_25 hp
    · refine x_iload_n X dX7_bucket_14 hl 3 rfl rfl ?_
      refine x_aload_n X dX7_bucket_15 hl 1 rfl rfl ?_
      refine q_getR (ci := 7) X V inX7 rfl (by decide) rfl 9 (by decide) rfl (tw_3 38 rfl rfl) rfl dX7_bucket_16 hp (fun r16_3 hp => ?_)
      refine x_iload_n X dX7_bucket_19 hl 0 rfl rfl ?_
      obtain ⟨b20_4, e0, hp2⟩ := q_nn_of hp
      clear hp; subst e0; have hp := hp2; clear hp2
      refine q_iald X V dX7_bucket_20 hp (fun v20_5 hp => ?_)
      refine q_if hp (lv_icmp_le (tgt := 26) hx hb dX7_bucket_21 (by decide)) (fun hp => ?_) (fun hp => ?_)
      · refine x_aload_n X dX7_bucket_26 hl 1 rfl rfl ?_
        refine x_iload_n X dX7_bucket_27 hl 0 rfl rfl ?_
        refine x_iload_n X dX7_bucket_28 hl 3 rfl rfl ?_
        obtain ⟨hk, hp⟩ := q_is_of hp
        obtain ⟨⟨G, v29_7⟩, hq, hp⟩ := q_cl_of hp
        dsimp only at hp
        refine q_goi (cells' := 0) (slots' := 0) (va_runV (As := [.int v2_2, .int x2]) (rest := []) X.1 (cX7_bucketAt l E hq) (tw_cwV 2 X.1.2.2.2.2 (tw_3 196 rfl rfl) kX7_bucketAt.2.1 kX7_bucketAt.2.2.1 kX7_bucketAt.2.2.2 kX7_bucketAt.1 rfl rfl hX7_bucketAt ⟨Nat.le_of_ble_eq_true rfl, Nat.le_of_ble_eq_true rfl⟩) (mm_preV X V rfl (by decide) rfl hk) rfl rfl hl.1 rfl (lv_room (Nat.le_of_ble_eq_true rfl)) dX7_bucket_29 ⟨by decide, by decide⟩) V ⟨rfl, rfl⟩ (fun H locs V => ?_)
        refine x_istore (lst' := [(4, .inl v29_7), (3, .inl v2_2), (0, .inr (some a0)), (1, .inl x1), (2, .inl x2)]) X dX7_bucket_32 hl (by decide) rfl (fun ls hl => ?_)
        refine x_aload_n X dX7_bucket_34 hl 2 rfl rfl ?_
        refine x_iload_n X dX7_bucket_35 hl 1 rfl rfl ?_
        refine x_iload X dX7_bucket_36 hl 0 rfl ?_
        obtain ⟨hk, hp⟩ := q_is_of hp
        obtain ⟨⟨G, v38_9⟩, hq, hp⟩ := q_cl_of hp
        dsimp only at hp
        refine q_goi (cells' := 0) (slots' := 0) (va_runV (As := [.int v2_2, .int v29_7]) (rest := []) X.1 (cX7_first l E hq) (tw_cwV 2 X.1.2.2.2.2 (tw_3 200 rfl rfl) kX7_first.2.1 kX7_first.2.2.1 kX7_first.2.2.2 kX7_first.1 rfl rfl hX7_first ⟨Nat.le_of_ble_eq_true rfl, Nat.le_of_ble_eq_true rfl⟩) (mm_preV X V rfl (by decide) rfl hk) rfl rfl hl.1 rfl (lv_room (Nat.le_of_ble_eq_true rfl)) dX7_bucket_38 ⟨by decide, by decide⟩) V ⟨rfl, rfl⟩ (fun H locs V => ?_)
        refine lv_sipush (v := (256 : Int32)) hx hb dX7_bucket_41 (by decide) ?_
        refine x_aload_n X dX7_bucket_44 hl 2 rfl rfl ?_
        refine x_iload_n X dX7_bucket_45 hl 1 rfl rfl ?_
        refine x_iload X dX7_bucket_46 hl 0 rfl ?_
        obtain ⟨hk, hp⟩ := q_is_of hp
        obtain ⟨⟨G, v48_11⟩, hq, hp⟩ := q_cl_of hp
        dsimp only at hp
        refine q_goi (cells' := 0) (slots' := 0) (va_runV (As := [.int v2_2, .int v29_7]) (rest := [.int (256 : Int32), .int v38_9]) X.1 (cX7_held l E hq) (tw_cwV 2 X.1.2.2.2.2 (tw_3 140 rfl rfl) kX7_held.2.1 kX7_held.2.2.1 kX7_held.2.2.2 kX7_held.1 rfl rfl hX7_held ⟨Nat.le_of_ble_eq_true rfl, Nat.le_of_ble_eq_true rfl⟩) (mm_preV X V rfl (by decide) rfl hk) rfl rfl hl.1 rfl (lv_room (Nat.le_of_ble_eq_true rfl)) dX7_bucket_48 ⟨by decide, by decide⟩) V ⟨rfl, rfl⟩ (fun H locs V => ?_)
        refine lv_imul hx hb dX7_bucket_51 ?_
        refine lv_iadd hx hb dX7_bucket_52 ?_
        refine lv_sipush (v := (1024 : Int32)) hx hb dX7_bucket_53 (by decide) ?_
        refine x_aload_n X dX7_bucket_56 hl 2 rfl rfl ?_
        refine q_getI (ci := 7) X V inX7 rfl (by decide) rfl 0 (by decide) rfl (tw_3 29 rfl rfl) rfl dX7_bucket_57 hp (fun v57_12 hp => ?_)
        refine x_aload_n X dX7_bucket_60 hl 2 rfl rfl ?_
        refine q_getR (ci := 7) X V inX7 rfl (by decide) rfl 10 (by decide) rfl (tw_3 39 rfl rfl) rfl dX7_bucket_61 hp (fun r61_13 hp => ?_)
        refine lv_bipush (v := (9 : Int32)) hx hb dX7_bucket_64 (by decide) ?_
        refine x_iload_n X dX7_bucket_66 hl 1 rfl rfl ?_
        refine lv_imul hx hb dX7_bucket_67 ?_
        refine x_iload X dX7_bucket_68 hl 0 rfl ?_
        refine lv_iadd hx hb dX7_bucket_70 ?_
        obtain ⟨b71_14, e0, hp2⟩ := q_nn_of hp
        clear hp; subst e0; have hp := hp2; clear hp2
        refine q_iald X V dX7_bucket_71 hp (fun v71_15 hp => ?_)
        refine lv_isub hx hb dX7_bucket_72 ?_
        refine lv_imul hx hb dX7_bucket_73 ?_
        refine lv_iadd hx hb dX7_bucket_74 ?_
        exact q_iret X V hr ⟨by decide, by decide⟩ dX7_bucket_75 hp
      · refine lv_iconst (v := (-1 : Int32)) hx hb dX7_bucket_24 (by decide) ?_
        exact q_iret X V hr ⟨by decide, by decide⟩ dX7_bucket_25 hp
theorem cX7_bucket (l : Launch) (E : mm_E) {N a0 : Nat} {G : mm_M} {x1 : Int32} {x2 : Int32} {res : mm_M × Int32} (hp : pX7_bucket_0 N a0 G x1 x2 = some res) : Met l yX7_bucket (Cond.code yX7_bucket prog_9_method_45_code 5 (Option.some .int) :: tw_T) rX7_bucket (mm_Pc E G [.ref a0, .int x1, .int x2]) (mm_Qi E res.1 res.2) 0 0 (mm_A E) :=
  mm_met (own := "XorOverlayModel") E G [.inr (some a0), .inl x1, .inl x2] (by decide) rfl rfl (Nat.le_of_ble_eq_true rfl) (fun p e s m args below meth c ls X hr hi V hl => bX7_bucket_0 X hr V hl hp)
abbrev yX7_contact : MethodName := ⟨"XorOverlayModel", "contact", "(III)I"⟩
abbrev rX7_contact : Room := { frames := 3, cells := 0, slots := 0, locals := 72 }
theorem kX7_contact : Cond.code yX7_contact prog_9_method_46_code 7 (Option.some .int) ∈ tw_T ∧ Cond.instanceMethod yX7_contact ∈ tw_T ∧ Cond.selects "XorOverlayModel" yX7_contact yX7_contact ∈ tw_T ∧ Cond.initialized "XorOverlayModel" ∈ tw_T := ⟨(tw_4 53 rfl rfl), (tw_4 51 rfl rfl), (tw_4 52 rfl rfl), (tw_1 3 rfl rfl)⟩
theorem hX7_contact : yX7_contact.cls = "XorOverlayModel" ∧ yX7_contact.cls ≠ "java/lang/invoke/MethodHandle" ∧ yX7_contact.cls ≠ "java/lang/invoke/VarHandle" ∧ (parseMethodDescriptor yX7_contact.desc).map (fun d => d.parameters.length) = some 3 := by decide +kernel
theorem dX7_contact_0 : decode prog_9_method_46_code 0 = .ok (.aload_n 0, 1) := by decide +kernel
theorem dX7_contact_1 : decode prog_9_method_46_code 1 = .ok (.iload_n 1, 1) := by decide +kernel
theorem dX7_contact_2 : decode prog_9_method_46_code 2 = .ok (.invokevirtual 152, 3) := by decide +kernel
theorem dX7_contact_5 : decode prog_9_method_46_code 5 = .ok (.istore 4, 2) := by decide +kernel
theorem dX7_contact_7 : decode prog_9_method_46_code 7 = .ok (.iload 4, 2) := by decide +kernel
theorem dX7_contact_9 : decode prog_9_method_46_code 9 = .ok (.ifCond .lt 27, 3) := by decide +kernel
theorem dX7_contact_12 : decode prog_9_method_46_code 12 = .ok (.iload_n 2, 1) := by decide +kernel
theorem dX7_contact_13 : decode prog_9_method_46_code 13 = .ok (.ifCond .lt 23, 3) := by decide +kernel
theorem dX7_contact_16 : decode prog_9_method_46_code 16 = .ok (.iload_n 2, 1) := by decide +kernel
theorem dX7_contact_17 : decode prog_9_method_46_code 17 = .ok (.aload_n 0, 1) := by decide +kernel
theorem dX7_contact_18 : decode prog_9_method_46_code 18 = .ok (.getfield 26, 3) := by decide +kernel
theorem dX7_contact_21 : decode prog_9_method_46_code 21 = .ok (.iload 4, 2) := by decide +kernel
theorem dX7_contact_23 : decode prog_9_method_46_code 23 = .ok (.iaload, 1) := by decide +kernel
theorem dX7_contact_24 : decode prog_9_method_46_code 24 = .ok (.if_icmp .gt 12, 3) := by decide +kernel
theorem dX7_contact_27 : decode prog_9_method_46_code 27 = .ok (.iload_n 3, 1) := by decide +kernel
theorem dX7_contact_28 : decode prog_9_method_46_code 28 = .ok (.ifCond .lt 8, 3) := by decide +kernel
theorem dX7_contact_31 : decode prog_9_method_46_code 31 = .ok (.iload_n 3, 1) := by decide +kernel
theorem dX7_contact_32 : decode prog_9_method_46_code 32 = .ok (.iconst 2, 1) := by decide +kernel
theorem dX7_contact_33 : decode prog_9_method_46_code 33 = .ok (.if_icmp .le 5, 3) := by decide +kernel
theorem dX7_contact_36 : decode prog_9_method_46_code 36 = .ok (.iconst (-1), 1) := by decide +kernel
theorem dX7_contact_37 : decode prog_9_method_46_code 37 = .ok (.ireturn, 1) := by decide +kernel
theorem dX7_contact_38 : decode prog_9_method_46_code 38 = .ok (.aload_n 0, 1) := by decide +kernel
theorem dX7_contact_39 : decode prog_9_method_46_code 39 = .ok (.iload 4, 2) := by decide +kernel
theorem dX7_contact_41 : decode prog_9_method_46_code 41 = .ok (.iload_n 2, 1) := by decide +kernel
theorem dX7_contact_42 : decode prog_9_method_46_code 42 = .ok (.invokevirtual 166, 3) := by decide +kernel
theorem dX7_contact_45 : decode prog_9_method_46_code 45 = .ok (.istore 5, 2) := by decide +kernel
theorem dX7_contact_47 : decode prog_9_method_46_code 47 = .ok (.aload_n 0, 1) := by decide +kernel
theorem dX7_contact_48 : decode prog_9_method_46_code 48 = .ok (.iload 4, 2) := by decide +kernel
theorem dX7_contact_50 : decode prog_9_method_46_code 50 = .ok (.iload 5, 2) := by decide +kernel
theorem dX7_contact_52 : decode prog_9_method_46_code 52 = .ok (.iload_n 3, 1) := by decide +kernel
theorem dX7_contact_53 : decode prog_9_method_46_code 53 = .ok (.invokevirtual 109, 3) := by decide +kernel
theorem dX7_contact_56 : decode prog_9_method_46_code 56 = .ok (.istore 6, 2) := by decide +kernel
theorem dX7_contact_58 : decode prog_9_method_46_code 58 = .ok (.iload 6, 2) := by decide +kernel
theorem dX7_contact_60 : decode prog_9_method_46_code 60 = .ok (.ifCond .ge 7, 3) := by decide +kernel
theorem dX7_contact_63 : decode prog_9_method_46_code 63 = .ok (.iconst (-1), 1) := by decide +kernel
theorem dX7_contact_64 : decode prog_9_method_46_code 64 = .ok (.goto 28, 3) := by decide +kernel
theorem dX7_contact_67 : decode prog_9_method_46_code 67 = .ok (.aload_n 0, 1) := by decide +kernel
theorem dX7_contact_68 : decode prog_9_method_46_code 68 = .ok (.getfield 7, 3) := by decide +kernel
theorem dX7_contact_71 : decode prog_9_method_46_code 71 = .ok (.iload 6, 2) := by decide +kernel
theorem dX7_contact_73 : decode prog_9_method_46_code 73 = .ok (.iaload, 1) := by decide +kernel
theorem dX7_contact_74 : decode prog_9_method_46_code 74 = .ok (.sipush 256, 3) := by decide +kernel
theorem dX7_contact_77 : decode prog_9_method_46_code 77 = .ok (.aload_n 0, 1) := by decide +kernel
theorem dX7_contact_78 : decode prog_9_method_46_code 78 = .ok (.getfield 23, 3) := by decide +kernel
theorem dX7_contact_81 : decode prog_9_method_46_code 81 = .ok (.bipush 12, 2) := by decide +kernel
theorem dX7_contact_83 : decode prog_9_method_46_code 83 = .ok (.iload 4, 2) := by decide +kernel
theorem dX7_contact_85 : decode prog_9_method_46_code 85 = .ok (.imul, 1) := by decide +kernel
theorem dX7_contact_86 : decode prog_9_method_46_code 86 = .ok (.iload 6, 2) := by decide +kernel
theorem dX7_contact_88 : decode prog_9_method_46_code 88 = .ok (.iadd, 1) := by decide +kernel
theorem dX7_contact_89 : decode prog_9_method_46_code 89 = .ok (.iaload, 1) := by decide +kernel
theorem dX7_contact_90 : decode prog_9_method_46_code 90 = .ok (.imul, 1) := by decide +kernel
theorem dX7_contact_91 : decode prog_9_method_46_code 91 = .ok (.iadd, 1) := by decide +kernel
theorem dX7_contact_92 : decode prog_9_method_46_code 92 = .ok (.ireturn, 1) := by decide +kernel
def pX7_contact_0 (N a0 : Nat) (G : mm_M) (x1 : Int32) (x2 : Int32) (x3 : Int32) : Option (mm_M × Int32) :=
  q_is G a0 8 <|
  q_cl (pX7_at_0 N a0 G x1) fun G v2_2 =>
  if v2_2 < 0 then
    some (G, (-1 : Int32))
  else
    if x2 < 0 then
      some (G, (-1 : Int32))
    else
      q_gR G a0 8 9 fun r18_3 =>
      q_nn r18_3 fun b23_4 =>
      q_aI G b23_4 101 v2_2 fun v23_5 =>
      if v23_5 < x2 then
        some (G, (-1 : Int32))
      else
        if x3 < 0 then
          some (G, (-1 : Int32))
        else
          if x3 ≤ (2 : Int32) then
            q_is G a0 8 <|
            q_cl (pX7_bucketAt_0 N a0 G v2_2 x2) fun G v42_7 =>
            q_is G a0 8 <|
            q_cl (pX7_inOrder_0 N a0 G v2_2 v42_7 x3) fun G v53_9 =>
            if 0 ≤ v53_9 then
              q_gR G a0 8 4 fun r68_10 =>
              q_nn r68_10 fun b73_11 =>
              q_aI G b73_11 101 v53_9 fun v73_12 =>
              q_gR G a0 8 8 fun r78_13 =>
              q_nn r78_13 fun b89_14 =>
              q_aI G b89_14 101 (((12 : Int32) * v2_2) + v53_9) fun v89_15 =>
              some (G, (v73_12 + ((256 : Int32) * v89_15)))
            else
              some (G, (-1 : Int32))
          else
            some (G, (-1 : Int32))
set_option maxRecDepth 100000 in
set_option maxHeartbeats 4000000 in
theorem bX7_contact_0 {p : Program} {l : Launch} {e : Env} {s : State} {m : MethodId} {args : Array Value} {below : List Frame} {meth : Method} {c : Code} {E : mm_E} {N a0 : Nat} {res : mm_M × Int32} (X : mm_X p s m args meth c prog_9_method_46_code 7 "XorOverlayModel" tw_T E) (hr : meth.sig.returnType = (Option.some .int)) {G : mm_M} {H : Heap} {locs : List Loc} {ls : Array Slot} {x1 : Int32} {x2 : Int32} {x3 : Int32} (V : mm_V E s G H locs) (hl : lx_has ls 7 [(0, .inr (some a0)), (1, .inl x1), (2, .inl x2), (3, .inl x3)]) (hp : pX7_contact_0 N a0 G x1 x2 x3 = some res) : W p l e rX7_contact s m args below meth c H locs 0 0 (MQ below (mm_Qi E res.1 res.2) args s 0 0 (mm_A E)) (F0 m 0 ls []) := by
  have hx := X.1.1
  have hb := X.1.2.1
  unfold pX7_contact_0 at hp
  refine x_aload_n X dX7_contact_0 hl 0 rfl rfl ?_
  refine x_iload_n X dX7_contact_1 hl 1 rfl rfl ?_
  obtain ⟨hk, hp⟩ := q_is_of hp
  obtain ⟨⟨G, v2_2⟩, hq, hp⟩ := q_cl_of hp
  dsimp only at hp
  refine q_goi (cells' := 0) (slots' := 0) (va_runV (As := [.int x1]) (rest := []) X.1 (cX7_at l E hq) (tw_cwV 1 X.1.2.2.2.2 (tw_3 116 rfl rfl) kX7_at.2.1 kX7_at.2.2.1 kX7_at.2.2.2 kX7_at.1 rfl rfl hX7_at ⟨Nat.le_of_ble_eq_true rfl, Nat.le_of_ble_eq_true rfl⟩) (mm_preV X V rfl (by decide) rfl hk) rfl rfl hl.1 rfl (lv_room (Nat.le_of_ble_eq_true rfl)) dX7_contact_2 ⟨by decide, by decide⟩) V ⟨rfl, rfl⟩ (fun H locs V => ?_)
  refine x_istore (lst' := [(4, .inl v2_2), (0, .inr (some a0)), (1, .inl x1), (2, .inl x2), (3, .inl x3)]) X dX7_contact_5 hl (by decide) rfl (fun ls hl => ?_)
  refine x_iload X dX7_contact_7 hl 0 rfl ?_
  refine q_if hp (lv_if_lt (tgt := 36) hx hb dX7_contact_9 (by decide)) (fun hp => ?_) (fun hp => ?_)
  · refine lv_iconst (v := (-1 : Int32)) hx hb dX7_contact_36 (by decide) ?_
    exact q_iret X V hr ⟨by decide, by decide⟩ dX7_contact_37 hp
  · refine x_iload_n X dX7_contact_12 hl 3 rfl rfl ?_
    refine q_if hp (lv_if_lt (tgt := 36) hx hb dX7_contact_13 (by decide)) (fun hp => ?_) (fun hp => ?_)
    · refine lv_iconst (v := (-1 : Int32)) hx hb dX7_contact_36 (by decide) ?_
      exact q_iret X V hr ⟨by decide, by decide⟩ dX7_contact_37 hp
    · refine x_iload_n X dX7_contact_16 hl 3 rfl rfl ?_
      refine x_aload_n X dX7_contact_17 hl 1 rfl rfl ?_
      refine q_getR (ci := 7) X V inX7 rfl (by decide) rfl 9 (by decide) rfl (tw_3 38 rfl rfl) rfl dX7_contact_18 hp (fun r18_3 hp => ?_)
      refine x_iload X dX7_contact_21 hl 0 rfl ?_
      obtain ⟨b23_4, e0, hp2⟩ := q_nn_of hp
      clear hp; subst e0; have hp := hp2; clear hp2
      refine q_iald X V dX7_contact_23 hp (fun v23_5 hp => ?_)
      refine q_if hp (lv_icmp_gt (tgt := 36) hx hb dX7_contact_24 (by decide)) (fun hp => ?_) (fun hp => ?_)
      · refine lv_iconst (v := (-1 : Int32)) hx hb dX7_contact_36 (by decide) ?_
        exact q_iret X V hr ⟨by decide, by decide⟩ dX7_contact_37 hp
      · refine x_iload_n X dX7_contact_27 hl 4 rfl rfl ?_
        refine q_if hp (lv_if_lt (tgt := 36) hx hb dX7_contact_28 (by decide)) (fun hp => ?_) (fun hp => ?_)
        · refine lv_iconst (v := (-1 : Int32)) hx hb dX7_contact_36 (by decide) ?_
          exact q_iret X V hr ⟨by decide, by decide⟩ dX7_contact_37 hp
        · refine x_iload_n X dX7_contact_31 hl 4 rfl rfl ?_
          refine lv_iconst (v := (2 : Int32)) hx hb dX7_contact_32 (by decide) ?_
          refine q_if hp (lv_icmp_le (tgt := 38) hx hb dX7_contact_33 (by decide)) (fun hp => ?_) (fun hp => ?_)
          · refine x_aload_n X dX7_contact_38 hl 1 rfl rfl ?_
            refine x_iload X dX7_contact_39 hl 0 rfl ?_
            refine x_iload_n X dX7_contact_41 hl 3 rfl rfl ?_
            obtain ⟨hk, hp⟩ := q_is_of hp
            obtain ⟨⟨G, v42_7⟩, hq, hp⟩ := q_cl_of hp
            dsimp only at hp
            refine q_goi (cells' := 0) (slots' := 0) (va_runV (As := [.int v2_2, .int x2]) (rest := []) X.1 (cX7_bucketAt l E hq) (tw_cwV 2 X.1.2.2.2.2 (tw_3 196 rfl rfl) kX7_bucketAt.2.1 kX7_bucketAt.2.2.1 kX7_bucketAt.2.2.2 kX7_bucketAt.1 rfl rfl hX7_bucketAt ⟨Nat.le_of_ble_eq_true rfl, Nat.le_of_ble_eq_true rfl⟩) (mm_preV X V rfl (by decide) rfl hk) rfl rfl hl.1 rfl (lv_room (Nat.le_of_ble_eq_true rfl)) dX7_contact_42 ⟨by decide, by decide⟩) V ⟨rfl, rfl⟩ (fun H locs V => ?_)
            refine x_istore (lst' := [(5, .inl v42_7), (4, .inl v2_2), (0, .inr (some a0)), (1, .inl x1), (2, .inl x2), (3, .inl x3)]) X dX7_contact_45 hl (by decide) rfl (fun ls hl => ?_)
            refine x_aload_n X dX7_contact_47 hl 2 rfl rfl ?_
            refine x_iload X dX7_contact_48 hl 1 rfl ?_
            refine x_iload X dX7_contact_50 hl 0 rfl ?_
            refine x_iload_n X dX7_contact_52 hl 5 rfl rfl ?_
            obtain ⟨hk, hp⟩ := q_is_of hp
            obtain ⟨⟨G, v53_9⟩, hq, hp⟩ := q_cl_of hp
            dsimp only at hp
            refine q_goi (cells' := 0) (slots' := 0) (va_runV (As := [.int v2_2, .int v42_7, .int x3]) (rest := []) X.1 (cX7_inOrder l E hq) (tw_cwV 3 X.1.2.2.2.2 (tw_3 148 rfl rfl) kX7_inOrder.2.1 kX7_inOrder.2.2.1 kX7_inOrder.2.2.2 kX7_inOrder.1 rfl rfl hX7_inOrder ⟨Nat.le_of_ble_eq_true rfl, Nat.le_of_ble_eq_true rfl⟩) (mm_preV X V rfl (by decide) rfl hk) rfl rfl hl.1 rfl (lv_room (Nat.le_of_ble_eq_true rfl)) dX7_contact_53 ⟨by decide, by decide⟩) V ⟨rfl, rfl⟩ (fun H locs V => ?_)
            refine x_istore (lst' := [(6, .inl v53_9), (5, .inl v42_7), (4, .inl v2_2), (0, .inr (some a0)), (1, .inl x1), (2, .inl x2), (3, .inl x3)]) X dX7_contact_56 hl (by decide) rfl (fun ls hl => ?_)
            refine x_iload X dX7_contact_58 hl 0 rfl ?_
            refine q_if hp (lv_if_ge (tgt := 67) hx hb dX7_contact_60 (by decide)) (fun hp => ?_) (fun hp => ?_)
            · refine x_aload_n X dX7_contact_67 hl 3 rfl rfl ?_
              refine q_getR (ci := 7) X V inX7 rfl (by decide) rfl 4 (by decide) rfl (tw_3 33 rfl rfl) rfl dX7_contact_68 hp (fun r68_10 hp => ?_)
              refine x_iload X dX7_contact_71 hl 0 rfl ?_
              obtain ⟨b73_11, e0, hp2⟩ := q_nn_of hp
              clear hp; subst e0; have hp := hp2; clear hp2
              refine q_iald X V dX7_contact_73 hp (fun v73_12 hp => ?_)
              refine lv_sipush (v := (256 : Int32)) hx hb dX7_contact_74 (by decide) ?_
              refine x_aload_n X dX7_contact_77 hl 3 rfl rfl ?_
              refine q_getR (ci := 7) X V inX7 rfl (by decide) rfl 8 (by decide) rfl (tw_3 37 rfl rfl) rfl dX7_contact_78 hp (fun r78_13 hp => ?_)
              refine lv_bipush (v := (12 : Int32)) hx hb dX7_contact_81 (by decide) ?_
              refine x_iload X dX7_contact_83 hl 2 rfl ?_
              refine lv_imul hx hb dX7_contact_85 ?_
              refine x_iload X dX7_contact_86 hl 0 rfl ?_
              refine lv_iadd hx hb dX7_contact_88 ?_
              obtain ⟨b89_14, e0, hp2⟩ := q_nn_of hp
              clear hp; subst e0; have hp := hp2; clear hp2
              refine q_iald X V dX7_contact_89 hp (fun v89_15 hp => ?_)
              refine lv_imul hx hb dX7_contact_90 ?_
              refine lv_iadd hx hb dX7_contact_91 ?_
              exact q_iret X V hr ⟨by decide, by decide⟩ dX7_contact_92 hp
            · refine lv_iconst (v := (-1 : Int32)) hx hb dX7_contact_63 (by decide) ?_
              refine lv_goto (tgt := 92) hx hb dX7_contact_64 (by decide) ?_
              exact q_iret X V hr ⟨by decide, by decide⟩ dX7_contact_92 hp
          · refine lv_iconst (v := (-1 : Int32)) hx hb dX7_contact_36 (by decide) ?_
            exact q_iret X V hr ⟨by decide, by decide⟩ dX7_contact_37 hp
theorem cX7_contact (l : Launch) (E : mm_E) {N a0 : Nat} {G : mm_M} {x1 : Int32} {x2 : Int32} {x3 : Int32} {res : mm_M × Int32} (hp : pX7_contact_0 N a0 G x1 x2 x3 = some res) : Met l yX7_contact (Cond.code yX7_contact prog_9_method_46_code 7 (Option.some .int) :: tw_T) rX7_contact (mm_Pc E G [.ref a0, .int x1, .int x2, .int x3]) (mm_Qi E res.1 res.2) 0 0 (mm_A E) :=
  mm_met (own := "XorOverlayModel") E G [.inr (some a0), .inl x1, .inl x2, .inl x3] (by decide) rfl rfl (Nat.le_of_ble_eq_true rfl) (fun p e s m args below meth c ls X hr hi V hl => bX7_contact_0 X hr V hl hp)
abbrev yX7_closest : MethodName := ⟨"XorOverlayModel", "closest", "(III)I"⟩
abbrev rX7_closest : Room := { frames := 2, cells := 0, slots := 0, locals := 44 }
theorem kX7_closest : Cond.code yX7_closest prog_9_method_47_code 6 (Option.some .int) ∈ tw_T ∧ Cond.instanceMethod yX7_closest ∈ tw_T ∧ Cond.selects "XorOverlayModel" yX7_closest yX7_closest ∈ tw_T ∧ Cond.initialized "XorOverlayModel" ∈ tw_T := ⟨(tw_4 57 rfl rfl), (tw_4 55 rfl rfl), (tw_4 56 rfl rfl), (tw_1 3 rfl rfl)⟩
theorem hX7_closest : yX7_closest.cls = "XorOverlayModel" ∧ yX7_closest.cls ≠ "java/lang/invoke/MethodHandle" ∧ yX7_closest.cls ≠ "java/lang/invoke/VarHandle" ∧ (parseMethodDescriptor yX7_closest.desc).map (fun d => d.parameters.length) = some 3 := by decide +kernel
theorem dX7_closest_0 : decode prog_9_method_47_code 0 = .ok (.aload_n 0, 1) := by decide +kernel
theorem dX7_closest_1 : decode prog_9_method_47_code 1 = .ok (.iload_n 1, 1) := by decide +kernel
theorem dX7_closest_2 : decode prog_9_method_47_code 2 = .ok (.invokevirtual 152, 3) := by decide +kernel
theorem dX7_closest_5 : decode prog_9_method_47_code 5 = .ok (.istore 4, 2) := by decide +kernel
theorem dX7_closest_7 : decode prog_9_method_47_code 7 = .ok (.iload 4, 2) := by decide +kernel
theorem dX7_closest_9 : decode prog_9_method_47_code 9 = .ok (.ifCond .lt 20, 3) := by decide +kernel
theorem dX7_closest_12 : decode prog_9_method_47_code 12 = .ok (.aload_n 0, 1) := by decide +kernel
theorem dX7_closest_13 : decode prog_9_method_47_code 13 = .ok (.iload_n 2, 1) := by decide +kernel
theorem dX7_closest_14 : decode prog_9_method_47_code 14 = .ok (.invokevirtual 155, 3) := by decide +kernel
theorem dX7_closest_17 : decode prog_9_method_47_code 17 = .ok (.ifCond .eq 12, 3) := by decide +kernel
theorem dX7_closest_20 : decode prog_9_method_47_code 20 = .ok (.iload_n 3, 1) := by decide +kernel
theorem dX7_closest_21 : decode prog_9_method_47_code 21 = .ok (.ifCond .lt 8, 3) := by decide +kernel
theorem dX7_closest_24 : decode prog_9_method_47_code 24 = .ok (.iload_n 3, 1) := by decide +kernel
theorem dX7_closest_25 : decode prog_9_method_47_code 25 = .ok (.iconst 2, 1) := by decide +kernel
theorem dX7_closest_26 : decode prog_9_method_47_code 26 = .ok (.if_icmp .le 5, 3) := by decide +kernel
theorem dX7_closest_29 : decode prog_9_method_47_code 29 = .ok (.iconst (-1), 1) := by decide +kernel
theorem dX7_closest_30 : decode prog_9_method_47_code 30 = .ok (.ireturn, 1) := by decide +kernel
theorem dX7_closest_31 : decode prog_9_method_47_code 31 = .ok (.aload_n 0, 1) := by decide +kernel
theorem dX7_closest_32 : decode prog_9_method_47_code 32 = .ok (.iload 4, 2) := by decide +kernel
theorem dX7_closest_34 : decode prog_9_method_47_code 34 = .ok (.iload_n 2, 1) := by decide +kernel
theorem dX7_closest_35 : decode prog_9_method_47_code 35 = .ok (.iload_n 3, 1) := by decide +kernel
theorem dX7_closest_36 : decode prog_9_method_47_code 36 = .ok (.iconst (-1), 1) := by decide +kernel
theorem dX7_closest_37 : decode prog_9_method_47_code 37 = .ok (.invokevirtual 125, 3) := by decide +kernel
theorem dX7_closest_40 : decode prog_9_method_47_code 40 = .ok (.istore 5, 2) := by decide +kernel
theorem dX7_closest_42 : decode prog_9_method_47_code 42 = .ok (.iload 5, 2) := by decide +kernel
theorem dX7_closest_44 : decode prog_9_method_47_code 44 = .ok (.ifCond .ge 7, 3) := by decide +kernel
theorem dX7_closest_47 : decode prog_9_method_47_code 47 = .ok (.iconst (-1), 1) := by decide +kernel
theorem dX7_closest_48 : decode prog_9_method_47_code 48 = .ok (.goto 10, 3) := by decide +kernel
theorem dX7_closest_51 : decode prog_9_method_47_code 51 = .ok (.aload_n 0, 1) := by decide +kernel
theorem dX7_closest_52 : decode prog_9_method_47_code 52 = .ok (.getfield 7, 3) := by decide +kernel
theorem dX7_closest_55 : decode prog_9_method_47_code 55 = .ok (.iload 5, 2) := by decide +kernel
theorem dX7_closest_57 : decode prog_9_method_47_code 57 = .ok (.iaload, 1) := by decide +kernel
theorem dX7_closest_58 : decode prog_9_method_47_code 58 = .ok (.ireturn, 1) := by decide +kernel
def pX7_closest_0 (N a0 : Nat) (G : mm_M) (x1 : Int32) (x2 : Int32) (x3 : Int32) : Option (mm_M × Int32) :=
  q_is G a0 8 <|
  q_cl (pX7_at_0 N a0 G x1) fun G v2_2 =>
  if v2_2 < 0 then
    some (G, (-1 : Int32))
  else
    q_is G a0 8 <|
    q_cl (pX7_number_0 N a0 G x2) fun G v14_4 =>
    if v14_4 = 0 then
      some (G, (-1 : Int32))
    else
      if x3 < 0 then
        some (G, (-1 : Int32))
      else
        if x3 ≤ (2 : Int32) then
          q_is G a0 8 <|
          q_cl (pX7_near_0 N a0 G v2_2 x2 x3 (-1 : Int32)) fun G v37_6 =>
          if 0 ≤ v37_6 then
            q_gR G a0 8 4 fun r52_7 =>
            q_nn r52_7 fun b57_8 =>
            q_aI G b57_8 101 v37_6 fun v57_9 =>
            some (G, v57_9)
          else
            some (G, (-1 : Int32))
        else
          some (G, (-1 : Int32))
set_option maxRecDepth 100000 in
set_option maxHeartbeats 4000000 in
theorem bX7_closest_0 {p : Program} {l : Launch} {e : Env} {s : State} {m : MethodId} {args : Array Value} {below : List Frame} {meth : Method} {c : Code} {E : mm_E} {N a0 : Nat} {res : mm_M × Int32} (X : mm_X p s m args meth c prog_9_method_47_code 6 "XorOverlayModel" tw_T E) (hr : meth.sig.returnType = (Option.some .int)) {G : mm_M} {H : Heap} {locs : List Loc} {ls : Array Slot} {x1 : Int32} {x2 : Int32} {x3 : Int32} (V : mm_V E s G H locs) (hl : lx_has ls 6 [(0, .inr (some a0)), (1, .inl x1), (2, .inl x2), (3, .inl x3)]) (hp : pX7_closest_0 N a0 G x1 x2 x3 = some res) : W p l e rX7_closest s m args below meth c H locs 0 0 (MQ below (mm_Qi E res.1 res.2) args s 0 0 (mm_A E)) (F0 m 0 ls []) := by
  have hx := X.1.1
  have hb := X.1.2.1
  unfold pX7_closest_0 at hp
  refine x_aload_n X dX7_closest_0 hl 0 rfl rfl ?_
  refine x_iload_n X dX7_closest_1 hl 1 rfl rfl ?_
  obtain ⟨hk, hp⟩ := q_is_of hp
  obtain ⟨⟨G, v2_2⟩, hq, hp⟩ := q_cl_of hp
  dsimp only at hp
  refine q_goi (cells' := 0) (slots' := 0) (va_runV (As := [.int x1]) (rest := []) X.1 (cX7_at l E hq) (tw_cwV 1 X.1.2.2.2.2 (tw_3 116 rfl rfl) kX7_at.2.1 kX7_at.2.2.1 kX7_at.2.2.2 kX7_at.1 rfl rfl hX7_at ⟨Nat.le_of_ble_eq_true rfl, Nat.le_of_ble_eq_true rfl⟩) (mm_preV X V rfl (by decide) rfl hk) rfl rfl hl.1 rfl (lv_room (Nat.le_of_ble_eq_true rfl)) dX7_closest_2 ⟨by decide, by decide⟩) V ⟨rfl, rfl⟩ (fun H locs V => ?_)
  refine x_istore (lst' := [(4, .inl v2_2), (0, .inr (some a0)), (1, .inl x1), (2, .inl x2), (3, .inl x3)]) X dX7_closest_5 hl (by decide) rfl (fun ls hl => ?_)
  refine x_iload X dX7_closest_7 hl 0 rfl ?_
  refine q_if hp (lv_if_lt (tgt := 29) hx hb dX7_closest_9 (by decide)) (fun hp => ?_) (fun hp => ?_)
  · refine lv_iconst (v := (-1 : Int32)) hx hb dX7_closest_29 (by decide) ?_
    exact q_iret X V hr ⟨by decide, by decide⟩ dX7_closest_30 hp
  · refine x_aload_n X dX7_closest_12 hl 1 rfl rfl ?_
    refine x_iload_n X dX7_closest_13 hl 3 rfl rfl ?_
    obtain ⟨hk, hp⟩ := q_is_of hp
    obtain ⟨⟨G, v14_4⟩, hq, hp⟩ := q_cl_of hp
    dsimp only at hp
    refine q_goi (cells' := 0) (slots' := 0) (va_runV (As := [.int x2]) (rest := []) X.1 (cX7_number l E hq) (tw_cwV 1 X.1.2.2.2.2 (tw_3 124 rfl rfl) kX7_number.2.1 kX7_number.2.2.1 kX7_number.2.2.2 kX7_number.1 rfl rfl hX7_number ⟨Nat.le_of_ble_eq_true rfl, Nat.le_of_ble_eq_true rfl⟩) (mm_preV X V rfl (by decide) rfl hk) rfl rfl hl.1 rfl (lv_room (Nat.le_of_ble_eq_true rfl)) dX7_closest_14 ⟨by decide, by decide⟩) V ⟨rfl, rfl⟩ (fun H locs V => ?_)
    refine q_if hp (lv_if_eq (tgt := 29) hx hb dX7_closest_17 (by decide)) (fun hp => ?_) (fun hp => ?_)
    · refine lv_iconst (v := (-1 : Int32)) hx hb dX7_closest_29 (by decide) ?_
      exact q_iret X V hr ⟨by decide, by decide⟩ dX7_closest_30 hp
    · refine x_iload_n X dX7_closest_20 hl 4 rfl rfl ?_
      refine q_if hp (lv_if_lt (tgt := 29) hx hb dX7_closest_21 (by decide)) (fun hp => ?_) (fun hp => ?_)
      · refine lv_iconst (v := (-1 : Int32)) hx hb dX7_closest_29 (by decide) ?_
        exact q_iret X V hr ⟨by decide, by decide⟩ dX7_closest_30 hp
      · refine x_iload_n X dX7_closest_24 hl 4 rfl rfl ?_
        refine lv_iconst (v := (2 : Int32)) hx hb dX7_closest_25 (by decide) ?_
        refine q_if hp (lv_icmp_le (tgt := 31) hx hb dX7_closest_26 (by decide)) (fun hp => ?_) (fun hp => ?_)
        · refine x_aload_n X dX7_closest_31 hl 1 rfl rfl ?_
          refine x_iload X dX7_closest_32 hl 0 rfl ?_
          refine x_iload_n X dX7_closest_34 hl 3 rfl rfl ?_
          refine x_iload_n X dX7_closest_35 hl 4 rfl rfl ?_
          refine lv_iconst (v := (-1 : Int32)) hx hb dX7_closest_36 (by decide) ?_
          obtain ⟨hk, hp⟩ := q_is_of hp
          obtain ⟨⟨G, v37_6⟩, hq, hp⟩ := q_cl_of hp
          dsimp only at hp
          refine q_goi (cells' := 0) (slots' := 0) (va_runV (As := [.int v2_2, .int x2, .int x3, .int (-1 : Int32)]) (rest := []) X.1 (cX7_near l E hq) (tw_cwV 4 X.1.2.2.2.2 (tw_3 156 rfl rfl) kX7_near.2.1 kX7_near.2.2.1 kX7_near.2.2.2 kX7_near.1 rfl rfl hX7_near ⟨Nat.le_of_ble_eq_true rfl, Nat.le_of_ble_eq_true rfl⟩) (mm_preV X V rfl (by decide) rfl hk) rfl rfl hl.1 rfl (lv_room (Nat.le_of_ble_eq_true rfl)) dX7_closest_37 ⟨by decide, by decide⟩) V ⟨rfl, rfl⟩ (fun H locs V => ?_)
          refine x_istore (lst' := [(5, .inl v37_6), (4, .inl v2_2), (0, .inr (some a0)), (1, .inl x1), (2, .inl x2), (3, .inl x3)]) X dX7_closest_40 hl (by decide) rfl (fun ls hl => ?_)
          refine x_iload X dX7_closest_42 hl 0 rfl ?_
          refine q_if hp (lv_if_ge (tgt := 51) hx hb dX7_closest_44 (by decide)) (fun hp => ?_) (fun hp => ?_)
          · refine x_aload_n X dX7_closest_51 hl 2 rfl rfl ?_
            refine q_getR (ci := 7) X V inX7 rfl (by decide) rfl 4 (by decide) rfl (tw_3 33 rfl rfl) rfl dX7_closest_52 hp (fun r52_7 hp => ?_)
            refine x_iload X dX7_closest_55 hl 0 rfl ?_
            obtain ⟨b57_8, e0, hp2⟩ := q_nn_of hp
            clear hp; subst e0; have hp := hp2; clear hp2
            refine q_iald X V dX7_closest_57 hp (fun v57_9 hp => ?_)
            exact q_iret X V hr ⟨by decide, by decide⟩ dX7_closest_58 hp
          · refine lv_iconst (v := (-1 : Int32)) hx hb dX7_closest_47 (by decide) ?_
            refine lv_goto (tgt := 58) hx hb dX7_closest_48 (by decide) ?_
            exact q_iret X V hr ⟨by decide, by decide⟩ dX7_closest_58 hp
        · refine lv_iconst (v := (-1 : Int32)) hx hb dX7_closest_29 (by decide) ?_
          exact q_iret X V hr ⟨by decide, by decide⟩ dX7_closest_30 hp
theorem cX7_closest (l : Launch) (E : mm_E) {N a0 : Nat} {G : mm_M} {x1 : Int32} {x2 : Int32} {x3 : Int32} {res : mm_M × Int32} (hp : pX7_closest_0 N a0 G x1 x2 x3 = some res) : Met l yX7_closest (Cond.code yX7_closest prog_9_method_47_code 6 (Option.some .int) :: tw_T) rX7_closest (mm_Pc E G [.ref a0, .int x1, .int x2, .int x3]) (mm_Qi E res.1 res.2) 0 0 (mm_A E) :=
  mm_met (own := "XorOverlayModel") E G [.inr (some a0), .inl x1, .inl x2, .inl x3] (by decide) rfl rfl (Nat.le_of_ble_eq_true rfl) (fun p e s m args below meth c ls X hr hi V hl => bX7_closest_0 X hr V hl hp)
abbrev yX7_entry : MethodName := ⟨"XorOverlayModel", "entry", "(II)I"⟩
abbrev rX7_entry : Room := { frames := 2, cells := 0, slots := 0, locals := 44 }
theorem kX7_entry : Cond.code yX7_entry prog_9_method_48_code 4 (Option.some .int) ∈ tw_T ∧ Cond.instanceMethod yX7_entry ∈ tw_T ∧ Cond.selects "XorOverlayModel" yX7_entry yX7_entry ∈ tw_T ∧ Cond.initialized "XorOverlayModel" ∈ tw_T := ⟨(tw_4 61 rfl rfl), (tw_4 59 rfl rfl), (tw_4 60 rfl rfl), (tw_1 3 rfl rfl)⟩
theorem hX7_entry : yX7_entry.cls = "XorOverlayModel" ∧ yX7_entry.cls ≠ "java/lang/invoke/MethodHandle" ∧ yX7_entry.cls ≠ "java/lang/invoke/VarHandle" ∧ (parseMethodDescriptor yX7_entry.desc).map (fun d => d.parameters.length) = some 2 := by decide +kernel
theorem dX7_entry_0 : decode prog_9_method_48_code 0 = .ok (.aload_n 0, 1) := by decide +kernel
theorem dX7_entry_1 : decode prog_9_method_48_code 1 = .ok (.iload_n 1, 1) := by decide +kernel
theorem dX7_entry_2 : decode prog_9_method_48_code 2 = .ok (.invokevirtual 152, 3) := by decide +kernel
theorem dX7_entry_5 : decode prog_9_method_48_code 5 = .ok (.istore_n 3, 1) := by decide +kernel
theorem dX7_entry_6 : decode prog_9_method_48_code 6 = .ok (.iload_n 3, 1) := by decide +kernel
theorem dX7_entry_7 : decode prog_9_method_48_code 7 = .ok (.ifCond .lt 17, 3) := by decide +kernel
theorem dX7_entry_10 : decode prog_9_method_48_code 10 = .ok (.iload_n 2, 1) := by decide +kernel
theorem dX7_entry_11 : decode prog_9_method_48_code 11 = .ok (.ifCond .lt 13, 3) := by decide +kernel
theorem dX7_entry_14 : decode prog_9_method_48_code 14 = .ok (.iload_n 2, 1) := by decide +kernel
theorem dX7_entry_15 : decode prog_9_method_48_code 15 = .ok (.aload_n 0, 1) := by decide +kernel
theorem dX7_entry_16 : decode prog_9_method_48_code 16 = .ok (.getfield 32, 3) := by decide +kernel
theorem dX7_entry_19 : decode prog_9_method_48_code 19 = .ok (.iload_n 3, 1) := by decide +kernel
theorem dX7_entry_20 : decode prog_9_method_48_code 20 = .ok (.iaload, 1) := by decide +kernel
theorem dX7_entry_21 : decode prog_9_method_48_code 21 = .ok (.if_icmp .lt 5, 3) := by decide +kernel
theorem dX7_entry_24 : decode prog_9_method_48_code 24 = .ok (.iconst (-1), 1) := by decide +kernel
theorem dX7_entry_25 : decode prog_9_method_48_code 25 = .ok (.ireturn, 1) := by decide +kernel
theorem dX7_entry_26 : decode prog_9_method_48_code 26 = .ok (.aload_n 0, 1) := by decide +kernel
theorem dX7_entry_27 : decode prog_9_method_48_code 27 = .ok (.getfield 35, 3) := by decide +kernel
theorem dX7_entry_30 : decode prog_9_method_48_code 30 = .ok (.bipush 6, 2) := by decide +kernel
theorem dX7_entry_32 : decode prog_9_method_48_code 32 = .ok (.iload_n 3, 1) := by decide +kernel
theorem dX7_entry_33 : decode prog_9_method_48_code 33 = .ok (.imul, 1) := by decide +kernel
theorem dX7_entry_34 : decode prog_9_method_48_code 34 = .ok (.iload_n 2, 1) := by decide +kernel
theorem dX7_entry_35 : decode prog_9_method_48_code 35 = .ok (.iadd, 1) := by decide +kernel
theorem dX7_entry_36 : decode prog_9_method_48_code 36 = .ok (.iaload, 1) := by decide +kernel
theorem dX7_entry_37 : decode prog_9_method_48_code 37 = .ok (.sipush 256, 3) := by decide +kernel
theorem dX7_entry_40 : decode prog_9_method_48_code 40 = .ok (.aload_n 0, 1) := by decide +kernel
theorem dX7_entry_41 : decode prog_9_method_48_code 41 = .ok (.getfield 38, 3) := by decide +kernel
theorem dX7_entry_44 : decode prog_9_method_48_code 44 = .ok (.bipush 6, 2) := by decide +kernel
theorem dX7_entry_46 : decode prog_9_method_48_code 46 = .ok (.iload_n 3, 1) := by decide +kernel
theorem dX7_entry_47 : decode prog_9_method_48_code 47 = .ok (.imul, 1) := by decide +kernel
theorem dX7_entry_48 : decode prog_9_method_48_code 48 = .ok (.iload_n 2, 1) := by decide +kernel
theorem dX7_entry_49 : decode prog_9_method_48_code 49 = .ok (.iadd, 1) := by decide +kernel
theorem dX7_entry_50 : decode prog_9_method_48_code 50 = .ok (.iaload, 1) := by decide +kernel
theorem dX7_entry_51 : decode prog_9_method_48_code 51 = .ok (.imul, 1) := by decide +kernel
theorem dX7_entry_52 : decode prog_9_method_48_code 52 = .ok (.iadd, 1) := by decide +kernel
theorem dX7_entry_53 : decode prog_9_method_48_code 53 = .ok (.ldc 193, 2) := by decide +kernel
theorem dX7_entry_55 : decode prog_9_method_48_code 55 = .ok (.aload_n 0, 1) := by decide +kernel
theorem dX7_entry_56 : decode prog_9_method_48_code 56 = .ok (.getfield 41, 3) := by decide +kernel
theorem dX7_entry_59 : decode prog_9_method_48_code 59 = .ok (.bipush 6, 2) := by decide +kernel
theorem dX7_entry_61 : decode prog_9_method_48_code 61 = .ok (.iload_n 3, 1) := by decide +kernel
theorem dX7_entry_62 : decode prog_9_method_48_code 62 = .ok (.imul, 1) := by decide +kernel
theorem dX7_entry_63 : decode prog_9_method_48_code 63 = .ok (.iload_n 2, 1) := by decide +kernel
theorem dX7_entry_64 : decode prog_9_method_48_code 64 = .ok (.iadd, 1) := by decide +kernel
theorem dX7_entry_65 : decode prog_9_method_48_code 65 = .ok (.iaload, 1) := by decide +kernel
theorem dX7_entry_66 : decode prog_9_method_48_code 66 = .ok (.aload_n 0, 1) := by decide +kernel
theorem dX7_entry_67 : decode prog_9_method_48_code 67 = .ok (.getfield 99, 3) := by decide +kernel
theorem dX7_entry_70 : decode prog_9_method_48_code 70 = .ok (.isub, 1) := by decide +kernel
theorem dX7_entry_71 : decode prog_9_method_48_code 71 = .ok (.imul, 1) := by decide +kernel
theorem dX7_entry_72 : decode prog_9_method_48_code 72 = .ok (.iadd, 1) := by decide +kernel
theorem dX7_entry_73 : decode prog_9_method_48_code 73 = .ok (.ireturn, 1) := by decide +kernel
def pX7_entry_0 (N a0 : Nat) (G : mm_M) (x1 : Int32) (x2 : Int32) : Option (mm_M × Int32) :=
  q_is G a0 8 <|
  q_cl (pX7_at_0 N a0 G x1) fun G v2_2 =>
  if v2_2 < 0 then
    some (G, (-1 : Int32))
  else
    if x2 < 0 then
      some (G, (-1 : Int32))
    else
      q_gR G a0 8 11 fun r16_3 =>
      q_nn r16_3 fun b20_4 =>
      q_aI G b20_4 101 v2_2 fun v20_5 =>
      if x2 < v20_5 then
        q_gR G a0 8 12 fun r27_6 =>
        q_nn r27_6 fun b36_7 =>
        q_aI G b36_7 101 (((6 : Int32) * v2_2) + x2) fun v36_8 =>
        q_gR G a0 8 13 fun r41_9 =>
        q_nn r41_9 fun b50_10 =>
        q_aI G b50_10 101 (((6 : Int32) * v2_2) + x2) fun v50_11 =>
        q_gR G a0 8 14 fun r56_12 =>
        q_nn r56_12 fun b65_13 =>
        q_aI G b65_13 101 (((6 : Int32) * v2_2) + x2) fun v65_14 =>
        q_gI G a0 8 0 fun v67_15 =>
        some (G, ((v36_8 + ((256 : Int32) * v50_11)) + ((65536 : Int32) * (v65_14 - v67_15))))
      else
        some (G, (-1 : Int32))
set_option maxRecDepth 100000 in
set_option maxHeartbeats 4000000 in
theorem bX7_entry_0 {p : Program} {l : Launch} {e : Env} {s : State} {m : MethodId} {args : Array Value} {below : List Frame} {meth : Method} {c : Code} {E : mm_E} {N a0 : Nat} {res : mm_M × Int32} (X : mm_X p s m args meth c prog_9_method_48_code 4 "XorOverlayModel" tw_T E) (hr : meth.sig.returnType = (Option.some .int)) {G : mm_M} {H : Heap} {locs : List Loc} {ls : Array Slot} {x1 : Int32} {x2 : Int32} (V : mm_V E s G H locs) (hl : lx_has ls 4 [(0, .inr (some a0)), (1, .inl x1), (2, .inl x2)]) (hp : pX7_entry_0 N a0 G x1 x2 = some res) : W p l e rX7_entry s m args below meth c H locs 0 0 (MQ below (mm_Qi E res.1 res.2) args s 0 0 (mm_A E)) (F0 m 0 ls []) := by
  have hx := X.1.1
  have hb := X.1.2.1
  unfold pX7_entry_0 at hp
  refine x_aload_n X dX7_entry_0 hl 0 rfl rfl ?_
  refine x_iload_n X dX7_entry_1 hl 1 rfl rfl ?_
  obtain ⟨hk, hp⟩ := q_is_of hp
  obtain ⟨⟨G, v2_2⟩, hq, hp⟩ := q_cl_of hp
  dsimp only at hp
  refine q_goi (cells' := 0) (slots' := 0) (va_runV (As := [.int x1]) (rest := []) X.1 (cX7_at l E hq) (tw_cwV 1 X.1.2.2.2.2 (tw_3 116 rfl rfl) kX7_at.2.1 kX7_at.2.2.1 kX7_at.2.2.2 kX7_at.1 rfl rfl hX7_at ⟨Nat.le_of_ble_eq_true rfl, Nat.le_of_ble_eq_true rfl⟩) (mm_preV X V rfl (by decide) rfl hk) rfl rfl hl.1 rfl (lv_room (Nat.le_of_ble_eq_true rfl)) dX7_entry_2 ⟨by decide, by decide⟩) V ⟨rfl, rfl⟩ (fun H locs V => ?_)
  refine x_istore_n (lst' := [(3, .inl v2_2), (0, .inr (some a0)), (1, .inl x1), (2, .inl x2)]) X dX7_entry_5 hl rfl (by decide) rfl (fun ls hl => ?_)
  refine x_iload_n X dX7_entry_6 hl 0 rfl rfl ?_
  refine q_if hp (lv_if_lt (tgt := 24) hx hb dX7_entry_7 (by decide)) (fun hp => ?_) (fun hp => ?_)
  · refine lv_iconst (v := (-1 : Int32)) hx hb dX7_entry_24 (by decide) ?_
    exact q_iret X V hr ⟨by decide, by decide⟩ dX7_entry_25 hp
  · refine x_iload_n X dX7_entry_10 hl 3 rfl rfl ?_
    refine q_if hp (lv_if_lt (tgt := 24) hx hb dX7_entry_11 (by decide)) (fun hp => ?_) (fun hp => ?_)
    · refine lv_iconst (v := (-1 : Int32)) hx hb dX7_entry_24 (by decide) ?_
      exact q_iret X V hr ⟨by decide, by decide⟩ dX7_entry_25 hp
    · refine x_iload_n X dX7_entry_14 hl 3 rfl rfl ?_
      refine x_aload_n X dX7_entry_15 hl 1 rfl rfl ?_
      refine q_getR (ci := 7) X V inX7 rfl (by decide) rfl 11 (by decide) rfl (tw_3 40 rfl rfl) rfl dX7_entry_16 hp (fun r16_3 hp => ?_)
      refine x_iload_n X dX7_entry_19 hl 0 rfl rfl ?_
      obtain ⟨b20_4, e0, hp2⟩ := q_nn_of hp
      clear hp; subst e0; have hp := hp2; clear hp2
      refine q_iald X V dX7_entry_20 hp (fun v20_5 hp => ?_)
      refine q_if hp (lv_icmp_lt (tgt := 26) hx hb dX7_entry_21 (by decide)) (fun hp => ?_) (fun hp => ?_)
      · refine x_aload_n X dX7_entry_26 hl 1 rfl rfl ?_
        refine q_getR (ci := 7) X V inX7 rfl (by decide) rfl 12 (by decide) rfl (tw_3 41 rfl rfl) rfl dX7_entry_27 hp (fun r27_6 hp => ?_)
        refine lv_bipush (v := (6 : Int32)) hx hb dX7_entry_30 (by decide) ?_
        refine x_iload_n X dX7_entry_32 hl 0 rfl rfl ?_
        refine lv_imul hx hb dX7_entry_33 ?_
        refine x_iload_n X dX7_entry_34 hl 3 rfl rfl ?_
        refine lv_iadd hx hb dX7_entry_35 ?_
        obtain ⟨b36_7, e0, hp2⟩ := q_nn_of hp
        clear hp; subst e0; have hp := hp2; clear hp2
        refine q_iald X V dX7_entry_36 hp (fun v36_8 hp => ?_)
        refine lv_sipush (v := (256 : Int32)) hx hb dX7_entry_37 (by decide) ?_
        refine x_aload_n X dX7_entry_40 hl 1 rfl rfl ?_
        refine q_getR (ci := 7) X V inX7 rfl (by decide) rfl 13 (by decide) rfl (tw_3 42 rfl rfl) rfl dX7_entry_41 hp (fun r41_9 hp => ?_)
        refine lv_bipush (v := (6 : Int32)) hx hb dX7_entry_44 (by decide) ?_
        refine x_iload_n X dX7_entry_46 hl 0 rfl rfl ?_
        refine lv_imul hx hb dX7_entry_47 ?_
        refine x_iload_n X dX7_entry_48 hl 3 rfl rfl ?_
        refine lv_iadd hx hb dX7_entry_49 ?_
        obtain ⟨b50_10, e0, hp2⟩ := q_nn_of hp
        clear hp; subst e0; have hp := hp2; clear hp2
        refine q_iald X V dX7_entry_50 hp (fun v50_11 hp => ?_)
        refine lv_imul hx hb dX7_entry_51 ?_
        refine lv_iadd hx hb dX7_entry_52 ?_
        refine lv_ldc (v := (65536 : Int32)) hx hb X.1.2.2.2.1 (X.1.2.2.2.2 _ (tw_4 62 rfl rfl)) dX7_entry_53 ?_
        refine x_aload_n X dX7_entry_55 hl 1 rfl rfl ?_
        refine q_getR (ci := 7) X V inX7 rfl (by decide) rfl 14 (by decide) rfl (tw_3 43 rfl rfl) rfl dX7_entry_56 hp (fun r56_12 hp => ?_)
        refine lv_bipush (v := (6 : Int32)) hx hb dX7_entry_59 (by decide) ?_
        refine x_iload_n X dX7_entry_61 hl 0 rfl rfl ?_
        refine lv_imul hx hb dX7_entry_62 ?_
        refine x_iload_n X dX7_entry_63 hl 3 rfl rfl ?_
        refine lv_iadd hx hb dX7_entry_64 ?_
        obtain ⟨b65_13, e0, hp2⟩ := q_nn_of hp
        clear hp; subst e0; have hp := hp2; clear hp2
        refine q_iald X V dX7_entry_65 hp (fun v65_14 hp => ?_)
        refine x_aload_n X dX7_entry_66 hl 1 rfl rfl ?_
        refine q_getI (ci := 7) X V inX7 rfl (by decide) rfl 0 (by decide) rfl (tw_3 29 rfl rfl) rfl dX7_entry_67 hp (fun v67_15 hp => ?_)
        refine lv_isub hx hb dX7_entry_70 ?_
        refine lv_imul hx hb dX7_entry_71 ?_
        refine lv_iadd hx hb dX7_entry_72 ?_
        exact q_iret X V hr ⟨by decide, by decide⟩ dX7_entry_73 hp
      · refine lv_iconst (v := (-1 : Int32)) hx hb dX7_entry_24 (by decide) ?_
        exact q_iret X V hr ⟨by decide, by decide⟩ dX7_entry_25 hp
theorem cX7_entry (l : Launch) (E : mm_E) {N a0 : Nat} {G : mm_M} {x1 : Int32} {x2 : Int32} {res : mm_M × Int32} (hp : pX7_entry_0 N a0 G x1 x2 = some res) : Met l yX7_entry (Cond.code yX7_entry prog_9_method_48_code 4 (Option.some .int) :: tw_T) rX7_entry (mm_Pc E G [.ref a0, .int x1, .int x2]) (mm_Qi E res.1 res.2) 0 0 (mm_A E) :=
  mm_met (own := "XorOverlayModel") E G [.inr (some a0), .inl x1, .inl x2] (by decide) rfl rfl (Nat.le_of_ble_eq_true rfl) (fun p e s m args below meth c ls X hr hi V hl => bX7_entry_0 X hr V hl hp)
