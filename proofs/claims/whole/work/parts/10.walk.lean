abbrev yX2_init : MethodName := ⟨"XorOverlay$Line", "<init>", "()V"⟩
abbrev rX2_init : Room := { frames := 1, cells := 1, slots := 288, locals := 30 }
theorem kX2_init : Cond.code yX2_init prog_4_method_1_code 1 none ∈ tw_T ∧ Cond.instanceMethod yX2_init ∈ tw_T ∧ Cond.initialized "XorOverlay$Line" ∈ tw_T := ⟨(tw_1 25 rfl rfl), (tw_1 24 rfl rfl), (tw_1 2 rfl rfl)⟩
theorem hX2_init : yX2_init.cls = "XorOverlay$Line" ∧ yX2_init.cls ≠ "java/lang/invoke/MethodHandle" ∧ yX2_init.cls ≠ "java/lang/invoke/VarHandle" ∧ (parseMethodDescriptor yX2_init.desc).map (fun d => d.parameters.length) = some 0 := by decide +kernel
theorem dX2_init_0 : decode prog_4_method_1_code 0 = .ok (.aload_n 0, 1) := by decide +kernel
theorem dX2_init_1 : decode prog_4_method_1_code 1 = .ok (.invokespecial 3, 3) := by decide +kernel
theorem dX2_init_4 : decode prog_4_method_1_code 4 = .ok (.aload_n 0, 1) := by decide +kernel
theorem dX2_init_5 : decode prog_4_method_1_code 5 = .ok (.sipush 288, 3) := by decide +kernel
theorem dX2_init_8 : decode prog_4_method_1_code 8 = .ok (.newarray .int, 2) := by decide +kernel
theorem dX2_init_10 : decode prog_4_method_1_code 10 = .ok (.putfield 11, 3) := by decide +kernel
theorem dX2_init_13 : decode prog_4_method_1_code 13 = .ok (.aload_n 0, 1) := by decide +kernel
theorem dX2_init_14 : decode prog_4_method_1_code 14 = .ok (.iconst 0, 1) := by decide +kernel
theorem dX2_init_15 : decode prog_4_method_1_code 15 = .ok (.putfield 15, 3) := by decide +kernel
theorem dX2_init_18 : decode prog_4_method_1_code 18 = .ok (.return_, 1) := by decide +kernel
def pX2_init_0 (N a0 : Nat) (G : mm_M) : Option (mm_M × Unit) :=
  q_arr G 101 288 fun G b8_1 =>
  q_pR G a0 3 0 (some b8_1) fun G =>
  q_pI G a0 3 1 (0 : Int32) fun G =>
  some (G, ())
set_option maxRecDepth 100000 in
set_option maxHeartbeats 4000000 in
theorem bX2_init_0 {p : Program} {l : Launch} {e : Env} {s : State} {m : MethodId} {args : Array Value} {below : List Frame} {meth : Method} {c : Code} {E : mm_E} {N a0 : Nat} {res : mm_M × Unit} (X : mm_X p s m args meth c prog_4_method_1_code 1 "XorOverlay$Line" tw_T E) (hr : meth.sig.returnType = none) (hi : meth.name = "<init>") {G : mm_M} {H : Heap} {locs : List Loc} {ls : Array Slot} (V : mm_V E s G H locs) (hl : lx_has ls 1 [(0, .inr (some a0))]) (hp : pX2_init_0 N a0 G = some res) : W p l e rX2_init s m args below meth c H locs 0 0 (MQ below (mm_Qv E res.1) args s 1 288 (mm_A E)) (F0 m 0 ls []) := by
  have hx := X.1.1
  have hb := X.1.2.1
  unfold pX2_init_0 at hp
  refine x_aload_n X dX2_init_0 hl 0 rfl rfl ?_
  refine W.objInit hx hb X.1.2.2.2.1 (X.1.2.2.2.2 _ (tw_1 26 rfl rfl)) (X.1.2.2.2.2 _ (tw_1 17 rfl rfl)) (X.1.2.2.2.2 _ (tw_1 18 rfl rfl)) rfl (by rw [X.1.2.2.1]; exact hl.1) rfl dX2_init_1 (by decide) (Nat.le_of_ble_eq_true rfl) ?_
  refine W.eq (g2 := F0 m 4 ls ([])) rfl ?_
  refine x_aload_n X dX2_init_4 hl 0 rfl rfl ?_
  refine lv_sipush (v := (288 : Int32)) hx hb dX2_init_5 (by decide) ?_
  refine q_arrI (N := 288) X V (tw_1 35 rfl rfl) (by decide) (by decide) (by decide) (by decide) (by decide) rfl dX2_init_8 hp (fun G b8_1 H V hp => ?_)
  refine W.cs (cells' := 1) (slots' := 288) rfl rfl ?_
  refine q_putR (ci := 2) X V inX2 rfl tyX2 tyX2_ok nmX2 (by decide) rfl 0 (by decide) rfl (tw_1 27 rfl rfl) rfl (Or.inr ⟨rfl, hi, rfl⟩) (.array .int) rfl (va_rf_narrowA _ _) (va_rf_fitsA _ _) dX2_init_10 hp (fun G H locs V hp => ?_)
  refine x_aload_n X dX2_init_13 hl 0 rfl rfl ?_
  refine lv_iconst (v := (0 : Int32)) hx hb dX2_init_14 (by decide) ?_
  refine q_putI (ci := 2) X V inX2 rfl tyX2 tyX2_ok nmX2 (by decide) rfl 1 (by decide) rfl (tw_1 28 rfl rfl) rfl (Or.inl rfl) .int rfl rfl rfl dX2_init_15 hp (fun G H locs V hp => ?_)
  exact q_vret X V hr ⟨by decide, by decide⟩ dX2_init_18 hp
theorem cX2_init (l : Launch) (E : mm_E) {N a0 : Nat} {G : mm_M} {res : mm_M × Unit} (hp : pX2_init_0 N a0 G = some res) : Met l yX2_init (Cond.code yX2_init prog_4_method_1_code 1 none :: tw_T) rX2_init (mm_Pc E G [.ref a0]) (mm_Qv E res.1) 1 288 (mm_A E) :=
  mm_met (own := "XorOverlay$Line") E G [.inr (some a0)] (by decide) rfl rfl (Nat.le_of_ble_eq_true rfl) (fun p e s m args below meth c ls X hr hi V hl => bX2_init_0 X hr hi V hl hp)
abbrev yX6_init : MethodName := ⟨"XorOverlay", "<init>", "()V"⟩
abbrev rX6_init : Room := { frames := 2, cells := 5, slots := 326, locals := 50 }
theorem kX6_init : Cond.code yX6_init prog_1_method_1_code 1 none ∈ tw_T ∧ Cond.instanceMethod yX6_init ∈ tw_T ∧ Cond.initialized "XorOverlay" ∈ tw_T := ⟨(tw_1 15 rfl rfl), (tw_1 14 rfl rfl), (tw_1 1 rfl rfl)⟩
theorem hX6_init : yX6_init.cls = "XorOverlay" ∧ yX6_init.cls ≠ "java/lang/invoke/MethodHandle" ∧ yX6_init.cls ≠ "java/lang/invoke/VarHandle" ∧ (parseMethodDescriptor yX6_init.desc).map (fun d => d.parameters.length) = some 0 := by decide +kernel
theorem dX6_init_0 : decode prog_1_method_1_code 0 = .ok (.aload_n 0, 1) := by decide +kernel
theorem dX6_init_1 : decode prog_1_method_1_code 1 = .ok (.invokespecial 1, 3) := by decide +kernel
theorem dX6_init_4 : decode prog_1_method_1_code 4 = .ok (.aload_n 0, 1) := by decide +kernel
theorem dX6_init_5 : decode prog_1_method_1_code 5 = .ok (.bipush 12, 2) := by decide +kernel
theorem dX6_init_7 : decode prog_1_method_1_code 7 = .ok (.anewarray 9, 3) := by decide +kernel
theorem dX6_init_10 : decode prog_1_method_1_code 10 = .ok (.putfield 11, 3) := by decide +kernel
theorem dX6_init_13 : decode prog_1_method_1_code 13 = .ok (.aload_n 0, 1) := by decide +kernel
theorem dX6_init_14 : decode prog_1_method_1_code 14 = .ok (.new 15, 3) := by decide +kernel
theorem dX6_init_17 : decode prog_1_method_1_code 17 = .ok (.dup, 1) := by decide +kernel
theorem dX6_init_18 : decode prog_1_method_1_code 18 = .ok (.invokespecial 17, 3) := by decide +kernel
theorem dX6_init_21 : decode prog_1_method_1_code 21 = .ok (.putfield 18, 3) := by decide +kernel
theorem dX6_init_24 : decode prog_1_method_1_code 24 = .ok (.aload_n 0, 1) := by decide +kernel
theorem dX6_init_25 : decode prog_1_method_1_code 25 = .ok (.bipush 12, 2) := by decide +kernel
theorem dX6_init_27 : decode prog_1_method_1_code 27 = .ok (.newarray .int, 2) := by decide +kernel
theorem dX6_init_29 : decode prog_1_method_1_code 29 = .ok (.putfield 22, 3) := by decide +kernel
theorem dX6_init_32 : decode prog_1_method_1_code 32 = .ok (.aload_n 0, 1) := by decide +kernel
theorem dX6_init_33 : decode prog_1_method_1_code 33 = .ok (.bipush 12, 2) := by decide +kernel
theorem dX6_init_35 : decode prog_1_method_1_code 35 = .ok (.newarray .int, 2) := by decide +kernel
theorem dX6_init_37 : decode prog_1_method_1_code 37 = .ok (.putfield 26, 3) := by decide +kernel
theorem dX6_init_40 : decode prog_1_method_1_code 40 = .ok (.aload_n 0, 1) := by decide +kernel
theorem dX6_init_41 : decode prog_1_method_1_code 41 = .ok (.iconst 0, 1) := by decide +kernel
theorem dX6_init_42 : decode prog_1_method_1_code 42 = .ok (.putfield 29, 3) := by decide +kernel
theorem dX6_init_45 : decode prog_1_method_1_code 45 = .ok (.aload_n 0, 1) := by decide +kernel
theorem dX6_init_46 : decode prog_1_method_1_code 46 = .ok (.iconst 0, 1) := by decide +kernel
theorem dX6_init_47 : decode prog_1_method_1_code 47 = .ok (.putfield 33, 3) := by decide +kernel
theorem dX6_init_50 : decode prog_1_method_1_code 50 = .ok (.aload_n 0, 1) := by decide +kernel
theorem dX6_init_51 : decode prog_1_method_1_code 51 = .ok (.iconst 0, 1) := by decide +kernel
theorem dX6_init_52 : decode prog_1_method_1_code 52 = .ok (.putfield 36, 3) := by decide +kernel
theorem dX6_init_55 : decode prog_1_method_1_code 55 = .ok (.return_, 1) := by decide +kernel
def pX6_init_0 (N a0 : Nat) (G : mm_M) : Option (mm_M × Unit) :=
  q_arr G 103 12 fun G b7_1 =>
  q_pR G a0 7 0 (some b7_1) fun G =>
  q_new G 3 fun G b14_2 =>
  q_cl (pX2_init_0 N b14_2 G) fun G _ =>
  q_pR G a0 7 1 (some b14_2) fun G =>
  q_arr G 101 12 fun G b27_4 =>
  q_pR G a0 7 2 (some b27_4) fun G =>
  q_arr G 101 12 fun G b35_5 =>
  q_pR G a0 7 3 (some b35_5) fun G =>
  q_pI G a0 7 4 (0 : Int32) fun G =>
  q_pI G a0 7 5 (0 : Int32) fun G =>
  q_pI G a0 7 6 (0 : Int32) fun G =>
  some (G, ())
set_option maxRecDepth 100000 in
set_option maxHeartbeats 4000000 in
theorem bX6_init_0 {p : Program} {l : Launch} {e : Env} {s : State} {m : MethodId} {args : Array Value} {below : List Frame} {meth : Method} {c : Code} {E : mm_E} {N a0 : Nat} {res : mm_M × Unit} (X : mm_X p s m args meth c prog_1_method_1_code 1 "XorOverlay" tw_T E) (hr : meth.sig.returnType = none) (hi : meth.name = "<init>") {G : mm_M} {H : Heap} {locs : List Loc} {ls : Array Slot} (V : mm_V E s G H locs) (hl : lx_has ls 1 [(0, .inr (some a0))]) (hp : pX6_init_0 N a0 G = some res) : W p l e rX6_init s m args below meth c H locs 0 0 (MQ below (mm_Qv E res.1) args s 5 326 (mm_A E)) (F0 m 0 ls []) := by
  have hx := X.1.1
  have hb := X.1.2.1
  unfold pX6_init_0 at hp
  refine x_aload_n X dX6_init_0 hl 0 rfl rfl ?_
  refine W.objInit hx hb X.1.2.2.2.1 (X.1.2.2.2.2 _ (tw_1 16 rfl rfl)) (X.1.2.2.2.2 _ (tw_1 17 rfl rfl)) (X.1.2.2.2.2 _ (tw_1 18 rfl rfl)) rfl (by rw [X.1.2.2.1]; exact hl.1) rfl dX6_init_1 (by decide) (Nat.le_of_ble_eq_true rfl) ?_
  refine W.eq (g2 := F0 m 4 ls ([])) rfl ?_
  refine x_aload_n X dX6_init_4 hl 0 rfl rfl ?_
  refine lv_bipush (v := (12 : Int32)) hx hb dX6_init_5 (by decide) ?_
  refine q_arrP (N := 12) X V rfl (tw_1 19 rfl rfl) X.2.2.2.2.1 (by decide) (by decide) (by decide) (by decide) (by decide) dX6_init_7 hp (fun G b7_1 H V hp => ?_)
  refine W.cs (cells' := 1) (slots' := 12) rfl rfl ?_
  refine q_putR (ci := 6) X V inX6 rfl tyX6 tyX6_ok nmX6 (by decide) rfl 0 (by decide) rfl (tw_1 36 rfl rfl) rfl (Or.inr ⟨rfl, hi, rfl⟩) (.array (.object "XorOverlay$Peer")) rfl (va_rf_narrowA _ _) (va_rf_fitsA _ _) dX6_init_10 hp (fun G H locs V hp => ?_)
  refine x_aload_n X dX6_init_13 hl 0 rfl rfl ?_
  refine q_newc (ci := 2) X V inX2 rfl tyX2 tyX2_ok (by decide) rfl rfl dfX2 (tw_1 21 rfl rfl) (tw_1 22 rfl rfl) (tw_1 2 rfl rfl) (by decide) (by decide) dX6_init_14 hp (fun G b14_2 H V hp => ?_)
  refine W.cs (cells' := 2) (slots' := 14) rfl rfl ?_
  refine lv_dup hx hb dX6_init_17 (va_rf_cat _) ?_
  obtain ⟨⟨G, u⟩, hq, hp⟩ := q_cl_of hp
  dsimp only at hp
  refine q_gov (cells' := 3) (slots' := 302) (va_runI (As := []) (rest := [va_rf (some b14_2), va_rf (some a0)]) X.1 (cX2_init l E hq) (tw_cwI 0 X.1.2.2.2.2 (tw_1 23 rfl rfl) kX2_init.2.1 kX2_init.2.2 kX2_init.1 rfl rfl rfl hX2_init ⟨Nat.le_of_ble_eq_true rfl, Nat.le_of_ble_eq_true rfl⟩) (mm_preS X V) rfl rfl hl.1 rfl (lv_room (Nat.le_of_ble_eq_true rfl)) dX6_init_18 ⟨by decide, by decide⟩) V ⟨rfl, rfl⟩ (fun H locs V => ?_)
  refine q_putR (ci := 6) X V inX6 rfl tyX6 tyX6_ok nmX6 (by decide) rfl 1 (by decide) rfl (tw_1 37 rfl rfl) rfl (Or.inr ⟨rfl, hi, rfl⟩) (.object "XorOverlay$Line") rfl (va_rf_narrow _ _) (va_rf_fits _ _) dX6_init_21 hp (fun G H locs V hp => ?_)
  refine x_aload_n X dX6_init_24 hl 0 rfl rfl ?_
  refine lv_bipush (v := (12 : Int32)) hx hb dX6_init_25 (by decide) ?_
  refine q_arrI (N := 12) X V (tw_1 35 rfl rfl) (by decide) (by decide) (by decide) (by decide) (by decide) rfl dX6_init_27 hp (fun G b27_4 H V hp => ?_)
  refine W.cs (cells' := 4) (slots' := 314) rfl rfl ?_
  refine q_putR (ci := 6) X V inX6 rfl tyX6 tyX6_ok nmX6 (by decide) rfl 2 (by decide) rfl (tw_1 38 rfl rfl) rfl (Or.inr ⟨rfl, hi, rfl⟩) (.array .int) rfl (va_rf_narrowA _ _) (va_rf_fitsA _ _) dX6_init_29 hp (fun G H locs V hp => ?_)
  refine x_aload_n X dX6_init_32 hl 0 rfl rfl ?_
  refine lv_bipush (v := (12 : Int32)) hx hb dX6_init_33 (by decide) ?_
  refine q_arrI (N := 12) X V (tw_1 35 rfl rfl) (by decide) (by decide) (by decide) (by decide) (by decide) rfl dX6_init_35 hp (fun G b35_5 H V hp => ?_)
  refine W.cs (cells' := 5) (slots' := 326) rfl rfl ?_
  refine q_putR (ci := 6) X V inX6 rfl tyX6 tyX6_ok nmX6 (by decide) rfl 3 (by decide) rfl (tw_1 39 rfl rfl) rfl (Or.inr ⟨rfl, hi, rfl⟩) (.array .int) rfl (va_rf_narrowA _ _) (va_rf_fitsA _ _) dX6_init_37 hp (fun G H locs V hp => ?_)
  refine x_aload_n X dX6_init_40 hl 0 rfl rfl ?_
  refine lv_iconst (v := (0 : Int32)) hx hb dX6_init_41 (by decide) ?_
  refine q_putI (ci := 6) X V inX6 rfl tyX6 tyX6_ok nmX6 (by decide) rfl 4 (by decide) rfl (tw_1 40 rfl rfl) rfl (Or.inl rfl) .int rfl rfl rfl dX6_init_42 hp (fun G H locs V hp => ?_)
  refine x_aload_n X dX6_init_45 hl 0 rfl rfl ?_
  refine lv_iconst (v := (0 : Int32)) hx hb dX6_init_46 (by decide) ?_
  refine q_putI (ci := 6) X V inX6 rfl tyX6 tyX6_ok nmX6 (by decide) rfl 5 (by decide) rfl (tw_1 41 rfl rfl) rfl (Or.inl rfl) .int rfl rfl rfl dX6_init_47 hp (fun G H locs V hp => ?_)
  refine x_aload_n X dX6_init_50 hl 0 rfl rfl ?_
  refine lv_iconst (v := (0 : Int32)) hx hb dX6_init_51 (by decide) ?_
  refine q_putI (ci := 6) X V inX6 rfl tyX6 tyX6_ok nmX6 (by decide) rfl 6 (by decide) rfl (tw_1 42 rfl rfl) rfl (Or.inl rfl) .int rfl rfl rfl dX6_init_52 hp (fun G H locs V hp => ?_)
  exact q_vret X V hr ⟨by decide, by decide⟩ dX6_init_55 hp
theorem cX6_init (l : Launch) (E : mm_E) {N a0 : Nat} {G : mm_M} {res : mm_M × Unit} (hp : pX6_init_0 N a0 G = some res) : Met l yX6_init (Cond.code yX6_init prog_1_method_1_code 1 none :: tw_T) rX6_init (mm_Pc E G [.ref a0]) (mm_Qv E res.1) 5 326 (mm_A E) :=
  mm_met (own := "XorOverlay") E G [.inr (some a0)] (by decide) rfl rfl (Nat.le_of_ble_eq_true rfl) (fun p e s m args below meth c ls X hr hi V hl => bX6_init_0 X hr hi V hl hp)
abbrev yX6_isNumber : MethodName := ⟨"XorOverlay", "isNumber", "(I)Z"⟩
abbrev rX6_isNumber : Room := { frames := 0, cells := 0, slots := 0, locals := 0 }
theorem kX6_isNumber : Cond.code yX6_isNumber prog_1_method_20_code 1 (Option.some .boolean) ∈ tw_T ∧ Cond.static yX6_isNumber ∈ tw_T ∧ Cond.initialized "XorOverlay" ∈ tw_T := ⟨(tw_1 64 rfl rfl), (tw_1 63 rfl rfl), (tw_1 1 rfl rfl)⟩
theorem hX6_isNumber : yX6_isNumber.cls = "XorOverlay" ∧ yX6_isNumber.cls ≠ "java/lang/invoke/MethodHandle" ∧ yX6_isNumber.cls ≠ "java/lang/invoke/VarHandle" ∧ (parseMethodDescriptor yX6_isNumber.desc).map (fun d => d.parameters.length) = some 1 := by decide +kernel
theorem dX6_isNumber_0 : decode prog_1_method_20_code 0 = .ok (.iload_n 0, 1) := by decide +kernel
theorem dX6_isNumber_1 : decode prog_1_method_20_code 1 = .ok (.ifCond .lt 14, 3) := by decide +kernel
theorem dX6_isNumber_4 : decode prog_1_method_20_code 4 = .ok (.iload_n 0, 1) := by decide +kernel
theorem dX6_isNumber_5 : decode prog_1_method_20_code 5 = .ok (.sipush 256, 3) := by decide +kernel
theorem dX6_isNumber_8 : decode prog_1_method_20_code 8 = .ok (.if_icmp .ge 7, 3) := by decide +kernel
theorem dX6_isNumber_11 : decode prog_1_method_20_code 11 = .ok (.iconst 1, 1) := by decide +kernel
theorem dX6_isNumber_12 : decode prog_1_method_20_code 12 = .ok (.goto 4, 3) := by decide +kernel
theorem dX6_isNumber_15 : decode prog_1_method_20_code 15 = .ok (.iconst 0, 1) := by decide +kernel
theorem dX6_isNumber_16 : decode prog_1_method_20_code 16 = .ok (.ireturn, 1) := by decide +kernel
def pX6_isNumber_0 (N : Nat) (G : mm_M) (x0 : Int32) : Option (mm_M × Int32) :=
  if x0 < 0 then
    some (G, (0 : Int32))
  else
    if (256 : Int32) ≤ x0 then
      some (G, (0 : Int32))
    else
      some (G, (1 : Int32))
set_option maxRecDepth 100000 in
set_option maxHeartbeats 4000000 in
theorem bX6_isNumber_0 {p : Program} {l : Launch} {e : Env} {s : State} {m : MethodId} {args : Array Value} {below : List Frame} {meth : Method} {c : Code} {E : mm_E} {N : Nat} {res : mm_M × Int32} (X : mm_X p s m args meth c prog_1_method_20_code 1 "XorOverlay" tw_T E) (hr : meth.sig.returnType = (Option.some .boolean)) {G : mm_M} {H : Heap} {locs : List Loc} {ls : Array Slot} {x0 : Int32} (V : mm_V E s G H locs) (hl : lx_has ls 1 [(0, .inl x0)]) (hp : pX6_isNumber_0 N G x0 = some res) : W p l e rX6_isNumber s m args below meth c H locs 0 0 (MQ below (mm_Qi E res.1 res.2) args s 0 0 (mm_A E)) (F0 m 0 ls []) := by
  have hx := X.1.1
  have hb := X.1.2.1
  unfold pX6_isNumber_0 at hp
  refine x_iload_n X dX6_isNumber_0 hl 0 rfl rfl ?_
  refine q_if hp (lv_if_lt (tgt := 15) hx hb dX6_isNumber_1 (by decide)) (fun hp => ?_) (fun hp => ?_)
  · refine lv_iconst (v := (0 : Int32)) hx hb dX6_isNumber_15 (by decide) ?_
    exact q_zret X V hr rfl ⟨by decide, by decide⟩ dX6_isNumber_16 hp
  · refine x_iload_n X dX6_isNumber_4 hl 0 rfl rfl ?_
    refine lv_sipush (v := (256 : Int32)) hx hb dX6_isNumber_5 (by decide) ?_
    refine q_if hp (lv_icmp_ge (tgt := 15) hx hb dX6_isNumber_8 (by decide)) (fun hp => ?_) (fun hp => ?_)
    · refine lv_iconst (v := (0 : Int32)) hx hb dX6_isNumber_15 (by decide) ?_
      exact q_zret X V hr rfl ⟨by decide, by decide⟩ dX6_isNumber_16 hp
    · refine lv_iconst (v := (1 : Int32)) hx hb dX6_isNumber_11 (by decide) ?_
      refine lv_goto (tgt := 16) hx hb dX6_isNumber_12 (by decide) ?_
      exact q_zret X V hr rfl ⟨by decide, by decide⟩ dX6_isNumber_16 hp
theorem cX6_isNumber (l : Launch) (E : mm_E) {N : Nat} {G : mm_M} {x0 : Int32} {res : mm_M × Int32} (hp : pX6_isNumber_0 N G x0 = some res) : Met l yX6_isNumber (Cond.code yX6_isNumber prog_1_method_20_code 1 (Option.some .boolean) :: tw_T) rX6_isNumber (mm_Pc E G [.int x0]) (mm_Qi E res.1 res.2) 0 0 (mm_A E) :=
  mm_met (own := "XorOverlay") E G [.inl x0] (by decide) rfl rfl (Nat.le_of_ble_eq_true rfl) (fun p e s m args below meth c ls X hr hi V hl => bX6_isNumber_0 X hr V hl hp)
abbrev yX6_knownPeer : MethodName := ⟨"XorOverlay", "knownPeer", "(I)LXorOverlay$Peer;"⟩
abbrev rX6_knownPeer : Room := { frames := 0, cells := 0, slots := 0, locals := 0 }
theorem kX6_knownPeer : Cond.code yX6_knownPeer prog_1_method_24_code 4 (Option.some (.object "XorOverlay$Peer")) ∈ tw_T ∧ Cond.instanceMethod yX6_knownPeer ∈ tw_T ∧ Cond.selects "XorOverlay" yX6_knownPeer yX6_knownPeer ∈ tw_T ∧ Cond.initialized "XorOverlay" ∈ tw_T := ⟨(tw_1 72 rfl rfl), (tw_1 71 rfl rfl), (tw_s 1 rfl rfl), (tw_1 1 rfl rfl)⟩
theorem hX6_knownPeer : yX6_knownPeer.cls = "XorOverlay" ∧ yX6_knownPeer.cls ≠ "java/lang/invoke/MethodHandle" ∧ yX6_knownPeer.cls ≠ "java/lang/invoke/VarHandle" ∧ (parseMethodDescriptor yX6_knownPeer.desc).map (fun d => d.parameters.length) = some 1 := by decide +kernel
theorem dX6_knownPeer_0 : decode prog_1_method_24_code 0 = .ok (.iconst 0, 1) := by decide +kernel
theorem dX6_knownPeer_1 : decode prog_1_method_24_code 1 = .ok (.istore_n 2, 1) := by decide +kernel
theorem dX6_knownPeer_2 : decode prog_1_method_24_code 2 = .ok (.iload_n 2, 1) := by decide +kernel
theorem dX6_knownPeer_3 : decode prog_1_method_24_code 3 = .ok (.aload_n 0, 1) := by decide +kernel
theorem dX6_knownPeer_4 : decode prog_1_method_24_code 4 = .ok (.getfield 29, 3) := by decide +kernel
theorem dX6_knownPeer_7 : decode prog_1_method_24_code 7 = .ok (.if_icmp .ge 30, 3) := by decide +kernel
theorem dX6_knownPeer_10 : decode prog_1_method_24_code 10 = .ok (.aload_n 0, 1) := by decide +kernel
theorem dX6_knownPeer_11 : decode prog_1_method_24_code 11 = .ok (.getfield 11, 3) := by decide +kernel
theorem dX6_knownPeer_14 : decode prog_1_method_24_code 14 = .ok (.iload_n 2, 1) := by decide +kernel
theorem dX6_knownPeer_15 : decode prog_1_method_24_code 15 = .ok (.aaload, 1) := by decide +kernel
theorem dX6_knownPeer_16 : decode prog_1_method_24_code 16 = .ok (.astore_n 3, 1) := by decide +kernel
theorem dX6_knownPeer_17 : decode prog_1_method_24_code 17 = .ok (.aload_n 3, 1) := by decide +kernel
theorem dX6_knownPeer_18 : decode prog_1_method_24_code 18 = .ok (.ifnull 13, 3) := by decide +kernel
theorem dX6_knownPeer_21 : decode prog_1_method_24_code 21 = .ok (.aload_n 3, 1) := by decide +kernel
theorem dX6_knownPeer_22 : decode prog_1_method_24_code 22 = .ok (.getfield 180, 3) := by decide +kernel
theorem dX6_knownPeer_25 : decode prog_1_method_24_code 25 = .ok (.iload_n 1, 1) := by decide +kernel
theorem dX6_knownPeer_26 : decode prog_1_method_24_code 26 = .ok (.if_icmp .ne 5, 3) := by decide +kernel
theorem dX6_knownPeer_29 : decode prog_1_method_24_code 29 = .ok (.aload_n 3, 1) := by decide +kernel
theorem dX6_knownPeer_30 : decode prog_1_method_24_code 30 = .ok (.areturn, 1) := by decide +kernel
theorem dX6_knownPeer_31 : decode prog_1_method_24_code 31 = .ok (.iinc 2 1, 3) := by decide +kernel
theorem dX6_knownPeer_34 : decode prog_1_method_24_code 34 = .ok (.goto (-32), 3) := by decide +kernel
theorem dX6_knownPeer_37 : decode prog_1_method_24_code 37 = .ok (.aconst_null, 1) := by decide +kernel
theorem dX6_knownPeer_38 : decode prog_1_method_24_code 38 = .ok (.areturn, 1) := by decide +kernel
def pX6_knownPeer_2_b (N a0 : Nat) (kb : mm_M → Int32 → Int32 → Option (mm_M × Option Nat)) (kx : mm_M → Option (mm_M × Option Nat)) (G : mm_M) (x1 : Int32) (x2 : Int32) : Option (mm_M × Option Nat) :=
  q_gI G a0 7 4 fun v4_1 =>
  if v4_1 ≤ x2 then
    kx G
  else
    q_gR G a0 7 0 fun r11_2 =>
    q_nn r11_2 fun b15_3 =>
    q_aR G b15_3 103 x2 fun r15_4 =>
    q_op r15_4 (
      kb G x1 (x2 + (1 : Int32))) fun b18_5 =>
    q_gI G b18_5 5 0 fun v22_6 =>
    if v22_6 = x1 then
      some (G, (some b18_5))
    else
      kb G x1 (x2 + (1 : Int32))
def pX6_knownPeer_2 (N a0 : Nat) (kx : mm_M → Option (mm_M × Option Nat)) : Nat → mm_M → Int32 → Int32 → Option (mm_M × Option Nat)
  | 0 => fun _ _ _ => none
  | n + 1 => pX6_knownPeer_2_b N a0 (pX6_knownPeer_2 N a0 kx n) kx
set_option maxRecDepth 100000 in
set_option maxHeartbeats 4000000 in
theorem bX6_knownPeer_2 {p : Program} {l : Launch} {e : Env} {s : State} {m : MethodId} {args : Array Value} {below : List Frame} {meth : Method} {c : Code} {E : mm_E} {N a0 : Nat} {res : mm_M × Option Nat} (X : mm_X p s m args meth c prog_1_method_24_code 4 "XorOverlay" tw_T E) (hr : meth.sig.returnType = (Option.some (.object "XorOverlay$Peer"))) {kx : mm_M → Option (mm_M × Option Nat)} (hkx : ∀ (G : mm_M) (H : Heap) (locs : List Loc) (ls : Array Slot), mm_V E s G H locs → lx_has ls 4 [(0, .inr (some a0))] → kx G = some res → W p l e rX6_knownPeer s m args below meth c H locs 0 0 (MQ below (mm_Qq E res.1 res.2) args s 0 0 (mm_A E)) (F0 m 37 ls [])) :
    ∀ (n : Nat) (G : mm_M) (H : Heap) (locs : List Loc) (ls : Array Slot) (x1 : Int32) (x2 : Int32), mm_V E s G H locs → lx_has ls 4 [(0, .inr (some a0)), (1, .inl x1), (2, .inl x2)] → pX6_knownPeer_2 N a0 kx n G x1 x2 = some res → W p l e rX6_knownPeer s m args below meth c H locs 0 0 (MQ below (mm_Qq E res.1 res.2) args s 0 0 (mm_A E)) (F0 m 2 ls []) := by
  have hx := X.1.1
  have hb := X.1.2.1
  intro n
  induction n with
  | zero =>
    intro G H locs ls x1 x2 V hl hp
    cases hp
  | succ n ih =>
    intro G H locs ls x1 x2 V hl hp
    have hp : pX6_knownPeer_2_b N a0 (pX6_knownPeer_2 N a0 kx n) kx G x1 x2 = some res := hp
    unfold pX6_knownPeer_2_b at hp
    refine x_iload_n X dX6_knownPeer_2 hl 2 rfl rfl ?_
    refine x_aload_n X dX6_knownPeer_3 hl 0 rfl rfl ?_
    refine q_getI (ci := 6) X V inX6 rfl (by decide) rfl 4 (by decide) rfl (tw_1 40 rfl rfl) rfl dX6_knownPeer_4 hp (fun v4_1 hp => ?_)
    refine q_if hp (lv_icmp_ge (tgt := 37) hx hb dX6_knownPeer_7 (by decide)) (fun hp => ?_) (fun hp => ?_)
    · exact hkx _ _ _ _ V (lx_sub hl [0] rfl) hp
    · refine x_aload_n X dX6_knownPeer_10 hl 0 rfl rfl ?_
      refine q_getR (ci := 6) X V inX6 rfl (by decide) rfl 0 (by decide) rfl (tw_1 36 rfl rfl) rfl dX6_knownPeer_11 hp (fun r11_2 hp => ?_)
      refine x_iload_n X dX6_knownPeer_14 hl 2 rfl rfl ?_
      obtain ⟨b15_3, e0, hp2⟩ := q_nn_of hp
      clear hp; subst e0; have hp := hp2; clear hp2
      refine q_aldP X V dX6_knownPeer_15 hp (fun r15_4 hp => ?_)
      refine x_astore_n (lst' := [(3, .inr r15_4), (0, .inr (some a0)), (1, .inl x1), (2, .inl x2)]) X dX6_knownPeer_16 hl rfl (by decide) rfl (fun ls hl => ?_)
      refine x_aload_n X dX6_knownPeer_17 hl 0 rfl rfl ?_
      refine q_ifnull (tgt := 31) X dX6_knownPeer_18 (by decide) hp (fun e0 hp2 => ?_) (fun b18_5 e0 hp2 => ?_)
      · clear hp; subst e0; have hp := hp2; clear hp2
        refine x_iinc (v := (1 : Int32)) (lst' := [(2, .inl (x2 + (1 : Int32))), (3, .inr none), (0, .inr (some a0)), (1, .inl x1)]) X dX6_knownPeer_31 hl 3 rfl (by decide) (by decide) rfl (fun ls hl => ?_)
        refine lv_goto (tgt := 2) hx hb dX6_knownPeer_34 (by decide) ?_
        exact ih _ _ _ _ _ _ V (lx_sub hl [2, 3, 0] rfl) hp
      · clear hp; subst e0; have hp := hp2; clear hp2
        refine x_aload_n X dX6_knownPeer_21 hl 0 rfl rfl ?_
        refine q_getI (ci := 4) X V inX4 rfl (by decide) rfl 0 (by decide) rfl (tw_1 213 rfl rfl) rfl dX6_knownPeer_22 hp (fun v22_6 hp => ?_)
        refine x_iload_n X dX6_knownPeer_25 hl 2 rfl rfl ?_
        refine q_ifn hp (lv_icmp_ne (tgt := 31) hx hb dX6_knownPeer_26 (by decide)) (fun hp => ?_) (fun hp => ?_)
        · refine x_iinc (v := (1 : Int32)) (lst' := [(2, .inl (x2 + (1 : Int32))), (3, .inr (some b18_5)), (0, .inr (some a0)), (1, .inl x1)]) X dX6_knownPeer_31 hl 3 rfl (by decide) (by decide) rfl (fun ls hl => ?_)
          refine lv_goto (tgt := 2) hx hb dX6_knownPeer_34 (by decide) ?_
          exact ih _ _ _ _ _ _ V (lx_sub hl [2, 3, 0] rfl) hp
        · refine x_aload_n X dX6_knownPeer_29 hl 0 rfl rfl ?_
          exact q_aret X V hr ⟨by decide, by decide⟩ dX6_knownPeer_30 hp
def pX6_knownPeer_0 (N a0 : Nat) (G : mm_M) (x1 : Int32) : Option (mm_M × Option Nat) :=
  pX6_knownPeer_2 N a0 (fun (G : mm_M) =>
    some (G, none)) N G x1 (0 : Int32)
set_option maxRecDepth 100000 in
set_option maxHeartbeats 4000000 in
theorem bX6_knownPeer_0 {p : Program} {l : Launch} {e : Env} {s : State} {m : MethodId} {args : Array Value} {below : List Frame} {meth : Method} {c : Code} {E : mm_E} {N a0 : Nat} {res : mm_M × Option Nat} (X : mm_X p s m args meth c prog_1_method_24_code 4 "XorOverlay" tw_T E) (hr : meth.sig.returnType = (Option.some (.object "XorOverlay$Peer"))) {G : mm_M} {H : Heap} {locs : List Loc} {ls : Array Slot} {x1 : Int32} (V : mm_V E s G H locs) (hl : lx_has ls 4 [(0, .inr (some a0)), (1, .inl x1)]) (hp : pX6_knownPeer_0 N a0 G x1 = some res) : W p l e rX6_knownPeer s m args below meth c H locs 0 0 (MQ below (mm_Qq E res.1 res.2) args s 0 0 (mm_A E)) (F0 m 0 ls []) := by
  have hx := X.1.1
  have hb := X.1.2.1
  unfold pX6_knownPeer_0 at hp
  refine lv_iconst (v := (0 : Int32)) hx hb dX6_knownPeer_0 (by decide) ?_
  refine x_istore_n (lst' := [(2, .inl (0 : Int32)), (0, .inr (some a0)), (1, .inl x1)]) X dX6_knownPeer_1 hl rfl (by decide) rfl (fun ls hl => ?_)
  refine bX6_knownPeer_2 X hr (fun G H locs ls V hl hp => ?_) _ _ _ _ _ _ _ V (lx_sub hl [1, 2, 0] rfl) hp
  refine lv_null hx hb dX6_knownPeer_37 ?_
  refine W.eq (g2 := F0 m 38 _ (va_rf none :: [])) rfl ?_
  exact q_aret X V hr ⟨by decide, by decide⟩ dX6_knownPeer_38 hp
theorem cX6_knownPeer (l : Launch) (E : mm_E) {N a0 : Nat} {G : mm_M} {x1 : Int32} {res : mm_M × Option Nat} (hp : pX6_knownPeer_0 N a0 G x1 = some res) : Met l yX6_knownPeer (Cond.code yX6_knownPeer prog_1_method_24_code 4 (Option.some (.object "XorOverlay$Peer")) :: tw_T) rX6_knownPeer (mm_Pc E G [.ref a0, .int x1]) (mm_Qq E res.1 res.2) 0 0 (mm_A E) :=
  mm_met (own := "XorOverlay") E G [.inr (some a0), .inl x1] (by decide) rfl rfl (Nat.le_of_ble_eq_true rfl) (fun p e s m args below meth c ls X hr hi V hl => bX6_knownPeer_0 X hr V hl hp)
abbrev yX6_upPeer : MethodName := ⟨"XorOverlay", "upPeer", "(I)LXorOverlay$Peer;"⟩
abbrev rX6_upPeer : Room := { frames := 1, cells := 0, slots := 0, locals := 23 }
theorem kX6_upPeer : Cond.code yX6_upPeer prog_1_method_23_code 3 (Option.some (.object "XorOverlay$Peer")) ∈ tw_T ∧ Cond.instanceMethod yX6_upPeer ∈ tw_T ∧ Cond.selects "XorOverlay" yX6_upPeer yX6_upPeer ∈ tw_T ∧ Cond.initialized "XorOverlay" ∈ tw_T := ⟨(tw_1 68 rfl rfl), (tw_1 67 rfl rfl), (tw_s 0 rfl rfl), (tw_1 1 rfl rfl)⟩
theorem hX6_upPeer : yX6_upPeer.cls = "XorOverlay" ∧ yX6_upPeer.cls ≠ "java/lang/invoke/MethodHandle" ∧ yX6_upPeer.cls ≠ "java/lang/invoke/VarHandle" ∧ (parseMethodDescriptor yX6_upPeer.desc).map (fun d => d.parameters.length) = some 1 := by decide +kernel
theorem dX6_upPeer_0 : decode prog_1_method_23_code 0 = .ok (.aload_n 0, 1) := by decide +kernel
theorem dX6_upPeer_1 : decode prog_1_method_23_code 1 = .ok (.iload_n 1, 1) := by decide +kernel
theorem dX6_upPeer_2 : decode prog_1_method_23_code 2 = .ok (.invokevirtual 177, 3) := by decide +kernel
theorem dX6_upPeer_5 : decode prog_1_method_23_code 5 = .ok (.astore_n 2, 1) := by decide +kernel
theorem dX6_upPeer_6 : decode prog_1_method_23_code 6 = .ok (.aload_n 2, 1) := by decide +kernel
theorem dX6_upPeer_7 : decode prog_1_method_23_code 7 = .ok (.ifnull 14, 3) := by decide +kernel
theorem dX6_upPeer_10 : decode prog_1_method_23_code 10 = .ok (.aload_n 2, 1) := by decide +kernel
theorem dX6_upPeer_11 : decode prog_1_method_23_code 11 = .ok (.getfield 68, 3) := by decide +kernel
theorem dX6_upPeer_14 : decode prog_1_method_23_code 14 = .ok (.ifCond .eq 7, 3) := by decide +kernel
theorem dX6_upPeer_17 : decode prog_1_method_23_code 17 = .ok (.aload_n 2, 1) := by decide +kernel
theorem dX6_upPeer_18 : decode prog_1_method_23_code 18 = .ok (.goto 4, 3) := by decide +kernel
theorem dX6_upPeer_21 : decode prog_1_method_23_code 21 = .ok (.aconst_null, 1) := by decide +kernel
theorem dX6_upPeer_22 : decode prog_1_method_23_code 22 = .ok (.areturn, 1) := by decide +kernel
def pX6_upPeer_0 (N a0 : Nat) (G : mm_M) (x1 : Int32) : Option (mm_M × Option Nat) :=
  q_is G a0 7 <|
  q_cl (pX6_knownPeer_0 N a0 G x1) fun G r2_2 =>
  q_op r2_2 (
    some (G, none)) fun b7_3 =>
  q_gI G b7_3 5 4 fun v11_4 =>
  if v11_4 = 0 then
    some (G, none)
  else
    some (G, (some b7_3))
set_option maxRecDepth 100000 in
set_option maxHeartbeats 4000000 in
theorem bX6_upPeer_0 {p : Program} {l : Launch} {e : Env} {s : State} {m : MethodId} {args : Array Value} {below : List Frame} {meth : Method} {c : Code} {E : mm_E} {N a0 : Nat} {res : mm_M × Option Nat} (X : mm_X p s m args meth c prog_1_method_23_code 3 "XorOverlay" tw_T E) (hr : meth.sig.returnType = (Option.some (.object "XorOverlay$Peer"))) {G : mm_M} {H : Heap} {locs : List Loc} {ls : Array Slot} {x1 : Int32} (V : mm_V E s G H locs) (hl : lx_has ls 3 [(0, .inr (some a0)), (1, .inl x1)]) (hp : pX6_upPeer_0 N a0 G x1 = some res) : W p l e rX6_upPeer s m args below meth c H locs 0 0 (MQ below (mm_Qq E res.1 res.2) args s 0 0 (mm_A E)) (F0 m 0 ls []) := by
  have hx := X.1.1
  have hb := X.1.2.1
  unfold pX6_upPeer_0 at hp
  refine x_aload_n X dX6_upPeer_0 hl 0 rfl rfl ?_
  refine x_iload_n X dX6_upPeer_1 hl 1 rfl rfl ?_
  obtain ⟨hk, hp⟩ := q_is_of hp
  obtain ⟨⟨G, r2_2⟩, hq, hp⟩ := q_cl_of hp
  dsimp only at hp
  refine q_goq (cells' := 0) (slots' := 0) (va_runV (As := [.int x1]) (rest := []) X.1 (cX6_knownPeer l E hq) (tw_cwV 1 X.1.2.2.2.2 (tw_1 69 rfl rfl) kX6_knownPeer.2.1 kX6_knownPeer.2.2.1 kX6_knownPeer.2.2.2 kX6_knownPeer.1 rfl rfl hX6_knownPeer ⟨Nat.le_of_ble_eq_true rfl, Nat.le_of_ble_eq_true rfl⟩) (mm_preV X V rfl (by decide) rfl hk) rfl rfl hl.1 rfl (lv_room (Nat.le_of_ble_eq_true rfl)) dX6_upPeer_2 ⟨by decide, by decide⟩) V ⟨rfl, rfl⟩ (fun H locs V => ?_)
  refine x_astore_n (lst' := [(2, .inr r2_2), (0, .inr (some a0)), (1, .inl x1)]) X dX6_upPeer_5 hl rfl (by decide) rfl (fun ls hl => ?_)
  refine x_aload_n X dX6_upPeer_6 hl 0 rfl rfl ?_
  refine q_ifnull (tgt := 21) X dX6_upPeer_7 (by decide) hp (fun e0 hp2 => ?_) (fun b7_3 e0 hp2 => ?_)
  · clear hp; subst e0; have hp := hp2; clear hp2
    refine lv_null hx hb dX6_upPeer_21 ?_
    refine W.eq (g2 := F0 m 22 _ (va_rf none :: [])) rfl ?_
    exact q_aret X V hr ⟨by decide, by decide⟩ dX6_upPeer_22 hp
  · clear hp; subst e0; have hp := hp2; clear hp2
    refine x_aload_n X dX6_upPeer_10 hl 0 rfl rfl ?_
    refine q_getI (ci := 4) X V inX4 rfl (by decide) rfl 4 (by decide) rfl (tw_1 221 rfl rfl) rfl dX6_upPeer_11 hp (fun v11_4 hp => ?_)
    refine q_if hp (lv_if_eq (tgt := 21) hx hb dX6_upPeer_14 (by decide)) (fun hp => ?_) (fun hp => ?_)
    · refine lv_null hx hb dX6_upPeer_21 ?_
      refine W.eq (g2 := F0 m 22 _ (va_rf none :: [])) rfl ?_
      exact q_aret X V hr ⟨by decide, by decide⟩ dX6_upPeer_22 hp
    · refine x_aload_n X dX6_upPeer_17 hl 0 rfl rfl ?_
      refine lv_goto (tgt := 22) hx hb dX6_upPeer_18 (by decide) ?_
      exact q_aret X V hr ⟨by decide, by decide⟩ dX6_upPeer_22 hp
theorem cX6_upPeer (l : Launch) (E : mm_E) {N a0 : Nat} {G : mm_M} {x1 : Int32} {res : mm_M × Option Nat} (hp : pX6_upPeer_0 N a0 G x1 = some res) : Met l yX6_upPeer (Cond.code yX6_upPeer prog_1_method_23_code 3 (Option.some (.object "XorOverlay$Peer")) :: tw_T) rX6_upPeer (mm_Pc E G [.ref a0, .int x1]) (mm_Qq E res.1 res.2) 0 0 (mm_A E) :=
  mm_met (own := "XorOverlay") E G [.inr (some a0), .inl x1] (by decide) rfl rfl (Nat.le_of_ble_eq_true rfl) (fun p e s m args below meth c ls X hr hi V hl => bX6_upPeer_0 X hr V hl hp)
abbrev yX0_init : MethodName := ⟨"XorOverlay$Bucket", "<init>", "()V"⟩
abbrev rX0_init : Room := { frames := 1, cells := 2, slots := 6, locals := 30 }
theorem kX0_init : Cond.code yX0_init prog_2_method_1_code 1 none ∈ tw_T ∧ Cond.instanceMethod yX0_init ∈ tw_T ∧ Cond.initialized "XorOverlay$Bucket" ∈ tw_T := ⟨(tw_1 93 rfl rfl), (tw_1 92 rfl rfl), (tw_1 6 rfl rfl)⟩
theorem hX0_init : yX0_init.cls = "XorOverlay$Bucket" ∧ yX0_init.cls ≠ "java/lang/invoke/MethodHandle" ∧ yX0_init.cls ≠ "java/lang/invoke/VarHandle" ∧ (parseMethodDescriptor yX0_init.desc).map (fun d => d.parameters.length) = some 0 := by decide +kernel
theorem dX0_init_0 : decode prog_2_method_1_code 0 = .ok (.aload_n 0, 1) := by decide +kernel
theorem dX0_init_1 : decode prog_2_method_1_code 1 = .ok (.invokespecial 3, 3) := by decide +kernel
theorem dX0_init_4 : decode prog_2_method_1_code 4 = .ok (.aload_n 0, 1) := by decide +kernel
theorem dX0_init_5 : decode prog_2_method_1_code 5 = .ok (.iconst 3, 1) := by decide +kernel
theorem dX0_init_6 : decode prog_2_method_1_code 6 = .ok (.newarray .int, 2) := by decide +kernel
theorem dX0_init_8 : decode prog_2_method_1_code 8 = .ok (.putfield 11, 3) := by decide +kernel
theorem dX0_init_11 : decode prog_2_method_1_code 11 = .ok (.aload_n 0, 1) := by decide +kernel
theorem dX0_init_12 : decode prog_2_method_1_code 12 = .ok (.iconst 3, 1) := by decide +kernel
theorem dX0_init_13 : decode prog_2_method_1_code 13 = .ok (.newarray .int, 2) := by decide +kernel
theorem dX0_init_15 : decode prog_2_method_1_code 15 = .ok (.putfield 15, 3) := by decide +kernel
theorem dX0_init_18 : decode prog_2_method_1_code 18 = .ok (.aload_n 0, 1) := by decide +kernel
theorem dX0_init_19 : decode prog_2_method_1_code 19 = .ok (.iconst 0, 1) := by decide +kernel
theorem dX0_init_20 : decode prog_2_method_1_code 20 = .ok (.putfield 18, 3) := by decide +kernel
theorem dX0_init_23 : decode prog_2_method_1_code 23 = .ok (.aload_n 0, 1) := by decide +kernel
theorem dX0_init_24 : decode prog_2_method_1_code 24 = .ok (.iconst 0, 1) := by decide +kernel
theorem dX0_init_25 : decode prog_2_method_1_code 25 = .ok (.putfield 22, 3) := by decide +kernel
theorem dX0_init_28 : decode prog_2_method_1_code 28 = .ok (.aload_n 0, 1) := by decide +kernel
theorem dX0_init_29 : decode prog_2_method_1_code 29 = .ok (.iconst 0, 1) := by decide +kernel
theorem dX0_init_30 : decode prog_2_method_1_code 30 = .ok (.putfield 25, 3) := by decide +kernel
theorem dX0_init_33 : decode prog_2_method_1_code 33 = .ok (.aload_n 0, 1) := by decide +kernel
theorem dX0_init_34 : decode prog_2_method_1_code 34 = .ok (.iconst 0, 1) := by decide +kernel
theorem dX0_init_35 : decode prog_2_method_1_code 35 = .ok (.putfield 28, 3) := by decide +kernel
theorem dX0_init_38 : decode prog_2_method_1_code 38 = .ok (.return_, 1) := by decide +kernel
def pX0_init_0 (N a0 : Nat) (G : mm_M) : Option (mm_M × Unit) :=
  q_arr G 101 3 fun G b6_1 =>
  q_pR G a0 1 0 (some b6_1) fun G =>
  q_arr G 101 3 fun G b13_2 =>
  q_pR G a0 1 1 (some b13_2) fun G =>
  q_pI G a0 1 2 (0 : Int32) fun G =>
  q_pI G a0 1 3 (0 : Int32) fun G =>
  q_pI G a0 1 4 (0 : Int32) fun G =>
  q_pI G a0 1 5 (0 : Int32) fun G =>
  some (G, ())
set_option maxRecDepth 100000 in
set_option maxHeartbeats 4000000 in
theorem bX0_init_0 {p : Program} {l : Launch} {e : Env} {s : State} {m : MethodId} {args : Array Value} {below : List Frame} {meth : Method} {c : Code} {E : mm_E} {N a0 : Nat} {res : mm_M × Unit} (X : mm_X p s m args meth c prog_2_method_1_code 1 "XorOverlay$Bucket" tw_T E) (hr : meth.sig.returnType = none) (hi : meth.name = "<init>") {G : mm_M} {H : Heap} {locs : List Loc} {ls : Array Slot} (V : mm_V E s G H locs) (hl : lx_has ls 1 [(0, .inr (some a0))]) (hp : pX0_init_0 N a0 G = some res) : W p l e rX0_init s m args below meth c H locs 0 0 (MQ below (mm_Qv E res.1) args s 2 6 (mm_A E)) (F0 m 0 ls []) := by
  have hx := X.1.1
  have hb := X.1.2.1
  unfold pX0_init_0 at hp
  refine x_aload_n X dX0_init_0 hl 0 rfl rfl ?_
  refine W.objInit hx hb X.1.2.2.2.1 (X.1.2.2.2.2 _ (tw_1 94 rfl rfl)) (X.1.2.2.2.2 _ (tw_1 17 rfl rfl)) (X.1.2.2.2.2 _ (tw_1 18 rfl rfl)) rfl (by rw [X.1.2.2.1]; exact hl.1) rfl dX0_init_1 (by decide) (Nat.le_of_ble_eq_true rfl) ?_
  refine W.eq (g2 := F0 m 4 ls ([])) rfl ?_
  refine x_aload_n X dX0_init_4 hl 0 rfl rfl ?_
  refine lv_iconst (v := (3 : Int32)) hx hb dX0_init_5 (by decide) ?_
  refine q_arrI (N := 3) X V (tw_1 35 rfl rfl) (by decide) (by decide) (by decide) (by decide) (by decide) rfl dX0_init_6 hp (fun G b6_1 H V hp => ?_)
  refine W.cs (cells' := 1) (slots' := 3) rfl rfl ?_
  refine q_putR (ci := 0) X V inX0 rfl tyX0 tyX0_ok nmX0 (by decide) rfl 0 (by decide) rfl (tw_1 95 rfl rfl) rfl (Or.inr ⟨rfl, hi, rfl⟩) (.array .int) rfl (va_rf_narrowA _ _) (va_rf_fitsA _ _) dX0_init_8 hp (fun G H locs V hp => ?_)
  refine x_aload_n X dX0_init_11 hl 0 rfl rfl ?_
  refine lv_iconst (v := (3 : Int32)) hx hb dX0_init_12 (by decide) ?_
  refine q_arrI (N := 3) X V (tw_1 35 rfl rfl) (by decide) (by decide) (by decide) (by decide) (by decide) rfl dX0_init_13 hp (fun G b13_2 H V hp => ?_)
  refine W.cs (cells' := 2) (slots' := 6) rfl rfl ?_
  refine q_putR (ci := 0) X V inX0 rfl tyX0 tyX0_ok nmX0 (by decide) rfl 1 (by decide) rfl (tw_1 98 rfl rfl) rfl (Or.inr ⟨rfl, hi, rfl⟩) (.array .int) rfl (va_rf_narrowA _ _) (va_rf_fitsA _ _) dX0_init_15 hp (fun G H locs V hp => ?_)
  refine x_aload_n X dX0_init_18 hl 0 rfl rfl ?_
  refine lv_iconst (v := (0 : Int32)) hx hb dX0_init_19 (by decide) ?_
  refine q_putI (ci := 0) X V inX0 rfl tyX0 tyX0_ok nmX0 (by decide) rfl 2 (by decide) rfl (tw_1 101 rfl rfl) rfl (Or.inl rfl) .int rfl rfl rfl dX0_init_20 hp (fun G H locs V hp => ?_)
  refine x_aload_n X dX0_init_23 hl 0 rfl rfl ?_
  refine lv_iconst (v := (0 : Int32)) hx hb dX0_init_24 (by decide) ?_
  refine q_putI (ci := 0) X V inX0 rfl tyX0 tyX0_ok nmX0 (by decide) rfl 3 (by decide) rfl (tw_1 104 rfl rfl) rfl (Or.inl rfl) .int rfl rfl rfl dX0_init_25 hp (fun G H locs V hp => ?_)
  refine x_aload_n X dX0_init_28 hl 0 rfl rfl ?_
  refine lv_iconst (v := (0 : Int32)) hx hb dX0_init_29 (by decide) ?_
  refine q_putI (ci := 0) X V inX0 rfl tyX0 tyX0_ok nmX0 (by decide) rfl 4 (by decide) rfl (tw_1 106 rfl rfl) rfl (Or.inl rfl) .int rfl rfl rfl dX0_init_30 hp (fun G H locs V hp => ?_)
  refine x_aload_n X dX0_init_33 hl 0 rfl rfl ?_
  refine lv_iconst (v := (0 : Int32)) hx hb dX0_init_34 (by decide) ?_
  refine q_putI (ci := 0) X V inX0 rfl tyX0 tyX0_ok nmX0 (by decide) rfl 5 (by decide) rfl (tw_1 109 rfl rfl) rfl (Or.inl rfl) .int rfl rfl rfl dX0_init_35 hp (fun G H locs V hp => ?_)
  exact q_vret X V hr ⟨by decide, by decide⟩ dX0_init_38 hp
theorem cX0_init (l : Launch) (E : mm_E) {N a0 : Nat} {G : mm_M} {res : mm_M × Unit} (hp : pX0_init_0 N a0 G = some res) : Met l yX0_init (Cond.code yX0_init prog_2_method_1_code 1 none :: tw_T) rX0_init (mm_Pc E G [.ref a0]) (mm_Qv E res.1) 2 6 (mm_A E) :=
  mm_met (own := "XorOverlay$Bucket") E G [.inr (some a0)] (by decide) rfl rfl (Nat.le_of_ble_eq_true rfl) (fun p e s m args below meth c ls X hr hi V hl => bX0_init_0 X hr hi V hl hp)
abbrev yX5_init : MethodName := ⟨"XorOverlay$Table", "<init>", "(I)V"⟩
abbrev rX5_init : Room := { frames := 2, cells := 31, slots := 129, locals := 50 }
theorem kX5_init : Cond.code yX5_init prog_7_method_1_code 3 none ∈ tw_T ∧ Cond.instanceMethod yX5_init ∈ tw_T ∧ Cond.initialized "XorOverlay$Table" ∈ tw_T := ⟨(tw_1 86 rfl rfl), (tw_1 85 rfl rfl), (tw_1 5 rfl rfl)⟩
theorem hX5_init : yX5_init.cls = "XorOverlay$Table" ∧ yX5_init.cls ≠ "java/lang/invoke/MethodHandle" ∧ yX5_init.cls ≠ "java/lang/invoke/VarHandle" ∧ (parseMethodDescriptor yX5_init.desc).map (fun d => d.parameters.length) = some 1 := by decide +kernel
theorem dX5_init_0 : decode prog_7_method_1_code 0 = .ok (.aload_n 0, 1) := by decide +kernel
theorem dX5_init_1 : decode prog_7_method_1_code 1 = .ok (.invokespecial 3, 3) := by decide +kernel
theorem dX5_init_4 : decode prog_7_method_1_code 4 = .ok (.aload_n 0, 1) := by decide +kernel
theorem dX5_init_5 : decode prog_7_method_1_code 5 = .ok (.iload_n 1, 1) := by decide +kernel
theorem dX5_init_6 : decode prog_7_method_1_code 6 = .ok (.putfield 9, 3) := by decide +kernel
theorem dX5_init_9 : decode prog_7_method_1_code 9 = .ok (.aload_n 0, 1) := by decide +kernel
theorem dX5_init_10 : decode prog_7_method_1_code 10 = .ok (.bipush 9, 2) := by decide +kernel
theorem dX5_init_12 : decode prog_7_method_1_code 12 = .ok (.anewarray 15, 3) := by decide +kernel
theorem dX5_init_15 : decode prog_7_method_1_code 15 = .ok (.putfield 17, 3) := by decide +kernel
theorem dX5_init_18 : decode prog_7_method_1_code 18 = .ok (.iconst 0, 1) := by decide +kernel
theorem dX5_init_19 : decode prog_7_method_1_code 19 = .ok (.istore_n 2, 1) := by decide +kernel
theorem dX5_init_20 : decode prog_7_method_1_code 20 = .ok (.iload_n 2, 1) := by decide +kernel
theorem dX5_init_21 : decode prog_7_method_1_code 21 = .ok (.bipush 9, 2) := by decide +kernel
theorem dX5_init_23 : decode prog_7_method_1_code 23 = .ok (.if_icmp .ge 22, 3) := by decide +kernel
theorem dX5_init_26 : decode prog_7_method_1_code 26 = .ok (.aload_n 0, 1) := by decide +kernel
theorem dX5_init_27 : decode prog_7_method_1_code 27 = .ok (.getfield 17, 3) := by decide +kernel
theorem dX5_init_30 : decode prog_7_method_1_code 30 = .ok (.iload_n 2, 1) := by decide +kernel
theorem dX5_init_31 : decode prog_7_method_1_code 31 = .ok (.new 15, 3) := by decide +kernel
theorem dX5_init_34 : decode prog_7_method_1_code 34 = .ok (.dup, 1) := by decide +kernel
theorem dX5_init_35 : decode prog_7_method_1_code 35 = .ok (.invokespecial 21, 3) := by decide +kernel
theorem dX5_init_38 : decode prog_7_method_1_code 38 = .ok (.aastore, 1) := by decide +kernel
theorem dX5_init_39 : decode prog_7_method_1_code 39 = .ok (.iinc 2 1, 3) := by decide +kernel
theorem dX5_init_42 : decode prog_7_method_1_code 42 = .ok (.goto (-22), 3) := by decide +kernel
theorem dX5_init_45 : decode prog_7_method_1_code 45 = .ok (.aload_n 0, 1) := by decide +kernel
theorem dX5_init_46 : decode prog_7_method_1_code 46 = .ok (.iconst 0, 1) := by decide +kernel
theorem dX5_init_47 : decode prog_7_method_1_code 47 = .ok (.putfield 22, 3) := by decide +kernel
theorem dX5_init_50 : decode prog_7_method_1_code 50 = .ok (.return_, 1) := by decide +kernel
def pX5_init_20_b (N a0 : Nat) (kb : mm_M → Int32 → Option (mm_M × Unit)) (kx : mm_M → Option (mm_M × Unit)) (G : mm_M) (x2 : Int32) : Option (mm_M × Unit) :=
  if (9 : Int32) ≤ x2 then
    kx G
  else
    q_gR G a0 6 1 fun r27_2 =>
    q_new G 1 fun G b31_3 =>
    q_cl (pX0_init_0 N b31_3 G) fun G _ =>
    q_nn r27_2 fun b38_5 =>
    q_sR G b38_5 104 1 x2 (some b31_3) fun G =>
    kb G (x2 + (1 : Int32))
def pX5_init_20 (N a0 : Nat) (kx : mm_M → Option (mm_M × Unit)) : Nat → mm_M → Int32 → Option (mm_M × Unit)
  | 0 => fun _ _ => none
  | n + 1 => pX5_init_20_b N a0 (pX5_init_20 N a0 kx n) kx
set_option maxRecDepth 100000 in
set_option maxHeartbeats 4000000 in
theorem bX5_init_20 {p : Program} {l : Launch} {e : Env} {s : State} {m : MethodId} {args : Array Value} {below : List Frame} {meth : Method} {c : Code} {E : mm_E} {N a0 : Nat} {res : mm_M × Unit} (X : mm_X p s m args meth c prog_7_method_1_code 3 "XorOverlay$Table" tw_T E) (hr : meth.sig.returnType = none) (hi : meth.name = "<init>") {kx : mm_M → Option (mm_M × Unit)} (hkx : ∀ (G : mm_M) (H : Heap) (locs : List Loc) (ls : Array Slot), mm_V E s G H locs → lx_has ls 3 [(0, .inr (some a0))] → kx G = some res → W p l e rX5_init s m args below meth c H locs 31 129 (MQ below (mm_Qv E res.1) args s 31 129 (mm_A E)) (F0 m 45 ls [])) :
    ∀ (n : Nat) (cells slots : Nat), cells + 3 * n ≤ 31 → slots + 12 * n ≤ 129 → ∀ (G : mm_M) (H : Heap) (locs : List Loc) (ls : Array Slot) (x2 : Int32), mm_V E s G H locs → lx_has ls 3 [(0, .inr (some a0)), (2, .inl x2)] → pX5_init_20 N a0 kx n G x2 = some res → W p l e rX5_init s m args below meth c H locs cells slots (MQ below (mm_Qv E res.1) args s 31 129 (mm_A E)) (F0 m 20 ls []) := by
  have hx := X.1.1
  have hb := X.1.2.1
  intro n
  induction n with
  | zero =>
    intro cells slots hcells hslots G H locs ls x2 V hl hp
    cases hp
  | succ n ih =>
    intro cells slots hcells hslots G H locs ls x2 V hl hp
    have hp : pX5_init_20_b N a0 (pX5_init_20 N a0 kx n) kx G x2 = some res := hp
    unfold pX5_init_20_b at hp
    refine x_iload_n X dX5_init_20 hl 1 rfl rfl ?_
    refine lv_bipush (v := (9 : Int32)) hx hb dX5_init_21 (by decide) ?_
    refine q_if hp (lv_icmp_ge (tgt := 45) hx hb dX5_init_23 (by decide)) (fun hp => ?_) (fun hp => ?_)
    · refine W.widen (k := 31) (n := 129) (by omega) (by omega) ?_
      exact hkx _ _ _ _ V (lx_sub hl [0] rfl) hp
    · refine x_aload_n X dX5_init_26 hl 0 rfl rfl ?_
      refine q_getR (ci := 5) X V inX5 rfl (by decide) rfl 1 (by decide) rfl (tw_1 126 rfl rfl) rfl dX5_init_27 hp (fun r27_2 hp => ?_)
      refine x_iload_n X dX5_init_30 hl 1 rfl rfl ?_
      refine q_newc (ci := 0) X V inX0 rfl tyX0 tyX0_ok (by decide) rfl rfl dfX0 (tw_1 88 rfl rfl) (tw_1 90 rfl rfl) (tw_1 6 rfl rfl) (show cells + 1 ≤ 31 by omega) (show slots + 6 ≤ 129 by omega) dX5_init_31 hp (fun G b31_3 H V hp => ?_)
      refine lv_dup hx hb dX5_init_34 (va_rf_cat _) ?_
      obtain ⟨⟨G, u⟩, hq, hp⟩ := q_cl_of hp
      dsimp only at hp
      refine q_gov (cells' := cells + 1 + 2) (slots' := slots + 6 + 6) (va_runI (As := []) (rest := [va_rf (some b31_3), .int x2, va_rf r27_2]) X.1 (cX0_init l E hq) (tw_cwI 0 X.1.2.2.2.2 (tw_1 91 rfl rfl) kX0_init.2.1 kX0_init.2.2 kX0_init.1 rfl rfl rfl hX0_init ⟨Nat.le_of_ble_eq_true rfl, Nat.le_of_ble_eq_true rfl⟩) (mm_preS X V) rfl rfl hl.1 rfl (lv_room (by simp [va_rf_cat, va_int_cat])) dX5_init_35 ⟨show cells + 1 + 2 ≤ 31 by omega, show slots + 6 + 6 ≤ 129 by omega⟩) V ⟨rfl, rfl⟩ (fun H locs V => ?_)
      obtain ⟨b38_5, e0, hp2⟩ := q_nn_of hp
      clear hp; subst e0; have hp := hp2; clear hp2
      refine q_astB (ci := 0) X V rfl rfl (by decide) rfl dX5_init_38 hp (fun G H locs V hp => ?_)
      refine x_iinc (v := (1 : Int32)) (lst' := [(2, .inl (x2 + (1 : Int32))), (0, .inr (some a0))]) X dX5_init_39 hl 1 rfl (by decide) (by decide) rfl (fun ls hl => ?_)
      refine lv_goto (tgt := 20) hx hb dX5_init_42 (by decide) ?_
      exact ih _ _ (by omega) (by omega) _ _ _ _ _ V (lx_sub hl [1, 0] rfl) hp
def pX5_init_0 (N a0 : Nat) (G : mm_M) (x1 : Int32) : Option (mm_M × Unit) :=
  q_pI G a0 6 0 x1 fun G =>
  q_arr G 104 9 fun G b12_1 =>
  q_pR G a0 6 1 (some b12_1) fun G =>
  pX5_init_20 N a0 (fun (G : mm_M) =>
    q_pI G a0 6 2 (0 : Int32) fun G =>
    some (G, ())) 10 G (0 : Int32)
set_option maxRecDepth 100000 in
set_option maxHeartbeats 4000000 in
theorem bX5_init_0 {p : Program} {l : Launch} {e : Env} {s : State} {m : MethodId} {args : Array Value} {below : List Frame} {meth : Method} {c : Code} {E : mm_E} {N a0 : Nat} {res : mm_M × Unit} (X : mm_X p s m args meth c prog_7_method_1_code 3 "XorOverlay$Table" tw_T E) (hr : meth.sig.returnType = none) (hi : meth.name = "<init>") {G : mm_M} {H : Heap} {locs : List Loc} {ls : Array Slot} {x1 : Int32} (V : mm_V E s G H locs) (hl : lx_has ls 3 [(0, .inr (some a0)), (1, .inl x1)]) (hp : pX5_init_0 N a0 G x1 = some res) : W p l e rX5_init s m args below meth c H locs 0 0 (MQ below (mm_Qv E res.1) args s 31 129 (mm_A E)) (F0 m 0 ls []) := by
  have hx := X.1.1
  have hb := X.1.2.1
  unfold pX5_init_0 at hp
  refine x_aload_n X dX5_init_0 hl 0 rfl rfl ?_
  refine W.objInit hx hb X.1.2.2.2.1 (X.1.2.2.2.2 _ (tw_1 87 rfl rfl)) (X.1.2.2.2.2 _ (tw_1 17 rfl rfl)) (X.1.2.2.2.2 _ (tw_1 18 rfl rfl)) rfl (by rw [X.1.2.2.1]; exact hl.1) rfl dX5_init_1 (by decide) (Nat.le_of_ble_eq_true rfl) ?_
  refine W.eq (g2 := F0 m 4 ls ([])) rfl ?_
  refine x_aload_n X dX5_init_4 hl 0 rfl rfl ?_
  refine x_iload_n X dX5_init_5 hl 1 rfl rfl ?_
  refine q_putI (ci := 5) X V inX5 rfl tyX5 tyX5_ok nmX5 (by decide) rfl 0 (by decide) rfl (tw_1 125 rfl rfl) rfl (Or.inr ⟨rfl, hi, rfl⟩) .int rfl rfl rfl dX5_init_6 hp (fun G H locs V hp => ?_)
  refine x_aload_n X dX5_init_9 hl 0 rfl rfl ?_
  refine lv_bipush (v := (9 : Int32)) hx hb dX5_init_10 (by decide) ?_
  refine q_arrB (N := 9) X V rfl (tw_1 88 rfl rfl) X.2.2.2.2.2 (by decide) (by decide) (by decide) (by decide) (by decide) dX5_init_12 hp (fun G b12_1 H V hp => ?_)
  refine W.cs (cells' := 1) (slots' := 9) rfl rfl ?_
  refine q_putR (ci := 5) X V inX5 rfl tyX5 tyX5_ok nmX5 (by decide) rfl 1 (by decide) rfl (tw_1 126 rfl rfl) rfl (Or.inr ⟨rfl, hi, rfl⟩) (.array (.object "XorOverlay$Bucket")) rfl (va_rf_narrowA _ _) (va_rf_fitsA _ _) dX5_init_15 hp (fun G H locs V hp => ?_)
  refine lv_iconst (v := (0 : Int32)) hx hb dX5_init_18 (by decide) ?_
  refine x_istore_n (lst' := [(2, .inl (0 : Int32)), (0, .inr (some a0)), (1, .inl x1)]) X dX5_init_19 hl rfl (by decide) rfl (fun ls hl => ?_)
  refine bX5_init_20 X hr hi (fun G H locs ls V hl hp => ?_) 10 1 9 (by omega) (by omega) _ _ _ _ _ V (lx_sub hl [1, 0] rfl) hp
  refine x_aload_n X dX5_init_45 hl 0 rfl rfl ?_
  refine lv_iconst (v := (0 : Int32)) hx hb dX5_init_46 (by decide) ?_
  refine q_putI (ci := 5) X V inX5 rfl tyX5 tyX5_ok nmX5 (by decide) rfl 2 (by decide) rfl (tw_1 128 rfl rfl) rfl (Or.inl rfl) .int rfl rfl rfl dX5_init_47 hp (fun G H locs V hp => ?_)
  exact q_vret X V hr ⟨by decide, by decide⟩ dX5_init_50 hp
theorem cX5_init (l : Launch) (E : mm_E) {N a0 : Nat} {G : mm_M} {x1 : Int32} {res : mm_M × Unit} (hp : pX5_init_0 N a0 G x1 = some res) : Met l yX5_init (Cond.code yX5_init prog_7_method_1_code 3 none :: tw_T) rX5_init (mm_Pc E G [.ref a0, .int x1]) (mm_Qv E res.1) 31 129 (mm_A E) :=
  mm_met (own := "XorOverlay$Table") E G [.inr (some a0), .inl x1] (by decide) rfl rfl (Nat.le_of_ble_eq_true rfl) (fun p e s m args below meth c ls X hr hi V hl => bX5_init_0 X hr hi V hl hp)
abbrev yX3_init : MethodName := ⟨"XorOverlay$Lookup", "<init>", "()V"⟩
abbrev rX3_init : Room := { frames := 1, cells := 5, slots := 60, locals := 30 }
theorem kX3_init : Cond.code yX3_init prog_5_method_1_code 1 none ∈ tw_T ∧ Cond.instanceMethod yX3_init ∈ tw_T ∧ Cond.initialized "XorOverlay$Lookup" ∈ tw_T := ⟨(tw_1 141 rfl rfl), (tw_1 140 rfl rfl), (tw_1 7 rfl rfl)⟩
theorem hX3_init : yX3_init.cls = "XorOverlay$Lookup" ∧ yX3_init.cls ≠ "java/lang/invoke/MethodHandle" ∧ yX3_init.cls ≠ "java/lang/invoke/VarHandle" ∧ (parseMethodDescriptor yX3_init.desc).map (fun d => d.parameters.length) = some 0 := by decide +kernel
theorem dX3_init_0 : decode prog_5_method_1_code 0 = .ok (.aload_n 0, 1) := by decide +kernel
theorem dX3_init_1 : decode prog_5_method_1_code 1 = .ok (.invokespecial 3, 3) := by decide +kernel
theorem dX3_init_4 : decode prog_5_method_1_code 4 = .ok (.aload_n 0, 1) := by decide +kernel
theorem dX3_init_5 : decode prog_5_method_1_code 5 = .ok (.bipush 12, 2) := by decide +kernel
theorem dX3_init_7 : decode prog_5_method_1_code 7 = .ok (.newarray .int, 2) := by decide +kernel
theorem dX3_init_9 : decode prog_5_method_1_code 9 = .ok (.putfield 9, 3) := by decide +kernel
theorem dX3_init_12 : decode prog_5_method_1_code 12 = .ok (.aload_n 0, 1) := by decide +kernel
theorem dX3_init_13 : decode prog_5_method_1_code 13 = .ok (.bipush 12, 2) := by decide +kernel
theorem dX3_init_15 : decode prog_5_method_1_code 15 = .ok (.newarray .int, 2) := by decide +kernel
theorem dX3_init_17 : decode prog_5_method_1_code 17 = .ok (.putfield 15, 3) := by decide +kernel
theorem dX3_init_20 : decode prog_5_method_1_code 20 = .ok (.aload_n 0, 1) := by decide +kernel
theorem dX3_init_21 : decode prog_5_method_1_code 21 = .ok (.bipush 12, 2) := by decide +kernel
theorem dX3_init_23 : decode prog_5_method_1_code 23 = .ok (.newarray .int, 2) := by decide +kernel
theorem dX3_init_25 : decode prog_5_method_1_code 25 = .ok (.putfield 18, 3) := by decide +kernel
theorem dX3_init_28 : decode prog_5_method_1_code 28 = .ok (.aload_n 0, 1) := by decide +kernel
theorem dX3_init_29 : decode prog_5_method_1_code 29 = .ok (.bipush 12, 2) := by decide +kernel
theorem dX3_init_31 : decode prog_5_method_1_code 31 = .ok (.newarray .int, 2) := by decide +kernel
theorem dX3_init_33 : decode prog_5_method_1_code 33 = .ok (.putfield 21, 3) := by decide +kernel
theorem dX3_init_36 : decode prog_5_method_1_code 36 = .ok (.aload_n 0, 1) := by decide +kernel
theorem dX3_init_37 : decode prog_5_method_1_code 37 = .ok (.bipush 12, 2) := by decide +kernel
theorem dX3_init_39 : decode prog_5_method_1_code 39 = .ok (.newarray .int, 2) := by decide +kernel
theorem dX3_init_41 : decode prog_5_method_1_code 41 = .ok (.putfield 24, 3) := by decide +kernel
theorem dX3_init_44 : decode prog_5_method_1_code 44 = .ok (.aload_n 0, 1) := by decide +kernel
theorem dX3_init_45 : decode prog_5_method_1_code 45 = .ok (.iconst 0, 1) := by decide +kernel
theorem dX3_init_46 : decode prog_5_method_1_code 46 = .ok (.putfield 27, 3) := by decide +kernel
theorem dX3_init_49 : decode prog_5_method_1_code 49 = .ok (.aload_n 0, 1) := by decide +kernel
theorem dX3_init_50 : decode prog_5_method_1_code 50 = .ok (.iconst 0, 1) := by decide +kernel
theorem dX3_init_51 : decode prog_5_method_1_code 51 = .ok (.putfield 31, 3) := by decide +kernel
theorem dX3_init_54 : decode prog_5_method_1_code 54 = .ok (.aload_n 0, 1) := by decide +kernel
theorem dX3_init_55 : decode prog_5_method_1_code 55 = .ok (.iconst 0, 1) := by decide +kernel
theorem dX3_init_56 : decode prog_5_method_1_code 56 = .ok (.putfield 34, 3) := by decide +kernel
theorem dX3_init_59 : decode prog_5_method_1_code 59 = .ok (.return_, 1) := by decide +kernel
def pX3_init_0 (N a0 : Nat) (G : mm_M) : Option (mm_M × Unit) :=
  q_arr G 101 12 fun G b7_1 =>
  q_pR G a0 4 0 (some b7_1) fun G =>
  q_arr G 101 12 fun G b15_2 =>
  q_pR G a0 4 1 (some b15_2) fun G =>
  q_arr G 101 12 fun G b23_3 =>
  q_pR G a0 4 2 (some b23_3) fun G =>
  q_arr G 101 12 fun G b31_4 =>
  q_pR G a0 4 3 (some b31_4) fun G =>
  q_arr G 101 12 fun G b39_5 =>
  q_pR G a0 4 4 (some b39_5) fun G =>
  q_pI G a0 4 5 (0 : Int32) fun G =>
  q_pI G a0 4 9 (0 : Int32) fun G =>
  q_pI G a0 4 10 (0 : Int32) fun G =>
  some (G, ())
set_option maxRecDepth 100000 in
set_option maxHeartbeats 4000000 in
theorem bX3_init_0 {p : Program} {l : Launch} {e : Env} {s : State} {m : MethodId} {args : Array Value} {below : List Frame} {meth : Method} {c : Code} {E : mm_E} {N a0 : Nat} {res : mm_M × Unit} (X : mm_X p s m args meth c prog_5_method_1_code 1 "XorOverlay$Lookup" tw_T E) (hr : meth.sig.returnType = none) (hi : meth.name = "<init>") {G : mm_M} {H : Heap} {locs : List Loc} {ls : Array Slot} (V : mm_V E s G H locs) (hl : lx_has ls 1 [(0, .inr (some a0))]) (hp : pX3_init_0 N a0 G = some res) : W p l e rX3_init s m args below meth c H locs 0 0 (MQ below (mm_Qv E res.1) args s 5 60 (mm_A E)) (F0 m 0 ls []) := by
  have hx := X.1.1
  have hb := X.1.2.1
  unfold pX3_init_0 at hp
  refine x_aload_n X dX3_init_0 hl 0 rfl rfl ?_
  refine W.objInit hx hb X.1.2.2.2.1 (X.1.2.2.2.2 _ (tw_1 142 rfl rfl)) (X.1.2.2.2.2 _ (tw_1 17 rfl rfl)) (X.1.2.2.2.2 _ (tw_1 18 rfl rfl)) rfl (by rw [X.1.2.2.1]; exact hl.1) rfl dX3_init_1 (by decide) (Nat.le_of_ble_eq_true rfl) ?_
  refine W.eq (g2 := F0 m 4 ls ([])) rfl ?_
  refine x_aload_n X dX3_init_4 hl 0 rfl rfl ?_
  refine lv_bipush (v := (12 : Int32)) hx hb dX3_init_5 (by decide) ?_
  refine q_arrI (N := 12) X V (tw_1 35 rfl rfl) (by decide) (by decide) (by decide) (by decide) (by decide) rfl dX3_init_7 hp (fun G b7_1 H V hp => ?_)
  refine W.cs (cells' := 1) (slots' := 12) rfl rfl ?_
  refine q_putR (ci := 3) X V inX3 rfl tyX3 tyX3_ok nmX3 (by decide) rfl 0 (by decide) rfl (tw_1 143 rfl rfl) rfl (Or.inr ⟨rfl, hi, rfl⟩) (.array .int) rfl (va_rf_narrowA _ _) (va_rf_fitsA _ _) dX3_init_9 hp (fun G H locs V hp => ?_)
  refine x_aload_n X dX3_init_12 hl 0 rfl rfl ?_
  refine lv_bipush (v := (12 : Int32)) hx hb dX3_init_13 (by decide) ?_
  refine q_arrI (N := 12) X V (tw_1 35 rfl rfl) (by decide) (by decide) (by decide) (by decide) (by decide) rfl dX3_init_15 hp (fun G b15_2 H V hp => ?_)
  refine W.cs (cells' := 2) (slots' := 24) rfl rfl ?_
  refine q_putR (ci := 3) X V inX3 rfl tyX3 tyX3_ok nmX3 (by decide) rfl 1 (by decide) rfl (tw_1 145 rfl rfl) rfl (Or.inr ⟨rfl, hi, rfl⟩) (.array .int) rfl (va_rf_narrowA _ _) (va_rf_fitsA _ _) dX3_init_17 hp (fun G H locs V hp => ?_)
  refine x_aload_n X dX3_init_20 hl 0 rfl rfl ?_
  refine lv_bipush (v := (12 : Int32)) hx hb dX3_init_21 (by decide) ?_
  refine q_arrI (N := 12) X V (tw_1 35 rfl rfl) (by decide) (by decide) (by decide) (by decide) (by decide) rfl dX3_init_23 hp (fun G b23_3 H V hp => ?_)
  refine W.cs (cells' := 3) (slots' := 36) rfl rfl ?_
  refine q_putR (ci := 3) X V inX3 rfl tyX3 tyX3_ok nmX3 (by decide) rfl 2 (by decide) rfl (tw_1 147 rfl rfl) rfl (Or.inr ⟨rfl, hi, rfl⟩) (.array .int) rfl (va_rf_narrowA _ _) (va_rf_fitsA _ _) dX3_init_25 hp (fun G H locs V hp => ?_)
  refine x_aload_n X dX3_init_28 hl 0 rfl rfl ?_
  refine lv_bipush (v := (12 : Int32)) hx hb dX3_init_29 (by decide) ?_
  refine q_arrI (N := 12) X V (tw_1 35 rfl rfl) (by decide) (by decide) (by decide) (by decide) (by decide) rfl dX3_init_31 hp (fun G b31_4 H V hp => ?_)
  refine W.cs (cells' := 4) (slots' := 48) rfl rfl ?_
  refine q_putR (ci := 3) X V inX3 rfl tyX3 tyX3_ok nmX3 (by decide) rfl 3 (by decide) rfl (tw_1 149 rfl rfl) rfl (Or.inr ⟨rfl, hi, rfl⟩) (.array .int) rfl (va_rf_narrowA _ _) (va_rf_fitsA _ _) dX3_init_33 hp (fun G H locs V hp => ?_)
  refine x_aload_n X dX3_init_36 hl 0 rfl rfl ?_
  refine lv_bipush (v := (12 : Int32)) hx hb dX3_init_37 (by decide) ?_
  refine q_arrI (N := 12) X V (tw_1 35 rfl rfl) (by decide) (by decide) (by decide) (by decide) (by decide) rfl dX3_init_39 hp (fun G b39_5 H V hp => ?_)
  refine W.cs (cells' := 5) (slots' := 60) rfl rfl ?_
  refine q_putR (ci := 3) X V inX3 rfl tyX3 tyX3_ok nmX3 (by decide) rfl 4 (by decide) rfl (tw_1 151 rfl rfl) rfl (Or.inr ⟨rfl, hi, rfl⟩) (.array .int) rfl (va_rf_narrowA _ _) (va_rf_fitsA _ _) dX3_init_41 hp (fun G H locs V hp => ?_)
  refine x_aload_n X dX3_init_44 hl 0 rfl rfl ?_
  refine lv_iconst (v := (0 : Int32)) hx hb dX3_init_45 (by decide) ?_
  refine q_putI (ci := 3) X V inX3 rfl tyX3 tyX3_ok nmX3 (by decide) rfl 5 (by decide) rfl (tw_1 153 rfl rfl) rfl (Or.inl rfl) .int rfl rfl rfl dX3_init_46 hp (fun G H locs V hp => ?_)
  refine x_aload_n X dX3_init_49 hl 0 rfl rfl ?_
  refine lv_iconst (v := (0 : Int32)) hx hb dX3_init_50 (by decide) ?_
  refine q_putI (ci := 3) X V inX3 rfl tyX3 tyX3_ok nmX3 (by decide) rfl 9 (by decide) rfl (tw_1 161 rfl rfl) rfl (Or.inl rfl) .int rfl rfl rfl dX3_init_51 hp (fun G H locs V hp => ?_)
  refine x_aload_n X dX3_init_54 hl 0 rfl rfl ?_
  refine lv_iconst (v := (0 : Int32)) hx hb dX3_init_55 (by decide) ?_
  refine q_putI (ci := 3) X V inX3 rfl tyX3 tyX3_ok nmX3 (by decide) rfl 10 (by decide) rfl (tw_1 163 rfl rfl) rfl (Or.inl rfl) .int rfl rfl rfl dX3_init_56 hp (fun G H locs V hp => ?_)
  exact q_vret X V hr ⟨by decide, by decide⟩ dX3_init_59 hp
theorem cX3_init (l : Launch) (E : mm_E) {N a0 : Nat} {G : mm_M} {res : mm_M × Unit} (hp : pX3_init_0 N a0 G = some res) : Met l yX3_init (Cond.code yX3_init prog_5_method_1_code 1 none :: tw_T) rX3_init (mm_Pc E G [.ref a0]) (mm_Qv E res.1) 5 60 (mm_A E) :=
  mm_met (own := "XorOverlay$Lookup") E G [.inr (some a0)] (by decide) rfl rfl (Nat.le_of_ble_eq_true rfl) (fun p e s m args below meth c ls X hr hi V hl => bX3_init_0 X hr hi V hl hp)
abbrev yX1_init : MethodName := ⟨"XorOverlay$Entries", "<init>", "()V"⟩
abbrev rX1_init : Room := { frames := 1, cells := 3, slots := 18, locals := 30 }
theorem kX1_init : Cond.code yX1_init prog_3_method_1_code 1 none ∈ tw_T ∧ Cond.instanceMethod yX1_init ∈ tw_T ∧ Cond.initialized "XorOverlay$Entries" ∈ tw_T := ⟨(tw_1 192 rfl rfl), (tw_1 191 rfl rfl), (tw_1 8 rfl rfl)⟩
theorem hX1_init : yX1_init.cls = "XorOverlay$Entries" ∧ yX1_init.cls ≠ "java/lang/invoke/MethodHandle" ∧ yX1_init.cls ≠ "java/lang/invoke/VarHandle" ∧ (parseMethodDescriptor yX1_init.desc).map (fun d => d.parameters.length) = some 0 := by decide +kernel
theorem dX1_init_0 : decode prog_3_method_1_code 0 = .ok (.aload_n 0, 1) := by decide +kernel
theorem dX1_init_1 : decode prog_3_method_1_code 1 = .ok (.invokespecial 1, 3) := by decide +kernel
theorem dX1_init_4 : decode prog_3_method_1_code 4 = .ok (.aload_n 0, 1) := by decide +kernel
theorem dX1_init_5 : decode prog_3_method_1_code 5 = .ok (.bipush 6, 2) := by decide +kernel
theorem dX1_init_7 : decode prog_3_method_1_code 7 = .ok (.newarray .int, 2) := by decide +kernel
theorem dX1_init_9 : decode prog_3_method_1_code 9 = .ok (.putfield 9, 3) := by decide +kernel
theorem dX1_init_12 : decode prog_3_method_1_code 12 = .ok (.aload_n 0, 1) := by decide +kernel
theorem dX1_init_13 : decode prog_3_method_1_code 13 = .ok (.bipush 6, 2) := by decide +kernel
theorem dX1_init_15 : decode prog_3_method_1_code 15 = .ok (.newarray .int, 2) := by decide +kernel
theorem dX1_init_17 : decode prog_3_method_1_code 17 = .ok (.putfield 13, 3) := by decide +kernel
theorem dX1_init_20 : decode prog_3_method_1_code 20 = .ok (.aload_n 0, 1) := by decide +kernel
theorem dX1_init_21 : decode prog_3_method_1_code 21 = .ok (.bipush 6, 2) := by decide +kernel
theorem dX1_init_23 : decode prog_3_method_1_code 23 = .ok (.newarray .int, 2) := by decide +kernel
theorem dX1_init_25 : decode prog_3_method_1_code 25 = .ok (.putfield 16, 3) := by decide +kernel
theorem dX1_init_28 : decode prog_3_method_1_code 28 = .ok (.aload_n 0, 1) := by decide +kernel
theorem dX1_init_29 : decode prog_3_method_1_code 29 = .ok (.iconst 0, 1) := by decide +kernel
theorem dX1_init_30 : decode prog_3_method_1_code 30 = .ok (.putfield 19, 3) := by decide +kernel
theorem dX1_init_33 : decode prog_3_method_1_code 33 = .ok (.return_, 1) := by decide +kernel
def pX1_init_0 (N a0 : Nat) (G : mm_M) : Option (mm_M × Unit) :=
  q_arr G 101 6 fun G b7_1 =>
  q_pR G a0 2 0 (some b7_1) fun G =>
  q_arr G 101 6 fun G b15_2 =>
  q_pR G a0 2 1 (some b15_2) fun G =>
  q_arr G 101 6 fun G b23_3 =>
  q_pR G a0 2 2 (some b23_3) fun G =>
  q_pI G a0 2 3 (0 : Int32) fun G =>
  some (G, ())
set_option maxRecDepth 100000 in
set_option maxHeartbeats 4000000 in
theorem bX1_init_0 {p : Program} {l : Launch} {e : Env} {s : State} {m : MethodId} {args : Array Value} {below : List Frame} {meth : Method} {c : Code} {E : mm_E} {N a0 : Nat} {res : mm_M × Unit} (X : mm_X p s m args meth c prog_3_method_1_code 1 "XorOverlay$Entries" tw_T E) (hr : meth.sig.returnType = none) (hi : meth.name = "<init>") {G : mm_M} {H : Heap} {locs : List Loc} {ls : Array Slot} (V : mm_V E s G H locs) (hl : lx_has ls 1 [(0, .inr (some a0))]) (hp : pX1_init_0 N a0 G = some res) : W p l e rX1_init s m args below meth c H locs 0 0 (MQ below (mm_Qv E res.1) args s 3 18 (mm_A E)) (F0 m 0 ls []) := by
  have hx := X.1.1
  have hb := X.1.2.1
  unfold pX1_init_0 at hp
  refine x_aload_n X dX1_init_0 hl 0 rfl rfl ?_
  refine W.objInit hx hb X.1.2.2.2.1 (X.1.2.2.2.2 _ (tw_1 193 rfl rfl)) (X.1.2.2.2.2 _ (tw_1 17 rfl rfl)) (X.1.2.2.2.2 _ (tw_1 18 rfl rfl)) rfl (by rw [X.1.2.2.1]; exact hl.1) rfl dX1_init_1 (by decide) (Nat.le_of_ble_eq_true rfl) ?_
  refine W.eq (g2 := F0 m 4 ls ([])) rfl ?_
  refine x_aload_n X dX1_init_4 hl 0 rfl rfl ?_
  refine lv_bipush (v := (6 : Int32)) hx hb dX1_init_5 (by decide) ?_
  refine q_arrI (N := 6) X V (tw_1 35 rfl rfl) (by decide) (by decide) (by decide) (by decide) (by decide) rfl dX1_init_7 hp (fun G b7_1 H V hp => ?_)
  refine W.cs (cells' := 1) (slots' := 6) rfl rfl ?_
  refine q_putR (ci := 1) X V inX1 rfl tyX1 tyX1_ok nmX1 (by decide) rfl 0 (by decide) rfl (tw_1 194 rfl rfl) rfl (Or.inr ⟨rfl, hi, rfl⟩) (.array .int) rfl (va_rf_narrowA _ _) (va_rf_fitsA _ _) dX1_init_9 hp (fun G H locs V hp => ?_)
  refine x_aload_n X dX1_init_12 hl 0 rfl rfl ?_
  refine lv_bipush (v := (6 : Int32)) hx hb dX1_init_13 (by decide) ?_
  refine q_arrI (N := 6) X V (tw_1 35 rfl rfl) (by decide) (by decide) (by decide) (by decide) (by decide) rfl dX1_init_15 hp (fun G b15_2 H V hp => ?_)
  refine W.cs (cells' := 2) (slots' := 12) rfl rfl ?_
  refine q_putR (ci := 1) X V inX1 rfl tyX1 tyX1_ok nmX1 (by decide) rfl 1 (by decide) rfl (tw_1 196 rfl rfl) rfl (Or.inr ⟨rfl, hi, rfl⟩) (.array .int) rfl (va_rf_narrowA _ _) (va_rf_fitsA _ _) dX1_init_17 hp (fun G H locs V hp => ?_)
  refine x_aload_n X dX1_init_20 hl 0 rfl rfl ?_
  refine lv_bipush (v := (6 : Int32)) hx hb dX1_init_21 (by decide) ?_
  refine q_arrI (N := 6) X V (tw_1 35 rfl rfl) (by decide) (by decide) (by decide) (by decide) (by decide) rfl dX1_init_23 hp (fun G b23_3 H V hp => ?_)
  refine W.cs (cells' := 3) (slots' := 18) rfl rfl ?_
  refine q_putR (ci := 1) X V inX1 rfl tyX1 tyX1_ok nmX1 (by decide) rfl 2 (by decide) rfl (tw_1 198 rfl rfl) rfl (Or.inr ⟨rfl, hi, rfl⟩) (.array .int) rfl (va_rf_narrowA _ _) (va_rf_fitsA _ _) dX1_init_25 hp (fun G H locs V hp => ?_)
  refine x_aload_n X dX1_init_28 hl 0 rfl rfl ?_
  refine lv_iconst (v := (0 : Int32)) hx hb dX1_init_29 (by decide) ?_
  refine q_putI (ci := 1) X V inX1 rfl tyX1 tyX1_ok nmX1 (by decide) rfl 3 (by decide) rfl (tw_1 200 rfl rfl) rfl (Or.inl rfl) .int rfl rfl rfl dX1_init_30 hp (fun G H locs V hp => ?_)
  exact q_vret X V hr ⟨by decide, by decide⟩ dX1_init_33 hp
theorem cX1_init (l : Launch) (E : mm_E) {N a0 : Nat} {G : mm_M} {res : mm_M × Unit} (hp : pX1_init_0 N a0 G = some res) : Met l yX1_init (Cond.code yX1_init prog_3_method_1_code 1 none :: tw_T) rX1_init (mm_Pc E G [.ref a0]) (mm_Qv E res.1) 3 18 (mm_A E) :=
  mm_met (own := "XorOverlay$Entries") E G [.inr (some a0)] (by decide) rfl rfl (Nat.le_of_ble_eq_true rfl) (fun p e s m args below meth c ls X hr hi V hl => bX1_init_0 X hr hi V hl hp)
abbrev yX4_init : MethodName := ⟨"XorOverlay$Peer", "<init>", "(I)V"⟩
abbrev rX4_init : Room := { frames := 3, cells := 42, slots := 225, locals := 72 }
theorem kX4_init : Cond.code yX4_init prog_6_method_1_code 2 none ∈ tw_T ∧ Cond.instanceMethod yX4_init ∈ tw_T ∧ Cond.initialized "XorOverlay$Peer" ∈ tw_T := ⟨(tw_1 80 rfl rfl), (tw_1 79 rfl rfl), (tw_1 4 rfl rfl)⟩
theorem hX4_init : yX4_init.cls = "XorOverlay$Peer" ∧ yX4_init.cls ≠ "java/lang/invoke/MethodHandle" ∧ yX4_init.cls ≠ "java/lang/invoke/VarHandle" ∧ (parseMethodDescriptor yX4_init.desc).map (fun d => d.parameters.length) = some 1 := by decide +kernel
theorem dX4_init_0 : decode prog_6_method_1_code 0 = .ok (.aload_n 0, 1) := by decide +kernel
theorem dX4_init_1 : decode prog_6_method_1_code 1 = .ok (.invokespecial 1, 3) := by decide +kernel
theorem dX4_init_4 : decode prog_6_method_1_code 4 = .ok (.aload_n 0, 1) := by decide +kernel
theorem dX4_init_5 : decode prog_6_method_1_code 5 = .ok (.iload_n 1, 1) := by decide +kernel
theorem dX4_init_6 : decode prog_6_method_1_code 6 = .ok (.putfield 7, 3) := by decide +kernel
theorem dX4_init_9 : decode prog_6_method_1_code 9 = .ok (.aload_n 0, 1) := by decide +kernel
theorem dX4_init_10 : decode prog_6_method_1_code 10 = .ok (.new 13, 3) := by decide +kernel
theorem dX4_init_13 : decode prog_6_method_1_code 13 = .ok (.dup, 1) := by decide +kernel
theorem dX4_init_14 : decode prog_6_method_1_code 14 = .ok (.iload_n 1, 1) := by decide +kernel
theorem dX4_init_15 : decode prog_6_method_1_code 15 = .ok (.invokespecial 15, 3) := by decide +kernel
theorem dX4_init_18 : decode prog_6_method_1_code 18 = .ok (.putfield 18, 3) := by decide +kernel
theorem dX4_init_21 : decode prog_6_method_1_code 21 = .ok (.aload_n 0, 1) := by decide +kernel
theorem dX4_init_22 : decode prog_6_method_1_code 22 = .ok (.new 22, 3) := by decide +kernel
theorem dX4_init_25 : decode prog_6_method_1_code 25 = .ok (.dup, 1) := by decide +kernel
theorem dX4_init_26 : decode prog_6_method_1_code 26 = .ok (.invokespecial 24, 3) := by decide +kernel
theorem dX4_init_29 : decode prog_6_method_1_code 29 = .ok (.putfield 25, 3) := by decide +kernel
theorem dX4_init_32 : decode prog_6_method_1_code 32 = .ok (.aload_n 0, 1) := by decide +kernel
theorem dX4_init_33 : decode prog_6_method_1_code 33 = .ok (.new 29, 3) := by decide +kernel
theorem dX4_init_36 : decode prog_6_method_1_code 36 = .ok (.dup, 1) := by decide +kernel
theorem dX4_init_37 : decode prog_6_method_1_code 37 = .ok (.invokespecial 31, 3) := by decide +kernel
theorem dX4_init_40 : decode prog_6_method_1_code 40 = .ok (.putfield 32, 3) := by decide +kernel
theorem dX4_init_43 : decode prog_6_method_1_code 43 = .ok (.aload_n 0, 1) := by decide +kernel
theorem dX4_init_44 : decode prog_6_method_1_code 44 = .ok (.iconst 0, 1) := by decide +kernel
theorem dX4_init_45 : decode prog_6_method_1_code 45 = .ok (.putfield 36, 3) := by decide +kernel
theorem dX4_init_48 : decode prog_6_method_1_code 48 = .ok (.return_, 1) := by decide +kernel
def pX4_init_0 (N a0 : Nat) (G : mm_M) (x1 : Int32) : Option (mm_M × Unit) :=
  q_pI G a0 5 0 x1 fun G =>
  q_new G 6 fun G b10_1 =>
  q_cl (pX5_init_0 N b10_1 G x1) fun G _ =>
  q_pR G a0 5 1 (some b10_1) fun G =>
  q_new G 4 fun G b22_3 =>
  q_cl (pX3_init_0 N b22_3 G) fun G _ =>
  q_pR G a0 5 2 (some b22_3) fun G =>
  q_new G 2 fun G b33_5 =>
  q_cl (pX1_init_0 N b33_5 G) fun G _ =>
  q_pR G a0 5 3 (some b33_5) fun G =>
  q_pI G a0 5 4 (0 : Int32) fun G =>
  some (G, ())
set_option maxRecDepth 100000 in
set_option maxHeartbeats 4000000 in
theorem bX4_init_0 {p : Program} {l : Launch} {e : Env} {s : State} {m : MethodId} {args : Array Value} {below : List Frame} {meth : Method} {c : Code} {E : mm_E} {N a0 : Nat} {res : mm_M × Unit} (X : mm_X p s m args meth c prog_6_method_1_code 2 "XorOverlay$Peer" tw_T E) (hr : meth.sig.returnType = none) (hi : meth.name = "<init>") {G : mm_M} {H : Heap} {locs : List Loc} {ls : Array Slot} {x1 : Int32} (V : mm_V E s G H locs) (hl : lx_has ls 2 [(0, .inr (some a0)), (1, .inl x1)]) (hp : pX4_init_0 N a0 G x1 = some res) : W p l e rX4_init s m args below meth c H locs 0 0 (MQ below (mm_Qv E res.1) args s 42 225 (mm_A E)) (F0 m 0 ls []) := by
  have hx := X.1.1
  have hb := X.1.2.1
  unfold pX4_init_0 at hp
  refine x_aload_n X dX4_init_0 hl 0 rfl rfl ?_
  refine W.objInit hx hb X.1.2.2.2.1 (X.1.2.2.2.2 _ (tw_1 81 rfl rfl)) (X.1.2.2.2.2 _ (tw_1 17 rfl rfl)) (X.1.2.2.2.2 _ (tw_1 18 rfl rfl)) rfl (by rw [X.1.2.2.1]; exact hl.1) rfl dX4_init_1 (by decide) (Nat.le_of_ble_eq_true rfl) ?_
  refine W.eq (g2 := F0 m 4 ls ([])) rfl ?_
  refine x_aload_n X dX4_init_4 hl 0 rfl rfl ?_
  refine x_iload_n X dX4_init_5 hl 1 rfl rfl ?_
  refine q_putI (ci := 4) X V inX4 rfl tyX4 tyX4_ok nmX4 (by decide) rfl 0 (by decide) rfl (tw_1 212 rfl rfl) rfl (Or.inr ⟨rfl, hi, rfl⟩) .int rfl rfl rfl dX4_init_6 hp (fun G H locs V hp => ?_)
  refine x_aload_n X dX4_init_9 hl 0 rfl rfl ?_
  refine q_newc (ci := 5) X V inX5 rfl tyX5 tyX5_ok (by decide) rfl rfl dfX5 (tw_1 82 rfl rfl) (tw_1 83 rfl rfl) (tw_1 5 rfl rfl) (by decide) (by decide) dX4_init_10 hp (fun G b10_1 H V hp => ?_)
  refine W.cs (cells' := 1) (slots' := 3) rfl rfl ?_
  refine lv_dup hx hb dX4_init_13 (va_rf_cat _) ?_
  refine x_iload_n X dX4_init_14 hl 1 rfl rfl ?_
  obtain ⟨⟨G, u⟩, hq, hp⟩ := q_cl_of hp
  dsimp only at hp
  refine q_gov (cells' := 32) (slots' := 132) (va_runI (As := [.int x1]) (rest := [va_rf (some b10_1), va_rf (some a0)]) X.1 (cX5_init l E hq) (tw_cwI 1 X.1.2.2.2.2 (tw_1 84 rfl rfl) kX5_init.2.1 kX5_init.2.2 kX5_init.1 rfl rfl rfl hX5_init ⟨Nat.le_of_ble_eq_true rfl, Nat.le_of_ble_eq_true rfl⟩) (mm_preS X V) rfl rfl hl.1 rfl (lv_room (Nat.le_of_ble_eq_true rfl)) dX4_init_15 ⟨by decide, by decide⟩) V ⟨rfl, rfl⟩ (fun H locs V => ?_)
  refine q_putR (ci := 4) X V inX4 rfl tyX4 tyX4_ok nmX4 (by decide) rfl 1 (by decide) rfl (tw_1 214 rfl rfl) rfl (Or.inr ⟨rfl, hi, rfl⟩) (.object "XorOverlay$Table") rfl (va_rf_narrow _ _) (va_rf_fits _ _) dX4_init_18 hp (fun G H locs V hp => ?_)
  refine x_aload_n X dX4_init_21 hl 0 rfl rfl ?_
  refine q_newc (ci := 3) X V inX3 rfl tyX3 tyX3_ok (by decide) rfl rfl dfX3 (tw_1 137 rfl rfl) (tw_1 138 rfl rfl) (tw_1 7 rfl rfl) (by decide) (by decide) dX4_init_22 hp (fun G b22_3 H V hp => ?_)
  refine W.cs (cells' := 33) (slots' := 143) rfl rfl ?_
  refine lv_dup hx hb dX4_init_25 (va_rf_cat _) ?_
  obtain ⟨⟨G, u⟩, hq, hp⟩ := q_cl_of hp
  dsimp only at hp
  refine q_gov (cells' := 38) (slots' := 203) (va_runI (As := []) (rest := [va_rf (some b22_3), va_rf (some a0)]) X.1 (cX3_init l E hq) (tw_cwI 0 X.1.2.2.2.2 (tw_1 139 rfl rfl) kX3_init.2.1 kX3_init.2.2 kX3_init.1 rfl rfl rfl hX3_init ⟨Nat.le_of_ble_eq_true rfl, Nat.le_of_ble_eq_true rfl⟩) (mm_preS X V) rfl rfl hl.1 rfl (lv_room (Nat.le_of_ble_eq_true rfl)) dX4_init_26 ⟨by decide, by decide⟩) V ⟨rfl, rfl⟩ (fun H locs V => ?_)
  refine q_putR (ci := 4) X V inX4 rfl tyX4 tyX4_ok nmX4 (by decide) rfl 2 (by decide) rfl (tw_1 216 rfl rfl) rfl (Or.inr ⟨rfl, hi, rfl⟩) (.object "XorOverlay$Lookup") rfl (va_rf_narrow _ _) (va_rf_fits _ _) dX4_init_29 hp (fun G H locs V hp => ?_)
  refine x_aload_n X dX4_init_32 hl 0 rfl rfl ?_
  refine q_newc (ci := 1) X V inX1 rfl tyX1 tyX1_ok (by decide) rfl rfl dfX1 (tw_1 188 rfl rfl) (tw_1 189 rfl rfl) (tw_1 8 rfl rfl) (by decide) (by decide) dX4_init_33 hp (fun G b33_5 H V hp => ?_)
  refine W.cs (cells' := 39) (slots' := 207) rfl rfl ?_
  refine lv_dup hx hb dX4_init_36 (va_rf_cat _) ?_
  obtain ⟨⟨G, u⟩, hq, hp⟩ := q_cl_of hp
  dsimp only at hp
  refine q_gov (cells' := 42) (slots' := 225) (va_runI (As := []) (rest := [va_rf (some b33_5), va_rf (some a0)]) X.1 (cX1_init l E hq) (tw_cwI 0 X.1.2.2.2.2 (tw_1 190 rfl rfl) kX1_init.2.1 kX1_init.2.2 kX1_init.1 rfl rfl rfl hX1_init ⟨Nat.le_of_ble_eq_true rfl, Nat.le_of_ble_eq_true rfl⟩) (mm_preS X V) rfl rfl hl.1 rfl (lv_room (Nat.le_of_ble_eq_true rfl)) dX4_init_37 ⟨by decide, by decide⟩) V ⟨rfl, rfl⟩ (fun H locs V => ?_)
  refine q_putR (ci := 4) X V inX4 rfl tyX4 tyX4_ok nmX4 (by decide) rfl 3 (by decide) rfl (tw_1 218 rfl rfl) rfl (Or.inr ⟨rfl, hi, rfl⟩) (.object "XorOverlay$Entries") rfl (va_rf_narrow _ _) (va_rf_fits _ _) dX4_init_40 hp (fun G H locs V hp => ?_)
  refine x_aload_n X dX4_init_43 hl 0 rfl rfl ?_
  refine lv_iconst (v := (0 : Int32)) hx hb dX4_init_44 (by decide) ?_
  refine q_putI (ci := 4) X V inX4 rfl tyX4 tyX4_ok nmX4 (by decide) rfl 4 (by decide) rfl (tw_1 220 rfl rfl) rfl (Or.inl rfl) .boolean rfl rfl rfl dX4_init_45 hp (fun G H locs V hp => ?_)
  exact q_vret X V hr ⟨by decide, by decide⟩ dX4_init_48 hp
theorem cX4_init (l : Launch) (E : mm_E) {N a0 : Nat} {G : mm_M} {x1 : Int32} {res : mm_M × Unit} (hp : pX4_init_0 N a0 G x1 = some res) : Met l yX4_init (Cond.code yX4_init prog_6_method_1_code 2 none :: tw_T) rX4_init (mm_Pc E G [.ref a0, .int x1]) (mm_Qv E res.1) 42 225 (mm_A E) :=
  mm_met (own := "XorOverlay$Peer") E G [.inr (some a0), .inl x1] (by decide) rfl rfl (Nat.le_of_ble_eq_true rfl) (fun p e s m args below meth c ls X hr hi V hl => bX4_init_0 X hr hi V hl hp)
abbrev yX6_enrolIfRoom : MethodName := ⟨"XorOverlay", "enrolIfRoom", "(I)LXorOverlay$Peer;"⟩
abbrev rX6_enrolIfRoom : Room := { frames := 4, cells := 43, slots := 230, locals := 93 }
theorem kX6_enrolIfRoom : Cond.code yX6_enrolIfRoom prog_1_method_25_code 4 (Option.some (.object "XorOverlay$Peer")) ∈ tw_T ∧ Cond.instanceMethod yX6_enrolIfRoom ∈ tw_T ∧ Cond.selects "XorOverlay" yX6_enrolIfRoom yX6_enrolIfRoom ∈ tw_T ∧ Cond.initialized "XorOverlay" ∈ tw_T := ⟨(tw_1 76 rfl rfl), (tw_1 75 rfl rfl), (tw_s 2 rfl rfl), (tw_1 1 rfl rfl)⟩
theorem hX6_enrolIfRoom : yX6_enrolIfRoom.cls = "XorOverlay" ∧ yX6_enrolIfRoom.cls ≠ "java/lang/invoke/MethodHandle" ∧ yX6_enrolIfRoom.cls ≠ "java/lang/invoke/VarHandle" ∧ (parseMethodDescriptor yX6_enrolIfRoom.desc).map (fun d => d.parameters.length) = some 1 := by decide +kernel
theorem dX6_enrolIfRoom_0 : decode prog_1_method_25_code 0 = .ok (.aload_n 0, 1) := by decide +kernel
theorem dX6_enrolIfRoom_1 : decode prog_1_method_25_code 1 = .ok (.iload_n 1, 1) := by decide +kernel
theorem dX6_enrolIfRoom_2 : decode prog_1_method_25_code 2 = .ok (.invokevirtual 177, 3) := by decide +kernel
theorem dX6_enrolIfRoom_5 : decode prog_1_method_25_code 5 = .ok (.astore_n 2, 1) := by decide +kernel
theorem dX6_enrolIfRoom_6 : decode prog_1_method_25_code 6 = .ok (.aload_n 2, 1) := by decide +kernel
theorem dX6_enrolIfRoom_7 : decode prog_1_method_25_code 7 = .ok (.ifnonnull 12, 3) := by decide +kernel
theorem dX6_enrolIfRoom_10 : decode prog_1_method_25_code 10 = .ok (.aload_n 0, 1) := by decide +kernel
theorem dX6_enrolIfRoom_11 : decode prog_1_method_25_code 11 = .ok (.getfield 29, 3) := by decide +kernel
theorem dX6_enrolIfRoom_14 : decode prog_1_method_25_code 14 = .ok (.bipush 12, 2) := by decide +kernel
theorem dX6_enrolIfRoom_16 : decode prog_1_method_25_code 16 = .ok (.if_icmp .lt 5, 3) := by decide +kernel
theorem dX6_enrolIfRoom_19 : decode prog_1_method_25_code 19 = .ok (.aload_n 2, 1) := by decide +kernel
theorem dX6_enrolIfRoom_20 : decode prog_1_method_25_code 20 = .ok (.areturn, 1) := by decide +kernel
theorem dX6_enrolIfRoom_21 : decode prog_1_method_25_code 21 = .ok (.new 9, 3) := by decide +kernel
theorem dX6_enrolIfRoom_24 : decode prog_1_method_25_code 24 = .ok (.dup, 1) := by decide +kernel
theorem dX6_enrolIfRoom_25 : decode prog_1_method_25_code 25 = .ok (.iload_n 1, 1) := by decide +kernel
theorem dX6_enrolIfRoom_26 : decode prog_1_method_25_code 26 = .ok (.invokespecial 183, 3) := by decide +kernel
theorem dX6_enrolIfRoom_29 : decode prog_1_method_25_code 29 = .ok (.astore_n 2, 1) := by decide +kernel
theorem dX6_enrolIfRoom_30 : decode prog_1_method_25_code 30 = .ok (.aload_n 0, 1) := by decide +kernel
theorem dX6_enrolIfRoom_31 : decode prog_1_method_25_code 31 = .ok (.getfield 29, 3) := by decide +kernel
theorem dX6_enrolIfRoom_34 : decode prog_1_method_25_code 34 = .ok (.istore_n 3, 1) := by decide +kernel
theorem dX6_enrolIfRoom_35 : decode prog_1_method_25_code 35 = .ok (.iload_n 3, 1) := by decide +kernel
theorem dX6_enrolIfRoom_36 : decode prog_1_method_25_code 36 = .ok (.ifCond .le 49, 3) := by decide +kernel
theorem dX6_enrolIfRoom_39 : decode prog_1_method_25_code 39 = .ok (.aload_n 0, 1) := by decide +kernel
theorem dX6_enrolIfRoom_40 : decode prog_1_method_25_code 40 = .ok (.getfield 11, 3) := by decide +kernel
theorem dX6_enrolIfRoom_43 : decode prog_1_method_25_code 43 = .ok (.iload_n 3, 1) := by decide +kernel
theorem dX6_enrolIfRoom_44 : decode prog_1_method_25_code 44 = .ok (.iconst 1, 1) := by decide +kernel
theorem dX6_enrolIfRoom_45 : decode prog_1_method_25_code 45 = .ok (.isub, 1) := by decide +kernel
theorem dX6_enrolIfRoom_46 : decode prog_1_method_25_code 46 = .ok (.aaload, 1) := by decide +kernel
theorem dX6_enrolIfRoom_47 : decode prog_1_method_25_code 47 = .ok (.ifnull 38, 3) := by decide +kernel
theorem dX6_enrolIfRoom_50 : decode prog_1_method_25_code 50 = .ok (.aload_n 0, 1) := by decide +kernel
theorem dX6_enrolIfRoom_51 : decode prog_1_method_25_code 51 = .ok (.getfield 11, 3) := by decide +kernel
theorem dX6_enrolIfRoom_54 : decode prog_1_method_25_code 54 = .ok (.iload_n 3, 1) := by decide +kernel
theorem dX6_enrolIfRoom_55 : decode prog_1_method_25_code 55 = .ok (.iconst 1, 1) := by decide +kernel
theorem dX6_enrolIfRoom_56 : decode prog_1_method_25_code 56 = .ok (.isub, 1) := by decide +kernel
theorem dX6_enrolIfRoom_57 : decode prog_1_method_25_code 57 = .ok (.aaload, 1) := by decide +kernel
theorem dX6_enrolIfRoom_58 : decode prog_1_method_25_code 58 = .ok (.getfield 180, 3) := by decide +kernel
theorem dX6_enrolIfRoom_61 : decode prog_1_method_25_code 61 = .ok (.iload_n 1, 1) := by decide +kernel
theorem dX6_enrolIfRoom_62 : decode prog_1_method_25_code 62 = .ok (.if_icmp .le 23, 3) := by decide +kernel
theorem dX6_enrolIfRoom_65 : decode prog_1_method_25_code 65 = .ok (.aload_n 0, 1) := by decide +kernel
theorem dX6_enrolIfRoom_66 : decode prog_1_method_25_code 66 = .ok (.getfield 11, 3) := by decide +kernel
theorem dX6_enrolIfRoom_69 : decode prog_1_method_25_code 69 = .ok (.iload_n 3, 1) := by decide +kernel
theorem dX6_enrolIfRoom_70 : decode prog_1_method_25_code 70 = .ok (.aload_n 0, 1) := by decide +kernel
theorem dX6_enrolIfRoom_71 : decode prog_1_method_25_code 71 = .ok (.getfield 11, 3) := by decide +kernel
theorem dX6_enrolIfRoom_74 : decode prog_1_method_25_code 74 = .ok (.iload_n 3, 1) := by decide +kernel
theorem dX6_enrolIfRoom_75 : decode prog_1_method_25_code 75 = .ok (.iconst 1, 1) := by decide +kernel
theorem dX6_enrolIfRoom_76 : decode prog_1_method_25_code 76 = .ok (.isub, 1) := by decide +kernel
theorem dX6_enrolIfRoom_77 : decode prog_1_method_25_code 77 = .ok (.aaload, 1) := by decide +kernel
theorem dX6_enrolIfRoom_78 : decode prog_1_method_25_code 78 = .ok (.aastore, 1) := by decide +kernel
theorem dX6_enrolIfRoom_79 : decode prog_1_method_25_code 79 = .ok (.iinc 3 (-1), 3) := by decide +kernel
theorem dX6_enrolIfRoom_82 : decode prog_1_method_25_code 82 = .ok (.goto (-47), 3) := by decide +kernel
theorem dX6_enrolIfRoom_85 : decode prog_1_method_25_code 85 = .ok (.aload_n 0, 1) := by decide +kernel
theorem dX6_enrolIfRoom_86 : decode prog_1_method_25_code 86 = .ok (.getfield 11, 3) := by decide +kernel
theorem dX6_enrolIfRoom_89 : decode prog_1_method_25_code 89 = .ok (.iload_n 3, 1) := by decide +kernel
theorem dX6_enrolIfRoom_90 : decode prog_1_method_25_code 90 = .ok (.aload_n 2, 1) := by decide +kernel
theorem dX6_enrolIfRoom_91 : decode prog_1_method_25_code 91 = .ok (.aastore, 1) := by decide +kernel
theorem dX6_enrolIfRoom_92 : decode prog_1_method_25_code 92 = .ok (.aload_n 0, 1) := by decide +kernel
theorem dX6_enrolIfRoom_93 : decode prog_1_method_25_code 93 = .ok (.dup, 1) := by decide +kernel
theorem dX6_enrolIfRoom_94 : decode prog_1_method_25_code 94 = .ok (.getfield 29, 3) := by decide +kernel
theorem dX6_enrolIfRoom_97 : decode prog_1_method_25_code 97 = .ok (.iconst 1, 1) := by decide +kernel
theorem dX6_enrolIfRoom_98 : decode prog_1_method_25_code 98 = .ok (.iadd, 1) := by decide +kernel
theorem dX6_enrolIfRoom_99 : decode prog_1_method_25_code 99 = .ok (.putfield 29, 3) := by decide +kernel
theorem dX6_enrolIfRoom_102 : decode prog_1_method_25_code 102 = .ok (.aload_n 2, 1) := by decide +kernel
theorem dX6_enrolIfRoom_103 : decode prog_1_method_25_code 103 = .ok (.areturn, 1) := by decide +kernel
def pX6_enrolIfRoom_35_b (N a0 : Nat) (kb : mm_M → Int32 → Option Nat → Int32 → Option (mm_M × Option Nat)) (kx : mm_M → Option Nat → Int32 → Option (mm_M × Option Nat)) (G : mm_M) (x1 : Int32) (x2 : Option Nat) (x3 : Int32) : Option (mm_M × Option Nat) :=
  if x3 ≤ 0 then
    kx G x2 x3
  else
    q_gR G a0 7 0 fun r40_8 =>
    q_nn r40_8 fun b46_9 =>
    q_aR G b46_9 103 (x3 - (1 : Int32)) fun r46_10 =>
    q_op r46_10 (
      kx G x2 x3) fun b47_11 =>
    q_gR G a0 7 0 fun r51_12 =>
    q_nn r51_12 fun b57_13 =>
    q_aR G b57_13 103 (x3 - (1 : Int32)) fun r57_14 =>
    q_nn r57_14 fun b58_15 =>
    q_gI G b58_15 5 0 fun v58_16 =>
    if v58_16 ≤ x1 then
      kx G x2 x3
    else
      q_gR G a0 7 0 fun r66_17 =>
      q_gR G a0 7 0 fun r71_18 =>
      q_nn r71_18 fun b77_19 =>
      q_aR G b77_19 103 (x3 - (1 : Int32)) fun r77_20 =>
      q_nn r66_17 fun b78_21 =>
      q_sR G b78_21 103 5 x3 r77_20 fun G =>
      kb G x1 x2 (x3 + (-1 : Int32))
def pX6_enrolIfRoom_35 (N a0 : Nat) (kx : mm_M → Option Nat → Int32 → Option (mm_M × Option Nat)) : Nat → mm_M → Int32 → Option Nat → Int32 → Option (mm_M × Option Nat)
  | 0 => fun _ _ _ _ => none
  | n + 1 => pX6_enrolIfRoom_35_b N a0 (pX6_enrolIfRoom_35 N a0 kx n) kx
set_option maxRecDepth 100000 in
set_option maxHeartbeats 4000000 in
theorem bX6_enrolIfRoom_35 {p : Program} {l : Launch} {e : Env} {s : State} {m : MethodId} {args : Array Value} {below : List Frame} {meth : Method} {c : Code} {E : mm_E} {N a0 : Nat} {res : mm_M × Option Nat} (X : mm_X p s m args meth c prog_1_method_25_code 4 "XorOverlay" tw_T E) (hr : meth.sig.returnType = (Option.some (.object "XorOverlay$Peer"))) {kx : mm_M → Option Nat → Int32 → Option (mm_M × Option Nat)} (hkx : ∀ (G : mm_M) (H : Heap) (locs : List Loc) (ls : Array Slot) (x2 : Option Nat) (x3 : Int32), mm_V E s G H locs → lx_has ls 4 [(0, .inr (some a0)), (2, .inr x2), (3, .inl x3)] → kx G x2 x3 = some res → W p l e rX6_enrolIfRoom s m args below meth c H locs 43 230 (MQ below (mm_Qq E res.1 res.2) args s 43 230 (mm_A E)) (F0 m 85 ls [])) :
    ∀ (n : Nat) (G : mm_M) (H : Heap) (locs : List Loc) (ls : Array Slot) (x1 : Int32) (x2 : Option Nat) (x3 : Int32), mm_V E s G H locs → lx_has ls 4 [(0, .inr (some a0)), (1, .inl x1), (2, .inr x2), (3, .inl x3)] → pX6_enrolIfRoom_35 N a0 kx n G x1 x2 x3 = some res → W p l e rX6_enrolIfRoom s m args below meth c H locs 43 230 (MQ below (mm_Qq E res.1 res.2) args s 43 230 (mm_A E)) (F0 m 35 ls []) := by
  have hx := X.1.1
  have hb := X.1.2.1
  intro n
  induction n with
  | zero =>
    intro G H locs ls x1 x2 x3 V hl hp
    cases hp
  | succ n ih =>
    intro G H locs ls x1 x2 x3 V hl hp
    have hp : pX6_enrolIfRoom_35_b N a0 (pX6_enrolIfRoom_35 N a0 kx n) kx G x1 x2 x3 = some res := hp
    unfold pX6_enrolIfRoom_35_b at hp
    refine x_iload_n X dX6_enrolIfRoom_35 hl 3 rfl rfl ?_
    refine q_if hp (lv_if_le (tgt := 85) hx hb dX6_enrolIfRoom_36 (by decide)) (fun hp => ?_) (fun hp => ?_)
    · exact hkx _ _ _ _ _ _ V (lx_sub hl [0, 2, 3] rfl) hp
    · refine x_aload_n X dX6_enrolIfRoom_39 hl 0 rfl rfl ?_
      refine q_getR (ci := 6) X V inX6 rfl (by decide) rfl 0 (by decide) rfl (tw_1 36 rfl rfl) rfl dX6_enrolIfRoom_40 hp (fun r40_8 hp => ?_)
      refine x_iload_n X dX6_enrolIfRoom_43 hl 3 rfl rfl ?_
      refine lv_iconst (v := (1 : Int32)) hx hb dX6_enrolIfRoom_44 (by decide) ?_
      refine lv_isub hx hb dX6_enrolIfRoom_45 ?_
      obtain ⟨b46_9, e0, hp2⟩ := q_nn_of hp
      clear hp; subst e0; have hp := hp2; clear hp2
      refine q_aldP X V dX6_enrolIfRoom_46 hp (fun r46_10 hp => ?_)
      refine q_ifnull (tgt := 85) X dX6_enrolIfRoom_47 (by decide) hp (fun e0 hp2 => ?_) (fun b47_11 e0 hp2 => ?_)
      · clear hp; subst e0; have hp := hp2; clear hp2
        exact hkx _ _ _ _ _ _ V (lx_sub hl [0, 2, 3] rfl) hp
      · clear hp; subst e0; have hp := hp2; clear hp2
        refine x_aload_n X dX6_enrolIfRoom_50 hl 0 rfl rfl ?_
        refine q_getR (ci := 6) X V inX6 rfl (by decide) rfl 0 (by decide) rfl (tw_1 36 rfl rfl) rfl dX6_enrolIfRoom_51 hp (fun r51_12 hp => ?_)
        refine x_iload_n X dX6_enrolIfRoom_54 hl 3 rfl rfl ?_
        refine lv_iconst (v := (1 : Int32)) hx hb dX6_enrolIfRoom_55 (by decide) ?_
        refine lv_isub hx hb dX6_enrolIfRoom_56 ?_
        obtain ⟨b57_13, e0, hp2⟩ := q_nn_of hp
        clear hp; subst e0; have hp := hp2; clear hp2
        refine q_aldP X V dX6_enrolIfRoom_57 hp (fun r57_14 hp => ?_)
        obtain ⟨b58_15, e0, hp2⟩ := q_nn_of hp
        clear hp; subst e0; have hp := hp2; clear hp2
        refine q_getI (ci := 4) X V inX4 rfl (by decide) rfl 0 (by decide) rfl (tw_1 213 rfl rfl) rfl dX6_enrolIfRoom_58 hp (fun v58_16 hp => ?_)
        refine x_iload_n X dX6_enrolIfRoom_61 hl 1 rfl rfl ?_
        refine q_if hp (lv_icmp_le (tgt := 85) hx hb dX6_enrolIfRoom_62 (by decide)) (fun hp => ?_) (fun hp => ?_)
        · exact hkx _ _ _ _ _ _ V (lx_sub hl [0, 2, 3] rfl) hp
        · refine x_aload_n X dX6_enrolIfRoom_65 hl 0 rfl rfl ?_
          refine q_getR (ci := 6) X V inX6 rfl (by decide) rfl 0 (by decide) rfl (tw_1 36 rfl rfl) rfl dX6_enrolIfRoom_66 hp (fun r66_17 hp => ?_)
          refine x_iload_n X dX6_enrolIfRoom_69 hl 3 rfl rfl ?_
          refine x_aload_n X dX6_enrolIfRoom_70 hl 0 rfl rfl ?_
          refine q_getR (ci := 6) X V inX6 rfl (by decide) rfl 0 (by decide) rfl (tw_1 36 rfl rfl) rfl dX6_enrolIfRoom_71 hp (fun r71_18 hp => ?_)
          refine x_iload_n X dX6_enrolIfRoom_74 hl 3 rfl rfl ?_
          refine lv_iconst (v := (1 : Int32)) hx hb dX6_enrolIfRoom_75 (by decide) ?_
          refine lv_isub hx hb dX6_enrolIfRoom_76 ?_
          obtain ⟨b77_19, e0, hp2⟩ := q_nn_of hp
          clear hp; subst e0; have hp := hp2; clear hp2
          refine q_aldP X V dX6_enrolIfRoom_77 hp (fun r77_20 hp => ?_)
          obtain ⟨b78_21, e0, hp2⟩ := q_nn_of hp
          clear hp; subst e0; have hp := hp2; clear hp2
          refine q_astP (ci := 4) X V rfl rfl (by decide) rfl dX6_enrolIfRoom_78 hp (fun G H locs V hp => ?_)
          refine x_iinc (v := (-1 : Int32)) (lst' := [(3, .inl (x3 + (-1 : Int32))), (0, .inr (some a0)), (1, .inl x1), (2, .inr x2)]) X dX6_enrolIfRoom_79 hl 3 rfl (by decide) (by decide) rfl (fun ls hl => ?_)
          refine lv_goto (tgt := 35) hx hb dX6_enrolIfRoom_82 (by decide) ?_
          exact ih _ _ _ _ _ _ _ V (lx_sub hl [1, 2, 3, 0] rfl) hp
def pX6_enrolIfRoom_0 (N a0 : Nat) (G : mm_M) (x1 : Int32) : Option (mm_M × Option Nat) :=
  q_is G a0 7 <|
  q_cl (pX6_knownPeer_0 N a0 G x1) fun G r2_2 =>
  q_op r2_2 (
    q_gI G a0 7 4 fun v11_4 =>
    if v11_4 < (12 : Int32) then
      q_new G 5 fun G b21_5 =>
      q_cl (pX4_init_0 N b21_5 G x1) fun G _ =>
      q_gI G a0 7 4 fun v31_7 =>
      pX6_enrolIfRoom_35 N a0 (fun (G : mm_M) (x2 : Option Nat) (x3 : Int32) =>
        q_gR G a0 7 0 fun r86_22 =>
        q_nn r86_22 fun b91_23 =>
        q_sR G b91_23 103 5 x3 x2 fun G =>
        q_gI G a0 7 4 fun v94_24 =>
        q_pI G a0 7 4 (v94_24 + (1 : Int32)) fun G =>
        some (G, x2)) N G x1 (some b21_5) v31_7
    else
      some (G, none)) fun b7_3 =>
  some (G, (some b7_3))
set_option maxRecDepth 100000 in
set_option maxHeartbeats 4000000 in
theorem bX6_enrolIfRoom_0 {p : Program} {l : Launch} {e : Env} {s : State} {m : MethodId} {args : Array Value} {below : List Frame} {meth : Method} {c : Code} {E : mm_E} {N a0 : Nat} {res : mm_M × Option Nat} (X : mm_X p s m args meth c prog_1_method_25_code 4 "XorOverlay" tw_T E) (hr : meth.sig.returnType = (Option.some (.object "XorOverlay$Peer"))) {G : mm_M} {H : Heap} {locs : List Loc} {ls : Array Slot} {x1 : Int32} (V : mm_V E s G H locs) (hl : lx_has ls 4 [(0, .inr (some a0)), (1, .inl x1)]) (hp : pX6_enrolIfRoom_0 N a0 G x1 = some res) : W p l e rX6_enrolIfRoom s m args below meth c H locs 0 0 (MQ below (mm_Qq E res.1 res.2) args s 43 230 (mm_A E)) (F0 m 0 ls []) := by
  have hx := X.1.1
  have hb := X.1.2.1
  unfold pX6_enrolIfRoom_0 at hp
  refine x_aload_n X dX6_enrolIfRoom_0 hl 0 rfl rfl ?_
  refine x_iload_n X dX6_enrolIfRoom_1 hl 1 rfl rfl ?_
  obtain ⟨hk, hp⟩ := q_is_of hp
  obtain ⟨⟨G, r2_2⟩, hq, hp⟩ := q_cl_of hp
  dsimp only at hp
  refine q_goq (cells' := 0) (slots' := 0) (va_runV (As := [.int x1]) (rest := []) X.1 (cX6_knownPeer l E hq) (tw_cwV 1 X.1.2.2.2.2 (tw_1 69 rfl rfl) kX6_knownPeer.2.1 kX6_knownPeer.2.2.1 kX6_knownPeer.2.2.2 kX6_knownPeer.1 rfl rfl hX6_knownPeer ⟨Nat.le_of_ble_eq_true rfl, Nat.le_of_ble_eq_true rfl⟩) (mm_preV X V rfl (by decide) rfl hk) rfl rfl hl.1 rfl (lv_room (Nat.le_of_ble_eq_true rfl)) dX6_enrolIfRoom_2 ⟨by decide, by decide⟩) V ⟨rfl, rfl⟩ (fun H locs V => ?_)
  refine x_astore_n (lst' := [(2, .inr r2_2), (0, .inr (some a0)), (1, .inl x1)]) X dX6_enrolIfRoom_5 hl rfl (by decide) rfl (fun ls hl => ?_)
  refine x_aload_n X dX6_enrolIfRoom_6 hl 0 rfl rfl ?_
  refine q_ifnonnull (tgt := 19) X dX6_enrolIfRoom_7 (by decide) hp (fun e0 hp2 => ?_) (fun b7_3 e0 hp2 => ?_)
  · clear hp; subst e0; have hp := hp2; clear hp2
    refine x_aload_n X dX6_enrolIfRoom_10 hl 1 rfl rfl ?_
    refine q_getI (ci := 6) X V inX6 rfl (by decide) rfl 4 (by decide) rfl (tw_1 40 rfl rfl) rfl dX6_enrolIfRoom_11 hp (fun v11_4 hp => ?_)
    refine lv_bipush (v := (12 : Int32)) hx hb dX6_enrolIfRoom_14 (by decide) ?_
    refine q_if hp (lv_icmp_lt (tgt := 21) hx hb dX6_enrolIfRoom_16 (by decide)) (fun hp => ?_) (fun hp => ?_)
    · refine q_newc (ci := 4) X V inX4 rfl tyX4 tyX4_ok (by decide) rfl rfl dfX4 (tw_1 19 rfl rfl) (tw_1 77 rfl rfl) (tw_1 4 rfl rfl) (by decide) (by decide) dX6_enrolIfRoom_21 hp (fun G b21_5 H V hp => ?_)
      refine W.cs (cells' := 1) (slots' := 5) rfl rfl ?_
      refine lv_dup hx hb dX6_enrolIfRoom_24 (va_rf_cat _) ?_
      refine x_iload_n X dX6_enrolIfRoom_25 hl 2 rfl rfl ?_
      obtain ⟨⟨G, u⟩, hq, hp⟩ := q_cl_of hp
      dsimp only at hp
      refine q_gov (cells' := 43) (slots' := 230) (va_runI (As := [.int x1]) (rest := [va_rf (some b21_5)]) X.1 (cX4_init l E hq) (tw_cwI 1 X.1.2.2.2.2 (tw_1 78 rfl rfl) kX4_init.2.1 kX4_init.2.2 kX4_init.1 rfl rfl rfl hX4_init ⟨Nat.le_of_ble_eq_true rfl, Nat.le_of_ble_eq_true rfl⟩) (mm_preS X V) rfl rfl hl.1 rfl (lv_room (Nat.le_of_ble_eq_true rfl)) dX6_enrolIfRoom_26 ⟨by decide, by decide⟩) V ⟨rfl, rfl⟩ (fun H locs V => ?_)
      refine x_astore_n (lst' := [(2, .inr (some b21_5)), (0, .inr (some a0)), (1, .inl x1)]) X dX6_enrolIfRoom_29 hl rfl (by decide) rfl (fun ls hl => ?_)
      refine x_aload_n X dX6_enrolIfRoom_30 hl 1 rfl rfl ?_
      refine q_getI (ci := 6) X V inX6 rfl (by decide) rfl 4 (by decide) rfl (tw_1 40 rfl rfl) rfl dX6_enrolIfRoom_31 hp (fun v31_7 hp => ?_)
      refine x_istore_n (lst' := [(3, .inl v31_7), (2, .inr (some b21_5)), (0, .inr (some a0)), (1, .inl x1)]) X dX6_enrolIfRoom_34 hl rfl (by decide) rfl (fun ls hl => ?_)
      refine bX6_enrolIfRoom_35 X hr (fun G H locs ls x2 x3 V hl hp => ?_) _ _ _ _ _ _ _ _ V (lx_sub hl [2, 3, 1, 0] rfl) hp
      refine x_aload_n X dX6_enrolIfRoom_85 hl 0 rfl rfl ?_
      refine q_getR (ci := 6) X V inX6 rfl (by decide) rfl 0 (by decide) rfl (tw_1 36 rfl rfl) rfl dX6_enrolIfRoom_86 hp (fun r86_22 hp => ?_)
      refine x_iload_n X dX6_enrolIfRoom_89 hl 2 rfl rfl ?_
      refine x_aload_n X dX6_enrolIfRoom_90 hl 1 rfl rfl ?_
      obtain ⟨b91_23, e0, hp2⟩ := q_nn_of hp
      clear hp; subst e0; have hp := hp2; clear hp2
      refine q_astP (ci := 4) X V rfl rfl (by decide) rfl dX6_enrolIfRoom_91 hp (fun G H locs V hp => ?_)
      refine x_aload_n X dX6_enrolIfRoom_92 hl 0 rfl rfl ?_
      refine lv_dup hx hb dX6_enrolIfRoom_93 (va_rf_cat _) ?_
      refine q_getI (ci := 6) X V inX6 rfl (by decide) rfl 4 (by decide) rfl (tw_1 40 rfl rfl) rfl dX6_enrolIfRoom_94 hp (fun v94_24 hp => ?_)
      refine lv_iconst (v := (1 : Int32)) hx hb dX6_enrolIfRoom_97 (by decide) ?_
      refine lv_iadd hx hb dX6_enrolIfRoom_98 ?_
      refine q_putI (ci := 6) X V inX6 rfl tyX6 tyX6_ok nmX6 (by decide) rfl 4 (by decide) rfl (tw_1 40 rfl rfl) rfl (Or.inl rfl) .int rfl rfl rfl dX6_enrolIfRoom_99 hp (fun G H locs V hp => ?_)
      refine x_aload_n X dX6_enrolIfRoom_102 hl 1 rfl rfl ?_
      exact q_aret X V hr ⟨by decide, by decide⟩ dX6_enrolIfRoom_103 hp
    · refine x_aload_n X dX6_enrolIfRoom_19 hl 0 rfl rfl ?_
      exact q_aret X V hr ⟨by decide, by decide⟩ dX6_enrolIfRoom_20 hp
  · clear hp; subst e0; have hp := hp2; clear hp2
    refine x_aload_n X dX6_enrolIfRoom_19 hl 0 rfl rfl ?_
    exact q_aret X V hr ⟨by decide, by decide⟩ dX6_enrolIfRoom_20 hp
theorem cX6_enrolIfRoom (l : Launch) (E : mm_E) {N a0 : Nat} {G : mm_M} {x1 : Int32} {res : mm_M × Option Nat} (hp : pX6_enrolIfRoom_0 N a0 G x1 = some res) : Met l yX6_enrolIfRoom (Cond.code yX6_enrolIfRoom prog_1_method_25_code 4 (Option.some (.object "XorOverlay$Peer")) :: tw_T) rX6_enrolIfRoom (mm_Pc E G [.ref a0, .int x1]) (mm_Qq E res.1 res.2) 43 230 (mm_A E) :=
  mm_met (own := "XorOverlay") E G [.inr (some a0), .inl x1] (by decide) rfl rfl (Nat.le_of_ble_eq_true rfl) (fun p e s m args below meth c ls X hr hi V hl => bX6_enrolIfRoom_0 X hr V hl hp)
abbrev yX0_open : MethodName := ⟨"XorOverlay$Bucket", "open", "(III)V"⟩
abbrev rX0_open : Room := { frames := 0, cells := 0, slots := 0, locals := 0 }
theorem kX0_open : Cond.code yX0_open prog_2_method_2_code 4 none ∈ tw_T ∧ Cond.instanceMethod yX0_open ∈ tw_T ∧ Cond.selects "XorOverlay$Bucket" yX0_open yX0_open ∈ tw_T ∧ Cond.initialized "XorOverlay$Bucket" ∈ tw_T := ⟨(tw_2 4 rfl rfl), (tw_2 2 rfl rfl), (tw_2 3 rfl rfl), (tw_1 6 rfl rfl)⟩
theorem hX0_open : yX0_open.cls = "XorOverlay$Bucket" ∧ yX0_open.cls ≠ "java/lang/invoke/MethodHandle" ∧ yX0_open.cls ≠ "java/lang/invoke/VarHandle" ∧ (parseMethodDescriptor yX0_open.desc).map (fun d => d.parameters.length) = some 3 := by decide +kernel
theorem dX0_open_0 : decode prog_2_method_2_code 0 = .ok (.aload_n 0, 1) := by decide +kernel
theorem dX0_open_1 : decode prog_2_method_2_code 1 = .ok (.iload_n 1, 1) := by decide +kernel
theorem dX0_open_2 : decode prog_2_method_2_code 2 = .ok (.putfield 18, 3) := by decide +kernel
theorem dX0_open_5 : decode prog_2_method_2_code 5 = .ok (.aload_n 0, 1) := by decide +kernel
theorem dX0_open_6 : decode prog_2_method_2_code 6 = .ok (.iload_n 2, 1) := by decide +kernel
theorem dX0_open_7 : decode prog_2_method_2_code 7 = .ok (.putfield 22, 3) := by decide +kernel
theorem dX0_open_10 : decode prog_2_method_2_code 10 = .ok (.aload_n 0, 1) := by decide +kernel
theorem dX0_open_11 : decode prog_2_method_2_code 11 = .ok (.iload_n 3, 1) := by decide +kernel
theorem dX0_open_12 : decode prog_2_method_2_code 12 = .ok (.putfield 25, 3) := by decide +kernel
theorem dX0_open_15 : decode prog_2_method_2_code 15 = .ok (.aload_n 0, 1) := by decide +kernel
theorem dX0_open_16 : decode prog_2_method_2_code 16 = .ok (.iconst 0, 1) := by decide +kernel
theorem dX0_open_17 : decode prog_2_method_2_code 17 = .ok (.putfield 28, 3) := by decide +kernel
theorem dX0_open_20 : decode prog_2_method_2_code 20 = .ok (.return_, 1) := by decide +kernel
def pX0_open_0 (N a0 : Nat) (G : mm_M) (x1 : Int32) (x2 : Int32) (x3 : Int32) : Option (mm_M × Unit) :=
  q_pI G a0 1 2 x1 fun G =>
  q_pI G a0 1 3 x2 fun G =>
  q_pI G a0 1 4 x3 fun G =>
  q_pI G a0 1 5 (0 : Int32) fun G =>
  some (G, ())
set_option maxRecDepth 100000 in
set_option maxHeartbeats 4000000 in
theorem bX0_open_0 {p : Program} {l : Launch} {e : Env} {s : State} {m : MethodId} {args : Array Value} {below : List Frame} {meth : Method} {c : Code} {E : mm_E} {N a0 : Nat} {res : mm_M × Unit} (X : mm_X p s m args meth c prog_2_method_2_code 4 "XorOverlay$Bucket" tw_T E) (hr : meth.sig.returnType = none) {G : mm_M} {H : Heap} {locs : List Loc} {ls : Array Slot} {x1 : Int32} {x2 : Int32} {x3 : Int32} (V : mm_V E s G H locs) (hl : lx_has ls 4 [(0, .inr (some a0)), (1, .inl x1), (2, .inl x2), (3, .inl x3)]) (hp : pX0_open_0 N a0 G x1 x2 x3 = some res) : W p l e rX0_open s m args below meth c H locs 0 0 (MQ below (mm_Qv E res.1) args s 0 0 (mm_A E)) (F0 m 0 ls []) := by
  have hx := X.1.1
  have hb := X.1.2.1
  unfold pX0_open_0 at hp
  refine x_aload_n X dX0_open_0 hl 0 rfl rfl ?_
  refine x_iload_n X dX0_open_1 hl 1 rfl rfl ?_
  refine q_putI (ci := 0) X V inX0 rfl tyX0 tyX0_ok nmX0 (by decide) rfl 2 (by decide) rfl (tw_1 101 rfl rfl) rfl (Or.inl rfl) .int rfl rfl rfl dX0_open_2 hp (fun G H locs V hp => ?_)
  refine x_aload_n X dX0_open_5 hl 0 rfl rfl ?_
  refine x_iload_n X dX0_open_6 hl 2 rfl rfl ?_
  refine q_putI (ci := 0) X V inX0 rfl tyX0 tyX0_ok nmX0 (by decide) rfl 3 (by decide) rfl (tw_1 104 rfl rfl) rfl (Or.inl rfl) .int rfl rfl rfl dX0_open_7 hp (fun G H locs V hp => ?_)
  refine x_aload_n X dX0_open_10 hl 0 rfl rfl ?_
  refine x_iload_n X dX0_open_11 hl 3 rfl rfl ?_
  refine q_putI (ci := 0) X V inX0 rfl tyX0 tyX0_ok nmX0 (by decide) rfl 4 (by decide) rfl (tw_1 106 rfl rfl) rfl (Or.inl rfl) .int rfl rfl rfl dX0_open_12 hp (fun G H locs V hp => ?_)
  refine x_aload_n X dX0_open_15 hl 0 rfl rfl ?_
  refine lv_iconst (v := (0 : Int32)) hx hb dX0_open_16 (by decide) ?_
  refine q_putI (ci := 0) X V inX0 rfl tyX0 tyX0_ok nmX0 (by decide) rfl 5 (by decide) rfl (tw_1 109 rfl rfl) rfl (Or.inl rfl) .int rfl rfl rfl dX0_open_17 hp (fun G H locs V hp => ?_)
  exact q_vret X V hr ⟨by decide, by decide⟩ dX0_open_20 hp
theorem cX0_open (l : Launch) (E : mm_E) {N a0 : Nat} {G : mm_M} {x1 : Int32} {x2 : Int32} {x3 : Int32} {res : mm_M × Unit} (hp : pX0_open_0 N a0 G x1 x2 x3 = some res) : Met l yX0_open (Cond.code yX0_open prog_2_method_2_code 4 none :: tw_T) rX0_open (mm_Pc E G [.ref a0, .int x1, .int x2, .int x3]) (mm_Qv E res.1) 0 0 (mm_A E) :=
  mm_met (own := "XorOverlay$Bucket") E G [.inr (some a0), .inl x1, .inl x2, .inl x3] (by decide) rfl rfl (Nat.le_of_ble_eq_true rfl) (fun p e s m args below meth c ls X hr hi V hl => bX0_open_0 X hr V hl hp)
abbrev yX5_reset : MethodName := ⟨"XorOverlay$Table", "reset", "(I)V"⟩
abbrev rX5_reset : Room := { frames := 1, cells := 0, slots := 0, locals := 23 }
theorem kX5_reset : Cond.code yX5_reset prog_7_method_2_code 2 none ∈ tw_T ∧ Cond.instanceMethod yX5_reset ∈ tw_T ∧ Cond.selects "XorOverlay$Table" yX5_reset yX5_reset ∈ tw_T ∧ Cond.initialized "XorOverlay$Table" ∈ tw_T := ⟨(tw_2 0 rfl rfl), (tw_1 238 rfl rfl), (tw_1 239 rfl rfl), (tw_1 5 rfl rfl)⟩
theorem hX5_reset : yX5_reset.cls = "XorOverlay$Table" ∧ yX5_reset.cls ≠ "java/lang/invoke/MethodHandle" ∧ yX5_reset.cls ≠ "java/lang/invoke/VarHandle" ∧ (parseMethodDescriptor yX5_reset.desc).map (fun d => d.parameters.length) = some 1 := by decide +kernel
theorem dX5_reset_0 : decode prog_7_method_2_code 0 = .ok (.aload_n 0, 1) := by decide +kernel
theorem dX5_reset_1 : decode prog_7_method_2_code 1 = .ok (.getfield 17, 3) := by decide +kernel
theorem dX5_reset_4 : decode prog_7_method_2_code 4 = .ok (.iconst 0, 1) := by decide +kernel
theorem dX5_reset_5 : decode prog_7_method_2_code 5 = .ok (.aaload, 1) := by decide +kernel
theorem dX5_reset_6 : decode prog_7_method_2_code 6 = .ok (.iconst 0, 1) := by decide +kernel
theorem dX5_reset_7 : decode prog_7_method_2_code 7 = .ok (.sipush 256, 3) := by decide +kernel
theorem dX5_reset_10 : decode prog_7_method_2_code 10 = .ok (.iload_n 1, 1) := by decide +kernel
theorem dX5_reset_11 : decode prog_7_method_2_code 11 = .ok (.invokevirtual 25, 3) := by decide +kernel
theorem dX5_reset_14 : decode prog_7_method_2_code 14 = .ok (.aload_n 0, 1) := by decide +kernel
theorem dX5_reset_15 : decode prog_7_method_2_code 15 = .ok (.iconst 1, 1) := by decide +kernel
theorem dX5_reset_16 : decode prog_7_method_2_code 16 = .ok (.putfield 22, 3) := by decide +kernel
theorem dX5_reset_19 : decode prog_7_method_2_code 19 = .ok (.return_, 1) := by decide +kernel
def pX5_reset_0 (N a0 : Nat) (G : mm_M) (x1 : Int32) : Option (mm_M × Unit) :=
  q_gR G a0 6 1 fun r1_1 =>
  q_nn r1_1 fun b5_2 =>
  q_aR G b5_2 104 (0 : Int32) fun r5_3 =>
  q_nn r5_3 fun b11_4 =>
  q_is G b11_4 1 <|
  q_cl (pX0_open_0 N b11_4 G (0 : Int32) (256 : Int32) x1) fun G _ =>
  q_pI G a0 6 2 (1 : Int32) fun G =>
  some (G, ())
set_option maxRecDepth 100000 in
set_option maxHeartbeats 4000000 in
theorem bX5_reset_0 {p : Program} {l : Launch} {e : Env} {s : State} {m : MethodId} {args : Array Value} {below : List Frame} {meth : Method} {c : Code} {E : mm_E} {N a0 : Nat} {res : mm_M × Unit} (X : mm_X p s m args meth c prog_7_method_2_code 2 "XorOverlay$Table" tw_T E) (hr : meth.sig.returnType = none) {G : mm_M} {H : Heap} {locs : List Loc} {ls : Array Slot} {x1 : Int32} (V : mm_V E s G H locs) (hl : lx_has ls 2 [(0, .inr (some a0)), (1, .inl x1)]) (hp : pX5_reset_0 N a0 G x1 = some res) : W p l e rX5_reset s m args below meth c H locs 0 0 (MQ below (mm_Qv E res.1) args s 0 0 (mm_A E)) (F0 m 0 ls []) := by
  have hx := X.1.1
  have hb := X.1.2.1
  unfold pX5_reset_0 at hp
  refine x_aload_n X dX5_reset_0 hl 0 rfl rfl ?_
  refine q_getR (ci := 5) X V inX5 rfl (by decide) rfl 1 (by decide) rfl (tw_1 126 rfl rfl) rfl dX5_reset_1 hp (fun r1_1 hp => ?_)
  refine lv_iconst (v := (0 : Int32)) hx hb dX5_reset_4 (by decide) ?_
  obtain ⟨b5_2, e0, hp2⟩ := q_nn_of hp
  clear hp; subst e0; have hp := hp2; clear hp2
  refine q_aldB X V dX5_reset_5 hp (fun r5_3 hp => ?_)
  refine lv_iconst (v := (0 : Int32)) hx hb dX5_reset_6 (by decide) ?_
  refine lv_sipush (v := (256 : Int32)) hx hb dX5_reset_7 (by decide) ?_
  refine x_iload_n X dX5_reset_10 hl 1 rfl rfl ?_
  obtain ⟨b11_4, e0, hp2⟩ := q_nn_of hp
  clear hp; subst e0; have hp := hp2; clear hp2
  obtain ⟨hk, hp⟩ := q_is_of hp
  obtain ⟨⟨G, u⟩, hq, hp⟩ := q_cl_of hp
  dsimp only at hp
  refine q_gov (cells' := 0) (slots' := 0) (va_runV (As := [.int (0 : Int32), .int (256 : Int32), .int x1]) (rest := []) X.1 (cX0_open l E hq) (tw_cwV 3 X.1.2.2.2.2 (tw_2 1 rfl rfl) kX0_open.2.1 kX0_open.2.2.1 kX0_open.2.2.2 kX0_open.1 rfl rfl hX0_open ⟨Nat.le_of_ble_eq_true rfl, Nat.le_of_ble_eq_true rfl⟩) (mm_preV X V rfl (by decide) rfl hk) rfl rfl hl.1 rfl (lv_room (Nat.le_of_ble_eq_true rfl)) dX5_reset_11 ⟨by decide, by decide⟩) V ⟨rfl, rfl⟩ (fun H locs V => ?_)
  refine x_aload_n X dX5_reset_14 hl 0 rfl rfl ?_
  refine lv_iconst (v := (1 : Int32)) hx hb dX5_reset_15 (by decide) ?_
  refine q_putI (ci := 5) X V inX5 rfl tyX5 tyX5_ok nmX5 (by decide) rfl 2 (by decide) rfl (tw_1 128 rfl rfl) rfl (Or.inl rfl) .int rfl rfl rfl dX5_reset_16 hp (fun G H locs V hp => ?_)
  exact q_vret X V hr ⟨by decide, by decide⟩ dX5_reset_19 hp
theorem cX5_reset (l : Launch) (E : mm_E) {N a0 : Nat} {G : mm_M} {x1 : Int32} {res : mm_M × Unit} (hp : pX5_reset_0 N a0 G x1 = some res) : Met l yX5_reset (Cond.code yX5_reset prog_7_method_2_code 2 none :: tw_T) rX5_reset (mm_Pc E G [.ref a0, .int x1]) (mm_Qv E res.1) 0 0 (mm_A E) :=
  mm_met (own := "XorOverlay$Table") E G [.inr (some a0), .inl x1] (by decide) rfl rfl (Nat.le_of_ble_eq_true rfl) (fun p e s m args below meth c ls X hr hi V hl => bX5_reset_0 X hr V hl hp)
abbrev yX3_forget : MethodName := ⟨"XorOverlay$Lookup", "forget", "()V"⟩
abbrev rX3_forget : Room := { frames := 0, cells := 0, slots := 0, locals := 0 }
theorem kX3_forget : Cond.code yX3_forget prog_5_method_2_code 1 none ∈ tw_T ∧ Cond.instanceMethod yX3_forget ∈ tw_T ∧ Cond.selects "XorOverlay$Lookup" yX3_forget yX3_forget ∈ tw_T ∧ Cond.initialized "XorOverlay$Lookup" ∈ tw_T := ⟨(tw_2 8 rfl rfl), (tw_2 6 rfl rfl), (tw_2 7 rfl rfl), (tw_1 7 rfl rfl)⟩
theorem hX3_forget : yX3_forget.cls = "XorOverlay$Lookup" ∧ yX3_forget.cls ≠ "java/lang/invoke/MethodHandle" ∧ yX3_forget.cls ≠ "java/lang/invoke/VarHandle" ∧ (parseMethodDescriptor yX3_forget.desc).map (fun d => d.parameters.length) = some 0 := by decide +kernel
theorem dX3_forget_0 : decode prog_5_method_2_code 0 = .ok (.aload_n 0, 1) := by decide +kernel
theorem dX3_forget_1 : decode prog_5_method_2_code 1 = .ok (.iconst 0, 1) := by decide +kernel
theorem dX3_forget_2 : decode prog_5_method_2_code 2 = .ok (.putfield 27, 3) := by decide +kernel
theorem dX3_forget_5 : decode prog_5_method_2_code 5 = .ok (.aload_n 0, 1) := by decide +kernel
theorem dX3_forget_6 : decode prog_5_method_2_code 6 = .ok (.iconst 0, 1) := by decide +kernel
theorem dX3_forget_7 : decode prog_5_method_2_code 7 = .ok (.putfield 31, 3) := by decide +kernel
theorem dX3_forget_10 : decode prog_5_method_2_code 10 = .ok (.aload_n 0, 1) := by decide +kernel
theorem dX3_forget_11 : decode prog_5_method_2_code 11 = .ok (.iconst 0, 1) := by decide +kernel
theorem dX3_forget_12 : decode prog_5_method_2_code 12 = .ok (.putfield 34, 3) := by decide +kernel
theorem dX3_forget_15 : decode prog_5_method_2_code 15 = .ok (.return_, 1) := by decide +kernel
def pX3_forget_0 (N a0 : Nat) (G : mm_M) : Option (mm_M × Unit) :=
  q_pI G a0 4 5 (0 : Int32) fun G =>
  q_pI G a0 4 9 (0 : Int32) fun G =>
  q_pI G a0 4 10 (0 : Int32) fun G =>
  some (G, ())
set_option maxRecDepth 100000 in
set_option maxHeartbeats 4000000 in
theorem bX3_forget_0 {p : Program} {l : Launch} {e : Env} {s : State} {m : MethodId} {args : Array Value} {below : List Frame} {meth : Method} {c : Code} {E : mm_E} {N a0 : Nat} {res : mm_M × Unit} (X : mm_X p s m args meth c prog_5_method_2_code 1 "XorOverlay$Lookup" tw_T E) (hr : meth.sig.returnType = none) {G : mm_M} {H : Heap} {locs : List Loc} {ls : Array Slot} (V : mm_V E s G H locs) (hl : lx_has ls 1 [(0, .inr (some a0))]) (hp : pX3_forget_0 N a0 G = some res) : W p l e rX3_forget s m args below meth c H locs 0 0 (MQ below (mm_Qv E res.1) args s 0 0 (mm_A E)) (F0 m 0 ls []) := by
  have hx := X.1.1
  have hb := X.1.2.1
  unfold pX3_forget_0 at hp
  refine x_aload_n X dX3_forget_0 hl 0 rfl rfl ?_
  refine lv_iconst (v := (0 : Int32)) hx hb dX3_forget_1 (by decide) ?_
  refine q_putI (ci := 3) X V inX3 rfl tyX3 tyX3_ok nmX3 (by decide) rfl 5 (by decide) rfl (tw_1 153 rfl rfl) rfl (Or.inl rfl) .int rfl rfl rfl dX3_forget_2 hp (fun G H locs V hp => ?_)
  refine x_aload_n X dX3_forget_5 hl 0 rfl rfl ?_
  refine lv_iconst (v := (0 : Int32)) hx hb dX3_forget_6 (by decide) ?_
  refine q_putI (ci := 3) X V inX3 rfl tyX3 tyX3_ok nmX3 (by decide) rfl 9 (by decide) rfl (tw_1 161 rfl rfl) rfl (Or.inl rfl) .int rfl rfl rfl dX3_forget_7 hp (fun G H locs V hp => ?_)
  refine x_aload_n X dX3_forget_10 hl 0 rfl rfl ?_
  refine lv_iconst (v := (0 : Int32)) hx hb dX3_forget_11 (by decide) ?_
  refine q_putI (ci := 3) X V inX3 rfl tyX3 tyX3_ok nmX3 (by decide) rfl 10 (by decide) rfl (tw_1 163 rfl rfl) rfl (Or.inl rfl) .int rfl rfl rfl dX3_forget_12 hp (fun G H locs V hp => ?_)
  exact q_vret X V hr ⟨by decide, by decide⟩ dX3_forget_15 hp
theorem cX3_forget (l : Launch) (E : mm_E) {N a0 : Nat} {G : mm_M} {res : mm_M × Unit} (hp : pX3_forget_0 N a0 G = some res) : Met l yX3_forget (Cond.code yX3_forget prog_5_method_2_code 1 none :: tw_T) rX3_forget (mm_Pc E G [.ref a0]) (mm_Qv E res.1) 0 0 (mm_A E) :=
  mm_met (own := "XorOverlay$Lookup") E G [.inr (some a0)] (by decide) rfl rfl (Nat.le_of_ble_eq_true rfl) (fun p e s m args below meth c ls X hr hi V hl => bX3_forget_0 X hr V hl hp)
abbrev yX4_startAnew : MethodName := ⟨"XorOverlay$Peer", "startAnew", "(I)V"⟩
abbrev rX4_startAnew : Room := { frames := 2, cells := 0, slots := 0, locals := 44 }
theorem kX4_startAnew : Cond.code yX4_startAnew prog_6_method_2_code 2 none ∈ tw_T ∧ Cond.instanceMethod yX4_startAnew ∈ tw_T ∧ Cond.selects "XorOverlay$Peer" yX4_startAnew yX4_startAnew ∈ tw_T ∧ Cond.initialized "XorOverlay$Peer" ∈ tw_T := ⟨(tw_1 236 rfl rfl), (tw_1 234 rfl rfl), (tw_1 235 rfl rfl), (tw_1 4 rfl rfl)⟩
theorem hX4_startAnew : yX4_startAnew.cls = "XorOverlay$Peer" ∧ yX4_startAnew.cls ≠ "java/lang/invoke/MethodHandle" ∧ yX4_startAnew.cls ≠ "java/lang/invoke/VarHandle" ∧ (parseMethodDescriptor yX4_startAnew.desc).map (fun d => d.parameters.length) = some 1 := by decide +kernel
theorem dX4_startAnew_0 : decode prog_6_method_2_code 0 = .ok (.aload_n 0, 1) := by decide +kernel
theorem dX4_startAnew_1 : decode prog_6_method_2_code 1 = .ok (.iconst 1, 1) := by decide +kernel
theorem dX4_startAnew_2 : decode prog_6_method_2_code 2 = .ok (.putfield 36, 3) := by decide +kernel
theorem dX4_startAnew_5 : decode prog_6_method_2_code 5 = .ok (.aload_n 0, 1) := by decide +kernel
theorem dX4_startAnew_6 : decode prog_6_method_2_code 6 = .ok (.getfield 18, 3) := by decide +kernel
theorem dX4_startAnew_9 : decode prog_6_method_2_code 9 = .ok (.iload_n 1, 1) := by decide +kernel
theorem dX4_startAnew_10 : decode prog_6_method_2_code 10 = .ok (.invokevirtual 40, 3) := by decide +kernel
theorem dX4_startAnew_13 : decode prog_6_method_2_code 13 = .ok (.aload_n 0, 1) := by decide +kernel
theorem dX4_startAnew_14 : decode prog_6_method_2_code 14 = .ok (.getfield 25, 3) := by decide +kernel
theorem dX4_startAnew_17 : decode prog_6_method_2_code 17 = .ok (.invokevirtual 43, 3) := by decide +kernel
theorem dX4_startAnew_20 : decode prog_6_method_2_code 20 = .ok (.aload_n 0, 1) := by decide +kernel
theorem dX4_startAnew_21 : decode prog_6_method_2_code 21 = .ok (.getfield 32, 3) := by decide +kernel
theorem dX4_startAnew_24 : decode prog_6_method_2_code 24 = .ok (.iconst 0, 1) := by decide +kernel
theorem dX4_startAnew_25 : decode prog_6_method_2_code 25 = .ok (.putfield 46, 3) := by decide +kernel
theorem dX4_startAnew_28 : decode prog_6_method_2_code 28 = .ok (.return_, 1) := by decide +kernel
def pX4_startAnew_0 (N a0 : Nat) (G : mm_M) (x1 : Int32) : Option (mm_M × Unit) :=
  q_pI G a0 5 4 (1 : Int32) fun G =>
  q_gR G a0 5 1 fun r6_1 =>
  q_nn r6_1 fun b10_2 =>
  q_is G b10_2 6 <|
  q_cl (pX5_reset_0 N b10_2 G x1) fun G _ =>
  q_gR G a0 5 2 fun r14_4 =>
  q_nn r14_4 fun b17_5 =>
  q_is G b17_5 4 <|
  q_cl (pX3_forget_0 N b17_5 G) fun G _ =>
  q_gR G a0 5 3 fun r21_7 =>
  q_nn r21_7 fun b25_8 =>
  q_pI G b25_8 2 3 (0 : Int32) fun G =>
  some (G, ())
set_option maxRecDepth 100000 in
set_option maxHeartbeats 4000000 in
theorem bX4_startAnew_0 {p : Program} {l : Launch} {e : Env} {s : State} {m : MethodId} {args : Array Value} {below : List Frame} {meth : Method} {c : Code} {E : mm_E} {N a0 : Nat} {res : mm_M × Unit} (X : mm_X p s m args meth c prog_6_method_2_code 2 "XorOverlay$Peer" tw_T E) (hr : meth.sig.returnType = none) {G : mm_M} {H : Heap} {locs : List Loc} {ls : Array Slot} {x1 : Int32} (V : mm_V E s G H locs) (hl : lx_has ls 2 [(0, .inr (some a0)), (1, .inl x1)]) (hp : pX4_startAnew_0 N a0 G x1 = some res) : W p l e rX4_startAnew s m args below meth c H locs 0 0 (MQ below (mm_Qv E res.1) args s 0 0 (mm_A E)) (F0 m 0 ls []) := by
  have hx := X.1.1
  have hb := X.1.2.1
  unfold pX4_startAnew_0 at hp
  refine x_aload_n X dX4_startAnew_0 hl 0 rfl rfl ?_
  refine lv_iconst (v := (1 : Int32)) hx hb dX4_startAnew_1 (by decide) ?_
  refine q_putI (ci := 4) X V inX4 rfl tyX4 tyX4_ok nmX4 (by decide) rfl 4 (by decide) rfl (tw_1 220 rfl rfl) rfl (Or.inl rfl) .boolean rfl rfl rfl dX4_startAnew_2 hp (fun G H locs V hp => ?_)
  refine x_aload_n X dX4_startAnew_5 hl 0 rfl rfl ?_
  refine q_getR (ci := 4) X V inX4 rfl (by decide) rfl 1 (by decide) rfl (tw_1 214 rfl rfl) rfl dX4_startAnew_6 hp (fun r6_1 hp => ?_)
  refine x_iload_n X dX4_startAnew_9 hl 1 rfl rfl ?_
  obtain ⟨b10_2, e0, hp2⟩ := q_nn_of hp
  clear hp; subst e0; have hp := hp2; clear hp2
  obtain ⟨hk, hp⟩ := q_is_of hp
  obtain ⟨⟨G, u⟩, hq, hp⟩ := q_cl_of hp
  dsimp only at hp
  refine q_gov (cells' := 0) (slots' := 0) (va_runV (As := [.int x1]) (rest := []) X.1 (cX5_reset l E hq) (tw_cwV 1 X.1.2.2.2.2 (tw_1 237 rfl rfl) kX5_reset.2.1 kX5_reset.2.2.1 kX5_reset.2.2.2 kX5_reset.1 rfl rfl hX5_reset ⟨Nat.le_of_ble_eq_true rfl, Nat.le_of_ble_eq_true rfl⟩) (mm_preV X V rfl (by decide) rfl hk) rfl rfl hl.1 rfl (lv_room (Nat.le_of_ble_eq_true rfl)) dX4_startAnew_10 ⟨by decide, by decide⟩) V ⟨rfl, rfl⟩ (fun H locs V => ?_)
  refine x_aload_n X dX4_startAnew_13 hl 0 rfl rfl ?_
  refine q_getR (ci := 4) X V inX4 rfl (by decide) rfl 2 (by decide) rfl (tw_1 216 rfl rfl) rfl dX4_startAnew_14 hp (fun r14_4 hp => ?_)
  obtain ⟨b17_5, e0, hp2⟩ := q_nn_of hp
  clear hp; subst e0; have hp := hp2; clear hp2
  obtain ⟨hk, hp⟩ := q_is_of hp
  obtain ⟨⟨G, u⟩, hq, hp⟩ := q_cl_of hp
  dsimp only at hp
  refine q_gov (cells' := 0) (slots' := 0) (va_runV (As := []) (rest := []) X.1 (cX3_forget l E hq) (tw_cwV 0 X.1.2.2.2.2 (tw_2 5 rfl rfl) kX3_forget.2.1 kX3_forget.2.2.1 kX3_forget.2.2.2 kX3_forget.1 rfl rfl hX3_forget ⟨Nat.le_of_ble_eq_true rfl, Nat.le_of_ble_eq_true rfl⟩) (mm_preV X V rfl (by decide) rfl hk) rfl rfl hl.1 rfl (lv_room (Nat.le_of_ble_eq_true rfl)) dX4_startAnew_17 ⟨by decide, by decide⟩) V ⟨rfl, rfl⟩ (fun H locs V => ?_)
  refine x_aload_n X dX4_startAnew_20 hl 0 rfl rfl ?_
  refine q_getR (ci := 4) X V inX4 rfl (by decide) rfl 3 (by decide) rfl (tw_1 218 rfl rfl) rfl dX4_startAnew_21 hp (fun r21_7 hp => ?_)
  refine lv_iconst (v := (0 : Int32)) hx hb dX4_startAnew_24 (by decide) ?_
  obtain ⟨b25_8, e0, hp2⟩ := q_nn_of hp
  clear hp; subst e0; have hp := hp2; clear hp2
  refine q_putI (ci := 1) X V inX1 rfl tyX1 tyX1_ok nmX1 (by decide) rfl 3 (by decide) rfl (tw_1 201 rfl rfl) rfl (Or.inl rfl) .int rfl rfl rfl dX4_startAnew_25 hp (fun G H locs V hp => ?_)
  exact q_vret X V hr ⟨by decide, by decide⟩ dX4_startAnew_28 hp
theorem cX4_startAnew (l : Launch) (E : mm_E) {N a0 : Nat} {G : mm_M} {x1 : Int32} {res : mm_M × Unit} (hp : pX4_startAnew_0 N a0 G x1 = some res) : Met l yX4_startAnew (Cond.code yX4_startAnew prog_6_method_2_code 2 none :: tw_T) rX4_startAnew (mm_Pc E G [.ref a0, .int x1]) (mm_Qv E res.1) 0 0 (mm_A E) :=
  mm_met (own := "XorOverlay$Peer") E G [.inr (some a0), .inl x1] (by decide) rfl rfl (Nat.le_of_ble_eq_true rfl) (fun p e s m args below meth c ls X hr hi V hl => bX4_startAnew_0 X hr V hl hp)
abbrev yX5_rangeOf : MethodName := ⟨"XorOverlay$Table", "rangeOf", "(I)I"⟩
abbrev rX5_rangeOf : Room := { frames := 0, cells := 0, slots := 0, locals := 0 }
theorem kX5_rangeOf : Cond.code yX5_rangeOf prog_7_method_8_code 3 (Option.some .int) ∈ tw_T ∧ Cond.instanceMethod yX5_rangeOf ∈ tw_T ∧ Cond.selects "XorOverlay$Table" yX5_rangeOf yX5_rangeOf ∈ tw_T ∧ Cond.initialized "XorOverlay$Table" ∈ tw_T := ⟨(tw_2 16 rfl rfl), (tw_2 15 rfl rfl), (tw_s 3 rfl rfl), (tw_1 5 rfl rfl)⟩
theorem hX5_rangeOf : yX5_rangeOf.cls = "XorOverlay$Table" ∧ yX5_rangeOf.cls ≠ "java/lang/invoke/MethodHandle" ∧ yX5_rangeOf.cls ≠ "java/lang/invoke/VarHandle" ∧ (parseMethodDescriptor yX5_rangeOf.desc).map (fun d => d.parameters.length) = some 1 := by decide +kernel
theorem dX5_rangeOf_0 : decode prog_7_method_8_code 0 = .ok (.iconst 0, 1) := by decide +kernel
theorem dX5_rangeOf_1 : decode prog_7_method_8_code 1 = .ok (.istore_n 2, 1) := by decide +kernel
theorem dX5_rangeOf_2 : decode prog_7_method_8_code 2 = .ok (.iload_n 2, 1) := by decide +kernel
theorem dX5_rangeOf_3 : decode prog_7_method_8_code 3 = .ok (.iconst 1, 1) := by decide +kernel
theorem dX5_rangeOf_4 : decode prog_7_method_8_code 4 = .ok (.iadd, 1) := by decide +kernel
theorem dX5_rangeOf_5 : decode prog_7_method_8_code 5 = .ok (.aload_n 0, 1) := by decide +kernel
theorem dX5_rangeOf_6 : decode prog_7_method_8_code 6 = .ok (.getfield 22, 3) := by decide +kernel
theorem dX5_rangeOf_9 : decode prog_7_method_8_code 9 = .ok (.if_icmp .ge 24, 3) := by decide +kernel
theorem dX5_rangeOf_12 : decode prog_7_method_8_code 12 = .ok (.aload_n 0, 1) := by decide +kernel
theorem dX5_rangeOf_13 : decode prog_7_method_8_code 13 = .ok (.getfield 17, 3) := by decide +kernel
theorem dX5_rangeOf_16 : decode prog_7_method_8_code 16 = .ok (.iload_n 2, 1) := by decide +kernel
theorem dX5_rangeOf_17 : decode prog_7_method_8_code 17 = .ok (.iconst 1, 1) := by decide +kernel
theorem dX5_rangeOf_18 : decode prog_7_method_8_code 18 = .ok (.iadd, 1) := by decide +kernel
theorem dX5_rangeOf_19 : decode prog_7_method_8_code 19 = .ok (.aaload, 1) := by decide +kernel
theorem dX5_rangeOf_20 : decode prog_7_method_8_code 20 = .ok (.getfield 69, 3) := by decide +kernel
theorem dX5_rangeOf_23 : decode prog_7_method_8_code 23 = .ok (.iload_n 1, 1) := by decide +kernel
theorem dX5_rangeOf_24 : decode prog_7_method_8_code 24 = .ok (.if_icmp .gt 9, 3) := by decide +kernel
theorem dX5_rangeOf_27 : decode prog_7_method_8_code 27 = .ok (.iinc 2 1, 3) := by decide +kernel
theorem dX5_rangeOf_30 : decode prog_7_method_8_code 30 = .ok (.goto (-28), 3) := by decide +kernel
theorem dX5_rangeOf_33 : decode prog_7_method_8_code 33 = .ok (.iload_n 2, 1) := by decide +kernel
theorem dX5_rangeOf_34 : decode prog_7_method_8_code 34 = .ok (.ireturn, 1) := by decide +kernel
def pX5_rangeOf_2_b (N a0 : Nat) (kb : mm_M → Int32 → Int32 → Option (mm_M × Int32)) (kx : mm_M → Int32 → Option (mm_M × Int32)) (G : mm_M) (x1 : Int32) (x2 : Int32) : Option (mm_M × Int32) :=
  q_gI G a0 6 2 fun v6_1 =>
  if v6_1 ≤ (x2 + (1 : Int32)) then
    kx G x2
  else
    q_gR G a0 6 1 fun r13_2 =>
    q_nn r13_2 fun b19_3 =>
    q_aR G b19_3 104 (x2 + (1 : Int32)) fun r19_4 =>
    q_nn r19_4 fun b20_5 =>
    q_gI G b20_5 1 2 fun v20_6 =>
    if x1 < v20_6 then
      kx G x2
    else
      kb G x1 (x2 + (1 : Int32))
def pX5_rangeOf_2 (N a0 : Nat) (kx : mm_M → Int32 → Option (mm_M × Int32)) : Nat → mm_M → Int32 → Int32 → Option (mm_M × Int32)
  | 0 => fun _ _ _ => none
  | n + 1 => pX5_rangeOf_2_b N a0 (pX5_rangeOf_2 N a0 kx n) kx
set_option maxRecDepth 100000 in
set_option maxHeartbeats 4000000 in
theorem bX5_rangeOf_2 {p : Program} {l : Launch} {e : Env} {s : State} {m : MethodId} {args : Array Value} {below : List Frame} {meth : Method} {c : Code} {E : mm_E} {N a0 : Nat} {res : mm_M × Int32} (X : mm_X p s m args meth c prog_7_method_8_code 3 "XorOverlay$Table" tw_T E) (hr : meth.sig.returnType = (Option.some .int)) {kx : mm_M → Int32 → Option (mm_M × Int32)} (hkx : ∀ (G : mm_M) (H : Heap) (locs : List Loc) (ls : Array Slot) (x2 : Int32), mm_V E s G H locs → lx_has ls 3 [(0, .inr (some a0)), (2, .inl x2)] → kx G x2 = some res → W p l e rX5_rangeOf s m args below meth c H locs 0 0 (MQ below (mm_Qi E res.1 res.2) args s 0 0 (mm_A E)) (F0 m 33 ls [])) :
    ∀ (n : Nat) (G : mm_M) (H : Heap) (locs : List Loc) (ls : Array Slot) (x1 : Int32) (x2 : Int32), mm_V E s G H locs → lx_has ls 3 [(0, .inr (some a0)), (1, .inl x1), (2, .inl x2)] → pX5_rangeOf_2 N a0 kx n G x1 x2 = some res → W p l e rX5_rangeOf s m args below meth c H locs 0 0 (MQ below (mm_Qi E res.1 res.2) args s 0 0 (mm_A E)) (F0 m 2 ls []) := by
  have hx := X.1.1
  have hb := X.1.2.1
  intro n
  induction n with
  | zero =>
    intro G H locs ls x1 x2 V hl hp
    cases hp
  | succ n ih =>
    intro G H locs ls x1 x2 V hl hp
    have hp : pX5_rangeOf_2_b N a0 (pX5_rangeOf_2 N a0 kx n) kx G x1 x2 = some res := hp
    unfold pX5_rangeOf_2_b at hp
    refine x_iload_n X dX5_rangeOf_2 hl 2 rfl rfl ?_
    refine lv_iconst (v := (1 : Int32)) hx hb dX5_rangeOf_3 (by decide) ?_
    refine lv_iadd hx hb dX5_rangeOf_4 ?_
    refine x_aload_n X dX5_rangeOf_5 hl 0 rfl rfl ?_
    refine q_getI (ci := 5) X V inX5 rfl (by decide) rfl 2 (by decide) rfl (tw_1 128 rfl rfl) rfl dX5_rangeOf_6 hp (fun v6_1 hp => ?_)
    refine q_if hp (lv_icmp_ge (tgt := 33) hx hb dX5_rangeOf_9 (by decide)) (fun hp => ?_) (fun hp => ?_)
    · exact hkx _ _ _ _ _ V (lx_sub hl [0, 2] rfl) hp
    · refine x_aload_n X dX5_rangeOf_12 hl 0 rfl rfl ?_
      refine q_getR (ci := 5) X V inX5 rfl (by decide) rfl 1 (by decide) rfl (tw_1 126 rfl rfl) rfl dX5_rangeOf_13 hp (fun r13_2 hp => ?_)
      refine x_iload_n X dX5_rangeOf_16 hl 2 rfl rfl ?_
      refine lv_iconst (v := (1 : Int32)) hx hb dX5_rangeOf_17 (by decide) ?_
      refine lv_iadd hx hb dX5_rangeOf_18 ?_
      obtain ⟨b19_3, e0, hp2⟩ := q_nn_of hp
      clear hp; subst e0; have hp := hp2; clear hp2
      refine q_aldB X V dX5_rangeOf_19 hp (fun r19_4 hp => ?_)
      obtain ⟨b20_5, e0, hp2⟩ := q_nn_of hp
      clear hp; subst e0; have hp := hp2; clear hp2
      refine q_getI (ci := 0) X V inX0 rfl (by decide) rfl 2 (by decide) rfl (tw_1 102 rfl rfl) rfl dX5_rangeOf_20 hp (fun v20_6 hp => ?_)
      refine x_iload_n X dX5_rangeOf_23 hl 1 rfl rfl ?_
      refine q_if hp (lv_icmp_gt (tgt := 33) hx hb dX5_rangeOf_24 (by decide)) (fun hp => ?_) (fun hp => ?_)
      · exact hkx _ _ _ _ _ V (lx_sub hl [0, 2] rfl) hp
      · refine x_iinc (v := (1 : Int32)) (lst' := [(2, .inl (x2 + (1 : Int32))), (0, .inr (some a0)), (1, .inl x1)]) X dX5_rangeOf_27 hl 2 rfl (by decide) (by decide) rfl (fun ls hl => ?_)
        refine lv_goto (tgt := 2) hx hb dX5_rangeOf_30 (by decide) ?_
        exact ih _ _ _ _ _ _ V (lx_sub hl [1, 2, 0] rfl) hp
def pX5_rangeOf_0 (N a0 : Nat) (G : mm_M) (x1 : Int32) : Option (mm_M × Int32) :=
  pX5_rangeOf_2 N a0 (fun (G : mm_M) (x2 : Int32) =>
    some (G, x2)) N G x1 (0 : Int32)
set_option maxRecDepth 100000 in
set_option maxHeartbeats 4000000 in
theorem bX5_rangeOf_0 {p : Program} {l : Launch} {e : Env} {s : State} {m : MethodId} {args : Array Value} {below : List Frame} {meth : Method} {c : Code} {E : mm_E} {N a0 : Nat} {res : mm_M × Int32} (X : mm_X p s m args meth c prog_7_method_8_code 3 "XorOverlay$Table" tw_T E) (hr : meth.sig.returnType = (Option.some .int)) {G : mm_M} {H : Heap} {locs : List Loc} {ls : Array Slot} {x1 : Int32} (V : mm_V E s G H locs) (hl : lx_has ls 3 [(0, .inr (some a0)), (1, .inl x1)]) (hp : pX5_rangeOf_0 N a0 G x1 = some res) : W p l e rX5_rangeOf s m args below meth c H locs 0 0 (MQ below (mm_Qi E res.1 res.2) args s 0 0 (mm_A E)) (F0 m 0 ls []) := by
  have hx := X.1.1
  have hb := X.1.2.1
  unfold pX5_rangeOf_0 at hp
  refine lv_iconst (v := (0 : Int32)) hx hb dX5_rangeOf_0 (by decide) ?_
  refine x_istore_n (lst' := [(2, .inl (0 : Int32)), (0, .inr (some a0)), (1, .inl x1)]) X dX5_rangeOf_1 hl rfl (by decide) rfl (fun ls hl => ?_)
  refine bX5_rangeOf_2 X hr (fun G H locs ls x2 V hl hp => ?_) _ _ _ _ _ _ _ V (lx_sub hl [1, 2, 0] rfl) hp
  refine x_iload_n X dX5_rangeOf_33 hl 1 rfl rfl ?_
  exact q_iret X V hr ⟨by decide, by decide⟩ dX5_rangeOf_34 hp
theorem cX5_rangeOf (l : Launch) (E : mm_E) {N a0 : Nat} {G : mm_M} {x1 : Int32} {res : mm_M × Int32} (hp : pX5_rangeOf_0 N a0 G x1 = some res) : Met l yX5_rangeOf (Cond.code yX5_rangeOf prog_7_method_8_code 3 (Option.some .int) :: tw_T) rX5_rangeOf (mm_Pc E G [.ref a0, .int x1]) (mm_Qi E res.1 res.2) 0 0 (mm_A E) :=
  mm_met (own := "XorOverlay$Table") E G [.inr (some a0), .inl x1] (by decide) rfl rfl (Nat.le_of_ble_eq_true rfl) (fun p e s m args below meth c ls X hr hi V hl => bX5_rangeOf_0 X hr V hl hp)
abbrev yX0_placeOf : MethodName := ⟨"XorOverlay$Bucket", "placeOf", "(I)I"⟩
abbrev rX0_placeOf : Room := { frames := 0, cells := 0, slots := 0, locals := 0 }
theorem kX0_placeOf : Cond.code yX0_placeOf prog_2_method_5_code 3 (Option.some .int) ∈ tw_T ∧ Cond.instanceMethod yX0_placeOf ∈ tw_T ∧ Cond.selects "XorOverlay$Bucket" yX0_placeOf yX0_placeOf ∈ tw_T ∧ Cond.initialized "XorOverlay$Bucket" ∈ tw_T := ⟨(tw_2 20 rfl rfl), (tw_2 18 rfl rfl), (tw_2 19 rfl rfl), (tw_1 6 rfl rfl)⟩
theorem hX0_placeOf : yX0_placeOf.cls = "XorOverlay$Bucket" ∧ yX0_placeOf.cls ≠ "java/lang/invoke/MethodHandle" ∧ yX0_placeOf.cls ≠ "java/lang/invoke/VarHandle" ∧ (parseMethodDescriptor yX0_placeOf.desc).map (fun d => d.parameters.length) = some 1 := by decide +kernel
theorem dX0_placeOf_0 : decode prog_2_method_5_code 0 = .ok (.iconst 0, 1) := by decide +kernel
theorem dX0_placeOf_1 : decode prog_2_method_5_code 1 = .ok (.istore_n 2, 1) := by decide +kernel
theorem dX0_placeOf_2 : decode prog_2_method_5_code 2 = .ok (.iload_n 2, 1) := by decide +kernel
theorem dX0_placeOf_3 : decode prog_2_method_5_code 3 = .ok (.aload_n 0, 1) := by decide +kernel
theorem dX0_placeOf_4 : decode prog_2_method_5_code 4 = .ok (.getfield 28, 3) := by decide +kernel
theorem dX0_placeOf_7 : decode prog_2_method_5_code 7 = .ok (.if_icmp .ge 21, 3) := by decide +kernel
theorem dX0_placeOf_10 : decode prog_2_method_5_code 10 = .ok (.aload_n 0, 1) := by decide +kernel
theorem dX0_placeOf_11 : decode prog_2_method_5_code 11 = .ok (.getfield 11, 3) := by decide +kernel
theorem dX0_placeOf_14 : decode prog_2_method_5_code 14 = .ok (.iload_n 2, 1) := by decide +kernel
theorem dX0_placeOf_15 : decode prog_2_method_5_code 15 = .ok (.iaload, 1) := by decide +kernel
theorem dX0_placeOf_16 : decode prog_2_method_5_code 16 = .ok (.iload_n 1, 1) := by decide +kernel
theorem dX0_placeOf_17 : decode prog_2_method_5_code 17 = .ok (.if_icmp .ne 5, 3) := by decide +kernel
theorem dX0_placeOf_20 : decode prog_2_method_5_code 20 = .ok (.iload_n 2, 1) := by decide +kernel
theorem dX0_placeOf_21 : decode prog_2_method_5_code 21 = .ok (.ireturn, 1) := by decide +kernel
theorem dX0_placeOf_22 : decode prog_2_method_5_code 22 = .ok (.iinc 2 1, 3) := by decide +kernel
theorem dX0_placeOf_25 : decode prog_2_method_5_code 25 = .ok (.goto (-23), 3) := by decide +kernel
theorem dX0_placeOf_28 : decode prog_2_method_5_code 28 = .ok (.iconst (-1), 1) := by decide +kernel
theorem dX0_placeOf_29 : decode prog_2_method_5_code 29 = .ok (.ireturn, 1) := by decide +kernel
def pX0_placeOf_2_b (N a0 : Nat) (kb : mm_M → Int32 → Int32 → Option (mm_M × Int32)) (kx : mm_M → Option (mm_M × Int32)) (G : mm_M) (x1 : Int32) (x2 : Int32) : Option (mm_M × Int32) :=
  q_gI G a0 1 5 fun v4_1 =>
  if v4_1 ≤ x2 then
    kx G
  else
    q_gR G a0 1 0 fun r11_2 =>
    q_nn r11_2 fun b15_3 =>
    q_aI G b15_3 101 x2 fun v15_4 =>
    if v15_4 = x1 then
      some (G, x2)
    else
      kb G x1 (x2 + (1 : Int32))
def pX0_placeOf_2 (N a0 : Nat) (kx : mm_M → Option (mm_M × Int32)) : Nat → mm_M → Int32 → Int32 → Option (mm_M × Int32)
  | 0 => fun _ _ _ => none
  | n + 1 => pX0_placeOf_2_b N a0 (pX0_placeOf_2 N a0 kx n) kx
set_option maxRecDepth 100000 in
set_option maxHeartbeats 4000000 in
theorem bX0_placeOf_2 {p : Program} {l : Launch} {e : Env} {s : State} {m : MethodId} {args : Array Value} {below : List Frame} {meth : Method} {c : Code} {E : mm_E} {N a0 : Nat} {res : mm_M × Int32} (X : mm_X p s m args meth c prog_2_method_5_code 3 "XorOverlay$Bucket" tw_T E) (hr : meth.sig.returnType = (Option.some .int)) {kx : mm_M → Option (mm_M × Int32)} (hkx : ∀ (G : mm_M) (H : Heap) (locs : List Loc) (ls : Array Slot), mm_V E s G H locs → lx_has ls 3 [(0, .inr (some a0))] → kx G = some res → W p l e rX0_placeOf s m args below meth c H locs 0 0 (MQ below (mm_Qi E res.1 res.2) args s 0 0 (mm_A E)) (F0 m 28 ls [])) :
    ∀ (n : Nat) (G : mm_M) (H : Heap) (locs : List Loc) (ls : Array Slot) (x1 : Int32) (x2 : Int32), mm_V E s G H locs → lx_has ls 3 [(0, .inr (some a0)), (1, .inl x1), (2, .inl x2)] → pX0_placeOf_2 N a0 kx n G x1 x2 = some res → W p l e rX0_placeOf s m args below meth c H locs 0 0 (MQ below (mm_Qi E res.1 res.2) args s 0 0 (mm_A E)) (F0 m 2 ls []) := by
  have hx := X.1.1
  have hb := X.1.2.1
  intro n
  induction n with
  | zero =>
    intro G H locs ls x1 x2 V hl hp
    cases hp
  | succ n ih =>
    intro G H locs ls x1 x2 V hl hp
    have hp : pX0_placeOf_2_b N a0 (pX0_placeOf_2 N a0 kx n) kx G x1 x2 = some res := hp
    unfold pX0_placeOf_2_b at hp
    refine x_iload_n X dX0_placeOf_2 hl 2 rfl rfl ?_
    refine x_aload_n X dX0_placeOf_3 hl 0 rfl rfl ?_
    refine q_getI (ci := 0) X V inX0 rfl (by decide) rfl 5 (by decide) rfl (tw_1 109 rfl rfl) rfl dX0_placeOf_4 hp (fun v4_1 hp => ?_)
    refine q_if hp (lv_icmp_ge (tgt := 28) hx hb dX0_placeOf_7 (by decide)) (fun hp => ?_) (fun hp => ?_)
    · exact hkx _ _ _ _ V (lx_sub hl [0] rfl) hp
    · refine x_aload_n X dX0_placeOf_10 hl 0 rfl rfl ?_
      refine q_getR (ci := 0) X V inX0 rfl (by decide) rfl 0 (by decide) rfl (tw_1 95 rfl rfl) rfl dX0_placeOf_11 hp (fun r11_2 hp => ?_)
      refine x_iload_n X dX0_placeOf_14 hl 2 rfl rfl ?_
      obtain ⟨b15_3, e0, hp2⟩ := q_nn_of hp
      clear hp; subst e0; have hp := hp2; clear hp2
      refine q_iald X V dX0_placeOf_15 hp (fun v15_4 hp => ?_)
      refine x_iload_n X dX0_placeOf_16 hl 1 rfl rfl ?_
      refine q_ifn hp (lv_icmp_ne (tgt := 22) hx hb dX0_placeOf_17 (by decide)) (fun hp => ?_) (fun hp => ?_)
      · refine x_iinc (v := (1 : Int32)) (lst' := [(2, .inl (x2 + (1 : Int32))), (0, .inr (some a0)), (1, .inl x1)]) X dX0_placeOf_22 hl 2 rfl (by decide) (by decide) rfl (fun ls hl => ?_)
        refine lv_goto (tgt := 2) hx hb dX0_placeOf_25 (by decide) ?_
        exact ih _ _ _ _ _ _ V (lx_sub hl [1, 2, 0] rfl) hp
      · refine x_iload_n X dX0_placeOf_20 hl 2 rfl rfl ?_
        exact q_iret X V hr ⟨by decide, by decide⟩ dX0_placeOf_21 hp
def pX0_placeOf_0 (N a0 : Nat) (G : mm_M) (x1 : Int32) : Option (mm_M × Int32) :=
  pX0_placeOf_2 N a0 (fun (G : mm_M) =>
    some (G, (-1 : Int32))) N G x1 (0 : Int32)
set_option maxRecDepth 100000 in
set_option maxHeartbeats 4000000 in
theorem bX0_placeOf_0 {p : Program} {l : Launch} {e : Env} {s : State} {m : MethodId} {args : Array Value} {below : List Frame} {meth : Method} {c : Code} {E : mm_E} {N a0 : Nat} {res : mm_M × Int32} (X : mm_X p s m args meth c prog_2_method_5_code 3 "XorOverlay$Bucket" tw_T E) (hr : meth.sig.returnType = (Option.some .int)) {G : mm_M} {H : Heap} {locs : List Loc} {ls : Array Slot} {x1 : Int32} (V : mm_V E s G H locs) (hl : lx_has ls 3 [(0, .inr (some a0)), (1, .inl x1)]) (hp : pX0_placeOf_0 N a0 G x1 = some res) : W p l e rX0_placeOf s m args below meth c H locs 0 0 (MQ below (mm_Qi E res.1 res.2) args s 0 0 (mm_A E)) (F0 m 0 ls []) := by
  have hx := X.1.1
  have hb := X.1.2.1
  unfold pX0_placeOf_0 at hp
  refine lv_iconst (v := (0 : Int32)) hx hb dX0_placeOf_0 (by decide) ?_
  refine x_istore_n (lst' := [(2, .inl (0 : Int32)), (0, .inr (some a0)), (1, .inl x1)]) X dX0_placeOf_1 hl rfl (by decide) rfl (fun ls hl => ?_)
  refine bX0_placeOf_2 X hr (fun G H locs ls V hl hp => ?_) _ _ _ _ _ _ _ V (lx_sub hl [1, 2, 0] rfl) hp
  refine lv_iconst (v := (-1 : Int32)) hx hb dX0_placeOf_28 (by decide) ?_
  exact q_iret X V hr ⟨by decide, by decide⟩ dX0_placeOf_29 hp
theorem cX0_placeOf (l : Launch) (E : mm_E) {N a0 : Nat} {G : mm_M} {x1 : Int32} {res : mm_M × Int32} (hp : pX0_placeOf_0 N a0 G x1 = some res) : Met l yX0_placeOf (Cond.code yX0_placeOf prog_2_method_5_code 3 (Option.some .int) :: tw_T) rX0_placeOf (mm_Pc E G [.ref a0, .int x1]) (mm_Qi E res.1 res.2) 0 0 (mm_A E) :=
  mm_met (own := "XorOverlay$Bucket") E G [.inr (some a0), .inl x1] (by decide) rfl rfl (Nat.le_of_ble_eq_true rfl) (fun p e s m args below meth c ls X hr hi V hl => bX0_placeOf_0 X hr V hl hp)
abbrev yX0_removeAt : MethodName := ⟨"XorOverlay$Bucket", "removeAt", "(I)V"⟩
abbrev rX0_removeAt : Room := { frames := 0, cells := 0, slots := 0, locals := 0 }
theorem kX0_removeAt : Cond.code yX0_removeAt prog_2_method_7_code 3 none ∈ tw_T ∧ Cond.instanceMethod yX0_removeAt ∈ tw_T ∧ Cond.selects "XorOverlay$Bucket" yX0_removeAt yX0_removeAt ∈ tw_T ∧ Cond.initialized "XorOverlay$Bucket" ∈ tw_T := ⟨(tw_2 24 rfl rfl), (tw_2 22 rfl rfl), (tw_2 23 rfl rfl), (tw_1 6 rfl rfl)⟩
theorem hX0_removeAt : yX0_removeAt.cls = "XorOverlay$Bucket" ∧ yX0_removeAt.cls ≠ "java/lang/invoke/MethodHandle" ∧ yX0_removeAt.cls ≠ "java/lang/invoke/VarHandle" ∧ (parseMethodDescriptor yX0_removeAt.desc).map (fun d => d.parameters.length) = some 1 := by decide +kernel
theorem dX0_removeAt_0 : decode prog_2_method_7_code 0 = .ok (.iload_n 1, 1) := by decide +kernel
theorem dX0_removeAt_1 : decode prog_2_method_7_code 1 = .ok (.istore_n 2, 1) := by decide +kernel
theorem dX0_removeAt_2 : decode prog_2_method_7_code 2 = .ok (.iload_n 2, 1) := by decide +kernel
theorem dX0_removeAt_3 : decode prog_2_method_7_code 3 = .ok (.iconst 1, 1) := by decide +kernel
theorem dX0_removeAt_4 : decode prog_2_method_7_code 4 = .ok (.iadd, 1) := by decide +kernel
theorem dX0_removeAt_5 : decode prog_2_method_7_code 5 = .ok (.aload_n 0, 1) := by decide +kernel
theorem dX0_removeAt_6 : decode prog_2_method_7_code 6 = .ok (.getfield 28, 3) := by decide +kernel
theorem dX0_removeAt_9 : decode prog_2_method_7_code 9 = .ok (.if_icmp .ge 37, 3) := by decide +kernel
theorem dX0_removeAt_12 : decode prog_2_method_7_code 12 = .ok (.aload_n 0, 1) := by decide +kernel
theorem dX0_removeAt_13 : decode prog_2_method_7_code 13 = .ok (.getfield 11, 3) := by decide +kernel
theorem dX0_removeAt_16 : decode prog_2_method_7_code 16 = .ok (.iload_n 2, 1) := by decide +kernel
theorem dX0_removeAt_17 : decode prog_2_method_7_code 17 = .ok (.aload_n 0, 1) := by decide +kernel
theorem dX0_removeAt_18 : decode prog_2_method_7_code 18 = .ok (.getfield 11, 3) := by decide +kernel
theorem dX0_removeAt_21 : decode prog_2_method_7_code 21 = .ok (.iload_n 2, 1) := by decide +kernel
theorem dX0_removeAt_22 : decode prog_2_method_7_code 22 = .ok (.iconst 1, 1) := by decide +kernel
theorem dX0_removeAt_23 : decode prog_2_method_7_code 23 = .ok (.iadd, 1) := by decide +kernel
theorem dX0_removeAt_24 : decode prog_2_method_7_code 24 = .ok (.iaload, 1) := by decide +kernel
theorem dX0_removeAt_25 : decode prog_2_method_7_code 25 = .ok (.iastore, 1) := by decide +kernel
theorem dX0_removeAt_26 : decode prog_2_method_7_code 26 = .ok (.aload_n 0, 1) := by decide +kernel
theorem dX0_removeAt_27 : decode prog_2_method_7_code 27 = .ok (.getfield 15, 3) := by decide +kernel
theorem dX0_removeAt_30 : decode prog_2_method_7_code 30 = .ok (.iload_n 2, 1) := by decide +kernel
theorem dX0_removeAt_31 : decode prog_2_method_7_code 31 = .ok (.aload_n 0, 1) := by decide +kernel
theorem dX0_removeAt_32 : decode prog_2_method_7_code 32 = .ok (.getfield 15, 3) := by decide +kernel
theorem dX0_removeAt_35 : decode prog_2_method_7_code 35 = .ok (.iload_n 2, 1) := by decide +kernel
theorem dX0_removeAt_36 : decode prog_2_method_7_code 36 = .ok (.iconst 1, 1) := by decide +kernel
theorem dX0_removeAt_37 : decode prog_2_method_7_code 37 = .ok (.iadd, 1) := by decide +kernel
theorem dX0_removeAt_38 : decode prog_2_method_7_code 38 = .ok (.iaload, 1) := by decide +kernel
theorem dX0_removeAt_39 : decode prog_2_method_7_code 39 = .ok (.iastore, 1) := by decide +kernel
theorem dX0_removeAt_40 : decode prog_2_method_7_code 40 = .ok (.iinc 2 1, 3) := by decide +kernel
theorem dX0_removeAt_43 : decode prog_2_method_7_code 43 = .ok (.goto (-41), 3) := by decide +kernel
theorem dX0_removeAt_46 : decode prog_2_method_7_code 46 = .ok (.aload_n 0, 1) := by decide +kernel
theorem dX0_removeAt_47 : decode prog_2_method_7_code 47 = .ok (.dup, 1) := by decide +kernel
theorem dX0_removeAt_48 : decode prog_2_method_7_code 48 = .ok (.getfield 28, 3) := by decide +kernel
theorem dX0_removeAt_51 : decode prog_2_method_7_code 51 = .ok (.iconst 1, 1) := by decide +kernel
theorem dX0_removeAt_52 : decode prog_2_method_7_code 52 = .ok (.isub, 1) := by decide +kernel
theorem dX0_removeAt_53 : decode prog_2_method_7_code 53 = .ok (.putfield 28, 3) := by decide +kernel
theorem dX0_removeAt_56 : decode prog_2_method_7_code 56 = .ok (.return_, 1) := by decide +kernel
def pX0_removeAt_2_b (N a0 : Nat) (kb : mm_M → Int32 → Option (mm_M × Unit)) (kx : mm_M → Option (mm_M × Unit)) (G : mm_M) (x2 : Int32) : Option (mm_M × Unit) :=
  q_gI G a0 1 5 fun v6_1 =>
  if v6_1 ≤ (x2 + (1 : Int32)) then
    kx G
  else
    q_gR G a0 1 0 fun r13_2 =>
    q_gR G a0 1 0 fun r18_3 =>
    q_nn r18_3 fun b24_4 =>
    q_aI G b24_4 101 (x2 + (1 : Int32)) fun v24_5 =>
    q_nn r13_2 fun b25_6 =>
    q_sI G b25_6 101 x2 v24_5 fun G =>
    q_gR G a0 1 1 fun r27_7 =>
    q_gR G a0 1 1 fun r32_8 =>
    q_nn r32_8 fun b38_9 =>
    q_aI G b38_9 101 (x2 + (1 : Int32)) fun v38_10 =>
    q_nn r27_7 fun b39_11 =>
    q_sI G b39_11 101 x2 v38_10 fun G =>
    kb G (x2 + (1 : Int32))
def pX0_removeAt_2 (N a0 : Nat) (kx : mm_M → Option (mm_M × Unit)) : Nat → mm_M → Int32 → Option (mm_M × Unit)
  | 0 => fun _ _ => none
  | n + 1 => pX0_removeAt_2_b N a0 (pX0_removeAt_2 N a0 kx n) kx
set_option maxRecDepth 100000 in
set_option maxHeartbeats 4000000 in
theorem bX0_removeAt_2 {p : Program} {l : Launch} {e : Env} {s : State} {m : MethodId} {args : Array Value} {below : List Frame} {meth : Method} {c : Code} {E : mm_E} {N a0 : Nat} {res : mm_M × Unit} (X : mm_X p s m args meth c prog_2_method_7_code 3 "XorOverlay$Bucket" tw_T E) (hr : meth.sig.returnType = none) {kx : mm_M → Option (mm_M × Unit)} (hkx : ∀ (G : mm_M) (H : Heap) (locs : List Loc) (ls : Array Slot), mm_V E s G H locs → lx_has ls 3 [(0, .inr (some a0))] → kx G = some res → W p l e rX0_removeAt s m args below meth c H locs 0 0 (MQ below (mm_Qv E res.1) args s 0 0 (mm_A E)) (F0 m 46 ls [])) :
    ∀ (n : Nat) (G : mm_M) (H : Heap) (locs : List Loc) (ls : Array Slot) (x2 : Int32), mm_V E s G H locs → lx_has ls 3 [(0, .inr (some a0)), (2, .inl x2)] → pX0_removeAt_2 N a0 kx n G x2 = some res → W p l e rX0_removeAt s m args below meth c H locs 0 0 (MQ below (mm_Qv E res.1) args s 0 0 (mm_A E)) (F0 m 2 ls []) := by
  have hx := X.1.1
  have hb := X.1.2.1
  intro n
  induction n with
  | zero =>
    intro G H locs ls x2 V hl hp
    cases hp
  | succ n ih =>
    intro G H locs ls x2 V hl hp
    have hp : pX0_removeAt_2_b N a0 (pX0_removeAt_2 N a0 kx n) kx G x2 = some res := hp
    unfold pX0_removeAt_2_b at hp
    refine x_iload_n X dX0_removeAt_2 hl 1 rfl rfl ?_
    refine lv_iconst (v := (1 : Int32)) hx hb dX0_removeAt_3 (by decide) ?_
    refine lv_iadd hx hb dX0_removeAt_4 ?_
    refine x_aload_n X dX0_removeAt_5 hl 0 rfl rfl ?_
    refine q_getI (ci := 0) X V inX0 rfl (by decide) rfl 5 (by decide) rfl (tw_1 109 rfl rfl) rfl dX0_removeAt_6 hp (fun v6_1 hp => ?_)
    refine q_if hp (lv_icmp_ge (tgt := 46) hx hb dX0_removeAt_9 (by decide)) (fun hp => ?_) (fun hp => ?_)
    · exact hkx _ _ _ _ V (lx_sub hl [0] rfl) hp
    · refine x_aload_n X dX0_removeAt_12 hl 0 rfl rfl ?_
      refine q_getR (ci := 0) X V inX0 rfl (by decide) rfl 0 (by decide) rfl (tw_1 95 rfl rfl) rfl dX0_removeAt_13 hp (fun r13_2 hp => ?_)
      refine x_iload_n X dX0_removeAt_16 hl 1 rfl rfl ?_
      refine x_aload_n X dX0_removeAt_17 hl 0 rfl rfl ?_
      refine q_getR (ci := 0) X V inX0 rfl (by decide) rfl 0 (by decide) rfl (tw_1 95 rfl rfl) rfl dX0_removeAt_18 hp (fun r18_3 hp => ?_)
      refine x_iload_n X dX0_removeAt_21 hl 1 rfl rfl ?_
      refine lv_iconst (v := (1 : Int32)) hx hb dX0_removeAt_22 (by decide) ?_
      refine lv_iadd hx hb dX0_removeAt_23 ?_
      obtain ⟨b24_4, e0, hp2⟩ := q_nn_of hp
      clear hp; subst e0; have hp := hp2; clear hp2
      refine q_iald X V dX0_removeAt_24 hp (fun v24_5 hp => ?_)
      obtain ⟨b25_6, e0, hp2⟩ := q_nn_of hp
      clear hp; subst e0; have hp := hp2; clear hp2
      refine q_iast X V dX0_removeAt_25 hp (fun G H locs V hp => ?_)
      refine x_aload_n X dX0_removeAt_26 hl 0 rfl rfl ?_
      refine q_getR (ci := 0) X V inX0 rfl (by decide) rfl 1 (by decide) rfl (tw_1 98 rfl rfl) rfl dX0_removeAt_27 hp (fun r27_7 hp => ?_)
      refine x_iload_n X dX0_removeAt_30 hl 1 rfl rfl ?_
      refine x_aload_n X dX0_removeAt_31 hl 0 rfl rfl ?_
      refine q_getR (ci := 0) X V inX0 rfl (by decide) rfl 1 (by decide) rfl (tw_1 98 rfl rfl) rfl dX0_removeAt_32 hp (fun r32_8 hp => ?_)
      refine x_iload_n X dX0_removeAt_35 hl 1 rfl rfl ?_
      refine lv_iconst (v := (1 : Int32)) hx hb dX0_removeAt_36 (by decide) ?_
      refine lv_iadd hx hb dX0_removeAt_37 ?_
      obtain ⟨b38_9, e0, hp2⟩ := q_nn_of hp
      clear hp; subst e0; have hp := hp2; clear hp2
      refine q_iald X V dX0_removeAt_38 hp (fun v38_10 hp => ?_)
      obtain ⟨b39_11, e0, hp2⟩ := q_nn_of hp
      clear hp; subst e0; have hp := hp2; clear hp2
      refine q_iast X V dX0_removeAt_39 hp (fun G H locs V hp => ?_)
      refine x_iinc (v := (1 : Int32)) (lst' := [(2, .inl (x2 + (1 : Int32))), (0, .inr (some a0))]) X dX0_removeAt_40 hl 1 rfl (by decide) (by decide) rfl (fun ls hl => ?_)
      refine lv_goto (tgt := 2) hx hb dX0_removeAt_43 (by decide) ?_
      exact ih _ _ _ _ _ V (lx_sub hl [1, 0] rfl) hp
def pX0_removeAt_0 (N a0 : Nat) (G : mm_M) (x1 : Int32) : Option (mm_M × Unit) :=
  pX0_removeAt_2 N a0 (fun (G : mm_M) =>
    q_gI G a0 1 5 fun v48_12 =>
    q_pI G a0 1 5 (v48_12 - (1 : Int32)) fun G =>
    some (G, ())) N G x1
set_option maxRecDepth 100000 in
set_option maxHeartbeats 4000000 in
theorem bX0_removeAt_0 {p : Program} {l : Launch} {e : Env} {s : State} {m : MethodId} {args : Array Value} {below : List Frame} {meth : Method} {c : Code} {E : mm_E} {N a0 : Nat} {res : mm_M × Unit} (X : mm_X p s m args meth c prog_2_method_7_code 3 "XorOverlay$Bucket" tw_T E) (hr : meth.sig.returnType = none) {G : mm_M} {H : Heap} {locs : List Loc} {ls : Array Slot} {x1 : Int32} (V : mm_V E s G H locs) (hl : lx_has ls 3 [(0, .inr (some a0)), (1, .inl x1)]) (hp : pX0_removeAt_0 N a0 G x1 = some res) : W p l e rX0_removeAt s m args below meth c H locs 0 0 (MQ below (mm_Qv E res.1) args s 0 0 (mm_A E)) (F0 m 0 ls []) := by
  have hx := X.1.1
  have hb := X.1.2.1
  unfold pX0_removeAt_0 at hp
  refine x_iload_n X dX0_removeAt_0 hl 1 rfl rfl ?_
  refine x_istore_n (lst' := [(2, .inl x1), (0, .inr (some a0)), (1, .inl x1)]) X dX0_removeAt_1 hl rfl (by decide) rfl (fun ls hl => ?_)
  refine bX0_removeAt_2 X hr (fun G H locs ls V hl hp => ?_) _ _ _ _ _ _ V (lx_sub hl [1, 0] rfl) hp
  refine x_aload_n X dX0_removeAt_46 hl 0 rfl rfl ?_
  refine lv_dup hx hb dX0_removeAt_47 (va_rf_cat _) ?_
  refine q_getI (ci := 0) X V inX0 rfl (by decide) rfl 5 (by decide) rfl (tw_1 109 rfl rfl) rfl dX0_removeAt_48 hp (fun v48_12 hp => ?_)
  refine lv_iconst (v := (1 : Int32)) hx hb dX0_removeAt_51 (by decide) ?_
  refine lv_isub hx hb dX0_removeAt_52 ?_
  refine q_putI (ci := 0) X V inX0 rfl tyX0 tyX0_ok nmX0 (by decide) rfl 5 (by decide) rfl (tw_1 109 rfl rfl) rfl (Or.inl rfl) .int rfl rfl rfl dX0_removeAt_53 hp (fun G H locs V hp => ?_)
  exact q_vret X V hr ⟨by decide, by decide⟩ dX0_removeAt_56 hp
theorem cX0_removeAt (l : Launch) (E : mm_E) {N a0 : Nat} {G : mm_M} {x1 : Int32} {res : mm_M × Unit} (hp : pX0_removeAt_0 N a0 G x1 = some res) : Met l yX0_removeAt (Cond.code yX0_removeAt prog_2_method_7_code 3 none :: tw_T) rX0_removeAt (mm_Pc E G [.ref a0, .int x1]) (mm_Qv E res.1) 0 0 (mm_A E) :=
  mm_met (own := "XorOverlay$Bucket") E G [.inr (some a0), .inl x1] (by decide) rfl rfl (Nat.le_of_ble_eq_true rfl) (fun p e s m args below meth c ls X hr hi V hl => bX0_removeAt_0 X hr V hl hp)
